/-! ===== more fuel does no harm; runs without their fuel ===== -/
theorem mg_v_id {V : Type} (v : mj_v V) : mg_v id v = v := by rcases v with x | r <;> rfl
theorem mg_o_id {V : Type} (v : Option (mj_v V)) : mg_o id v = v := by
  cases v with
  | none => rfl
  | some v => show some (mg_v id v) = _; rw [mg_v_id]
theorem mg_s_id {V : Type} (l : mj_s V) : mg_s id l = l := by
  unfold mg_s
  rw [show (mg_v id : mj_v V → mj_v V) = id from funext mg_v_id, List.map_id]
theorem mg_l_id {V : Type} (l : mj_l V) : mg_l id l = l := by
  unfold mg_l
  rw [show (mg_o id : Option (mj_v V) → Option (mj_v V)) = id from funext mg_o_id, List.map_id]
theorem mg_c_id {V : Type} (c : mj_c V) : mg_c id c = c := by
  rcases c with ⟨t, n, f⟩ | (q | ⟨c, fs⟩)
  · rfl
  · rfl
  · show Sum.inr (Sum.inr (c, mg_s id fs)) = _
    rw [mg_s_id]
theorem mg_h_id {V : Type} (h : mj_h V) : mg_h id h = h := by
  unfold mg_h
  rw [show (mg_c id : mj_c V → mj_c V) = id from funext mg_c_id, List.map_id]
theorem mj_kc_mk {V : Type} {ex : Nat → List mj_r → List mj_r → mj_l V → mj_s V → mj_h V → Option (Option (mj_v V) × mj_h V)} {cds : List (List mj_r)} {d' : Nat} {cd tl cd' : List mj_r} {loc : mj_l V} {h h1 : mj_h V} {k ml : Nat} {as : List (mj_v V)} {rest : mj_s V} {v : Option (mj_v V)} {R0 : Option (mj_v V) × mj_h V}
    (h1' : cds[k]? = some cd') (e1 : ex d' cd' cd' (mj_ent ml as) [] h = some (v, h1)) (e2 : ex (d' + 1) cd tl loc (v.toList ++ rest) h1 = some R0) : mj_kc ex cds (d' + 1) cd tl loc h k ml as rest = some R0 := by
  unfold mj_kc
  rw [mj_nth_eq, h1']
  dsimp only
  rw [e1]
  cases v <;> exact e2
theorem mj_mono1 {V : Type} {O : mj_O V} {cds : List (List mj_r)} : ∀ (N d : Nat) (cd suf : List mj_r) (loc : mj_l V) (st : mj_s V) (h : mj_h V) (R0 : Option (mj_v V) × mj_h V), mj_exec O cds N d cd suf loc st h = some R0 → mj_exec O cds (N + 1) d cd suf loc st h = some R0 := by
  intro N
  induction N with
  | zero =>
    intro d cd suf loc st h R0 hE
    have hE : (none : Option (Option (mj_v V) × mj_h V)) = some R0 := hE
    cases hE
  | succ N ih =>
    intro d cd suf loc st h R0 hE
    cases suf with
    | nil =>
      have hE : (none : Option (Option (mj_v V) × mj_h V)) = some R0 := hE
      cases hE
    | cons r tl =>
      rw [mj_exec_succ] at hE ⊢
      have := mj_step_rel (g := id) (O := O) (O' := O) (Rel := fun o o' => ∀ R, o = some R → o' = some R) (x := r.2.2.1) (xs := r.2.2.2) (loc := loc) (st := st) (h := h)
        (kn := fun loc st h => mj_exec O cds N d cd tl loc st h) (kj := fun j st => mj_exec O cds N d cd (mj_drop j cd) loc st h) (kc := mj_kc (mj_exec O cds N) cds d cd tl loc h) (kr := fun v => some (v, h)) (sp := none)
        (kn' := fun loc st h => mj_exec O cds (N + 1) d cd tl loc st h) (kj' := fun j st => mj_exec O cds (N + 1) d cd (mj_drop j cd) loc st h) (kc' := mj_kc (mj_exec O cds (N + 1)) cds d cd tl loc h) (kr' := fun v => some (v, h)) (sp' := none)
        (fun _ => rfl) (fun _ _ _ _ h => h) (fun _ _ _ _ h => h) (fun _ _ h => h)
        (fun l s h' R e => by rw [mg_l_id, mg_s_id, mg_h_id]; exact ih _ _ _ _ _ _ _ e)
        (fun j s R e => by rw [mg_s_id]; exact ih _ _ _ _ _ _ _ e)
        (fun k ml as rest R e => by
          rw [mg_s_id, mg_s_id]
          obtain ⟨d', cd', v, h2, rfl, h3, e1, e2⟩ := mj_kc_spec e
          exact mj_kc_mk h3 (ih _ _ _ _ _ _ _ e1) (ih _ _ _ _ _ _ _ e2))
        (fun v R e => by rw [mg_o_id]; exact e) (fun a' R e => by cases e) r.2.1
      rw [mg_l_id, mg_s_id, mg_h_id] at this
      exact this _ hE
theorem mj_mono {V : Type} {O : mj_O V} {cds : List (List mj_r)} {N M d : Nat} {cd suf : List mj_r} {loc : mj_l V} {st : mj_s V} {h : mj_h V} {R0 : Option (mj_v V) × mj_h V} (hle : N ≤ M) (hE : mj_exec O cds N d cd suf loc st h = some R0) : mj_exec O cds M d cd suf loc st h = some R0 := by
  induction hle with
  | refl => exact hE
  | step _ ih => exact mj_mono1 _ _ _ _ _ _ _ _ ih
/-- it runs, and ends so -/
def mj_Rn (d : Nat) (cd suf : List mj_r) (loc : mj_l Int32) (st : mj_s Int32) (h : mj_h Int32) (R0 : Option (mj_v Int32) × mj_h Int32) : Prop := ∃ N, mj_exec mj_I mj_cds N d cd suf loc st h = some R0
/-- the calls of a run -/
def mj_Kc (d : Nat) (cd tl : List mj_r) (loc : mj_l Int32) (h : mj_h Int32) (R0 : Option (mj_v Int32) × mj_h Int32) (k ml : Nat) (as : List (mj_v Int32)) (rest : mj_s Int32) : Prop := ∃ d' cd' v h1, d = d' + 1 ∧ mj_cds[k]? = some cd' ∧ mj_Rn d' cd' cd' (mj_ent ml as) [] h (v, h1) ∧ mj_Rn d cd tl loc (v.toList ++ rest) h1 R0
theorem mj_step_at {V β γ : Type} {O : mj_O V} {x : Nat} {xs : List Nat} {loc : mj_l V} {st : mj_s V} {h : mj_h V} {kn : mj_l V → mj_s V → mj_h V → γ → β} {kj : Nat → mj_s V → γ → β} {kc : Nat → Nat → List (mj_v V) → mj_s V → γ → β} {kr : Option (mj_v V) → γ → β} {sp : γ → β} (N : γ) (ins : Instr) :
    mj_step O x xs loc st h (fun l s h => kn l s h N) (fun j s => kj j s N) (fun k ml as rest => kc k ml as rest N) (fun v => kr v N) (sp N) ins = mj_step O x xs loc st h kn kj kc kr sp ins N ∨ mj_step O x xs loc st h kn kj kc kr sp ins = sp := by
  have := mj_step_rel (g := id) (O := O) (O' := O) (Rel := fun (f : γ → β) (b : β) => b = f N ∨ f = sp) (x := x) (xs := xs) (loc := loc) (st := st) (h := h) (kn := kn) (kj := kj) (kc := kc) (kr := kr) (sp := sp)
    (kn' := fun l s h => kn l s h N) (kj' := fun j s => kj j s N) (kc' := fun k ml as rest => kc k ml as rest N) (kr' := fun v => kr v N) (sp' := sp N)
    (fun _ => rfl) (fun _ _ _ _ h => h) (fun _ _ _ _ h => h) (fun _ _ h => h)
    (fun l s h' => by rw [mg_l_id, mg_s_id, mg_h_id]; exact Or.inl rfl) (fun j s => by rw [mg_s_id]; exact Or.inl rfl) (fun k ml as rest => by rw [mg_s_id, mg_s_id]; exact Or.inl rfl) (fun v => by rw [mg_o_id]; exact Or.inl rfl) (fun a' => Or.inr rfl) ins
  rw [mg_l_id, mg_s_id, mg_h_id] at this
  exact this
/-- a step of a run -/
theorem mj_Rn.step {d : Nat} {cd tl : List mj_r} {r : mj_r} {loc : mj_l Int32} {st : mj_s Int32} {h : mj_h Int32} {R0 : Option (mj_v Int32) × mj_h Int32}
    (hs : mj_step (α := Prop) mj_I r.2.2.1 r.2.2.2 loc st h (fun loc st h => mj_Rn d cd tl loc st h R0) (fun j st => mj_Rn d cd (mj_drop j cd) loc st h R0) (mj_Kc d cd tl loc h R0) (fun v => (v, h) = R0) False r.2.1) : mj_Rn d cd (r :: tl) loc st h R0 := by
  have := mj_step_rel (g := id) (O := mj_I) (O' := mj_I) (Rel := fun (P : Prop) (f : Nat → Option (Option (mj_v Int32) × mj_h Int32)) => P → ∃ N, ∀ M, N ≤ M → f M = some R0) (x := r.2.2.1) (xs := r.2.2.2) (loc := loc) (st := st) (h := h)
    (kn := fun loc st h => mj_Rn d cd tl loc st h R0) (kj := fun j st => mj_Rn d cd (mj_drop j cd) loc st h R0) (kc := mj_Kc d cd tl loc h R0) (kr := fun v => (v, h) = R0) (sp := False)
    (kn' := fun loc st h N => mj_exec mj_I mj_cds N d cd tl loc st h) (kj' := fun j st N => mj_exec mj_I mj_cds N d cd (mj_drop j cd) loc st h) (kc' := fun k ml as rest N => mj_kc (mj_exec mj_I mj_cds N) mj_cds d cd tl loc h k ml as rest) (kr' := fun v N => some (v, h)) (sp' := fun N => none)
    (fun _ => rfl) (fun _ _ _ _ h => h) (fun _ _ _ _ h => h) (fun _ _ h => h)
    (fun l s h' ⟨N, e⟩ => by rw [mg_l_id, mg_s_id, mg_h_id]; exact ⟨N, fun M hM => mj_mono hM e⟩)
    (fun j s ⟨N, e⟩ => by rw [mg_s_id]; exact ⟨N, fun M hM => mj_mono hM e⟩)
    (fun k ml as rest q => by
      rw [mg_s_id, mg_s_id]
      obtain ⟨d', cd', v, h2, rfl, h3, ⟨N1, e1⟩, ⟨N2, e2⟩⟩ := q
      exact ⟨max N1 N2, fun M hM => mj_kc_mk h3 (mj_mono (by omega) e1) (mj_mono (by omega) e2)⟩)
    (fun v e => by rw [mg_o_id]; exact ⟨0, fun M _ => by rw [e]⟩) (fun a' q => q.elim) r.2.1 hs
  rw [mg_l_id, mg_s_id, mg_h_id] at this
  obtain ⟨N, hN⟩ := this
  refine ⟨N + 1, ?_⟩
  rw [mj_exec_succ]
  have hq := hN N (Nat.le_refl _)
  rcases mj_step_at (O := mj_I) (x := r.2.2.1) (xs := r.2.2.2) (loc := loc) (st := st) (h := h) (kn := fun loc st h N => mj_exec mj_I mj_cds N d cd tl loc st h) (kj := fun j st N => mj_exec mj_I mj_cds N d cd (mj_drop j cd) loc st h) (kc := fun k ml as rest N => mj_kc (mj_exec mj_I mj_cds N) mj_cds d cd tl loc h k ml as rest) (kr := fun v N => some (v, h)) (sp := fun N => none) N r.2.1 with h1 | h1
  · exact h1.trans hq
  · rw [h1] at hq
    cases hq
