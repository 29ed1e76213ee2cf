/-! ===== the law's start: both constructors, run over symbols by the kernel ===== -/
noncomputable def sr_kc {β : Type} (ru : Nat → List mj_r → List mj_r → mj_l Nat → mj_s Nat → mj_h Nat → (Option (mj_v Nat) → mj_h Nat → Option β) → Option β) (d : Nat) (cd tl : List mj_r) (loc : mj_l Nat) (k : Option (mj_v Nat) → mj_h Nat → Option β) (h : mj_h Nat) (m ml : Nat) (as : List (mj_v Nat)) (rest : mj_s Nat) : Option β := match d with
  | d + 1 => match mj_nth mj_cds m with
    | some cd' => ru d cd' cd' (mj_ent ml as) [] h (fun v h1 => ru (d + 1) cd tl loc (match v with
      | none => rest
      | some v => v :: rest) h1 k)
    | none => none
  | 0 => none
noncomputable def sr_run {β : Type} (n : Nat) : Nat → List mj_r → List mj_r → mj_l Nat → mj_s Nat → mj_h Nat → (Option (mj_v Nat) → mj_h Nat → Option β) → Option β :=
  Nat.rec (motive := fun _ => Nat → List mj_r → List mj_r → mj_l Nat → mj_s Nat → mj_h Nat → (Option (mj_v Nat) → mj_h Nat → Option β) → Option β) (fun _ _ _ _ _ _ _ => none)
    (fun _ ih d cd suf loc st h k => match suf with
      | [] => none
      | r :: tl => mj_step (sy_O []) r.2.2.1 r.2.2.2 loc st h (fun loc st h => ih d cd tl loc st h k) (fun j st => ih d cd (mj_drop j cd) loc st h k) (sr_kc ih d cd tl loc k h) (fun v => k v h) none r.2.1) n
theorem sr_run_succ {β : Type} (n d : Nat) (cd : List mj_r) (r : mj_r) (tl : List mj_r) (loc : mj_l Nat) (st : mj_s Nat) (h : mj_h Nat) (k : Option (mj_v Nat) → mj_h Nat → Option β) :
    sr_run (n + 1) d cd (r :: tl) loc st h k = mj_step (sy_O []) r.2.2.1 r.2.2.2 loc st h (fun loc st h => sr_run n d cd tl loc st h k) (fun j st => sr_run n d cd (mj_drop j cd) loc st h k) (sr_kc (sr_run n) d cd tl loc k h) (fun v => k v h) none r.2.1 := rfl
theorem sr_sound {β : Type} {env : Nat → Int32} (hM : sy_M env []) : ∀ (n d : Nat) (cd suf : List mj_r) (loc : mj_l Nat) (st : mj_s Nat) (h : mj_h Nat) (k : Option (mj_v Nat) → mj_h Nat → Option β) (R : β), sr_run n d cd suf loc st h k = some R →
    ∃ v h1, k v h1 = some R ∧ mj_Rn d cd suf (mg_l (sy_g env) loc) (mg_s (sy_g env) st) (mg_h (sy_g env) h) (mg_o (sy_g env) v, mg_h (sy_g env) h1) := by
  intro n
  induction n with
  | zero =>
    intro d cd suf loc st h k R hr
    have hr : (none : Option β) = some R := hr
    cases hr
  | succ n ih =>
    intro d cd suf loc st h k R hr
    cases suf with
    | nil =>
      have hr : (none : Option β) = some R := hr
      cases hr
    | cons r tl =>
      rw [sr_run_succ] at hr
      have key := mj_step_rel (g := sy_g env) (O := sy_O []) (O' := mj_I) (Rel := fun (o : Option β) (P : (Option (mj_v Int32) × mj_h Int32) → Prop) => o = some R → ∃ v h1, k v h1 = some R ∧ P (mg_o (sy_g env) v, mg_h (sy_g env) h1)) (x := r.2.2.1) (xs := r.2.2.2) (loc := loc) (st := st) (h := h)
        (kn := fun loc st h => sr_run n d cd tl loc st h k) (kj := fun j st => sr_run n d cd (mj_drop j cd) loc st h k) (kc := sr_kc (sr_run n) d cd tl loc k h) (kr := fun v => k v h) (sp := none)
        (kn' := fun loc st h R0 => mj_Rn d cd tl loc st h R0) (kj' := fun j st R0 => mj_Rn d cd (mj_drop j cd) (mg_l (sy_g env) loc) st (mg_h (sy_g env) h) R0) (kc' := fun k ml as rest R0 => mj_Kc d cd tl (mg_l (sy_g env) loc) (mg_h (sy_g env) h) R0 k ml as rest) (kr' := fun v R0 => (v, mg_h (sy_g env) h) = R0) (sp' := fun _ => False)
        (sy_inj_spec env) (fun op a b z e => sy_bin_spec hM e) (fun c a b q e => congrArg some (sy_cmp_spec hM e)) (fun a z e => congrArg some (sy_val_spec hM e))
        (fun l s h' e => ih _ _ _ _ _ _ _ _ e)
        (fun j s e => ih _ _ _ _ _ _ _ _ e)
        (fun m ml as rest e => by
          unfold sr_kc at e
          split at e
          · rename_i d'
            split at e
            · rename_i cd' hcd
              obtain ⟨v', h1, a2, a3⟩ := ih _ _ _ _ _ _ _ _ e
              obtain ⟨v2, h2, b2, b3⟩ := ih _ _ _ _ _ _ _ _ a2
              rw [mg_ent] at a3
              refine ⟨v2, h2, b2, d', cd', mg_o (sy_g env) v', mg_h (sy_g env) h1, rfl, by rw [← mj_nth_eq]; exact hcd, a3, ?_⟩
              cases v' <;> exact b3
            · cases e
          · cases e)
        (fun v e => ⟨v, h, e, rfl⟩) (fun a' e => by cases e) r.2.1
      obtain ⟨v, h1, a1, a2⟩ := key hr
      exact ⟨v, h1, a1, mj_Rn.step' a2⟩
theorem mj_Rn.det {d : Nat} {cd suf : List mj_r} {loc : mj_l Int32} {st : mj_s Int32} {h : mj_h Int32} {R R' : Option (mj_v Int32) × mj_h Int32} (h1 : mj_Rn d cd suf loc st h R) (h2 : mj_Rn d cd suf loc st h R') : R = R' := by
  obtain ⟨N, e1⟩ := h1
  obtain ⟨M, e2⟩ := h2
  exact Option.some.inj ((mj_mono (Nat.le_max_left N M) e1).symm.trans (mj_mono (Nat.le_max_right N M) e2))
