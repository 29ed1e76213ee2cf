/-! ===== the law's start: both constructors, run over symbols by the kernel ===== -/
noncomputable def sr_kc {β : Type} (ru : Nat → List mj_r → List mj_r → mj_l Nat → mj_s Nat → mj_h Nat → (Option (mj_v Nat) → mj_h Nat → Option β) → Option β) (d : Nat) (cd tl : List mj_r) (loc : mj_l Nat) (k : Option (mj_v Nat) → mj_h Nat → Option β) (h : mj_h Nat) (m ml : Nat) (as : List (mj_v Nat)) (rest : mj_s Nat) : Option β := match d with
  | d + 1 => match mj_nth mj_cds m with
    | some cd' => ru d cd' cd' (mj_ent ml as) [] h (fun v h1 => ru (d + 1) cd tl loc (match v with
      | none => rest
      | some v => v :: rest) h1 k)
    | none => none
  | 0 => none
noncomputable def sr_run {β : Type} (n : Nat) : Nat → List mj_r → List mj_r → mj_l Nat → mj_s Nat → mj_h Nat → (Option (mj_v Nat) → mj_h Nat → Option β) → Option β :=
  Nat.rec (motive := fun _ => Nat → List mj_r → List mj_r → mj_l Nat → mj_s Nat → mj_h Nat → (Option (mj_v Nat) → mj_h Nat → Option β) → Option β) (fun _ _ _ _ _ _ _ => none)
    (fun _ ih d cd suf loc st h k => match suf with
      | [] => none
      | r :: tl => mj_step (sy_O []) r.2.2.1 r.2.2.2 loc st h (fun loc st h => ih d cd tl loc st h k) (fun j st => ih d cd (mj_drop j cd) loc st h k) (sr_kc ih d cd tl loc k h) (fun v => k v h) none r.2.1) n
theorem sr_run_succ {β : Type} (n d : Nat) (cd : List mj_r) (r : mj_r) (tl : List mj_r) (loc : mj_l Nat) (st : mj_s Nat) (h : mj_h Nat) (k : Option (mj_v Nat) → mj_h Nat → Option β) :
    sr_run (n + 1) d cd (r :: tl) loc st h k = mj_step (sy_O []) r.2.2.1 r.2.2.2 loc st h (fun loc st h => sr_run n d cd tl loc st h k) (fun j st => sr_run n d cd (mj_drop j cd) loc st h k) (sr_kc (sr_run n) d cd tl loc k h) (fun v => k v h) none r.2.1 := rfl
theorem sr_sound {β : Type} {env : Nat → Int32} (hM : sy_M env []) : ∀ (n d : Nat) (cd suf : List mj_r) (loc : mj_l Nat) (st : mj_s Nat) (h : mj_h Nat) (k : Option (mj_v Nat) → mj_h Nat → Option β) (R : β), sr_run n d cd suf loc st h k = some R →
    ∃ v h1, k v h1 = some R ∧ mj_Rn d cd suf (mg_l (sy_g env) loc) (mg_s (sy_g env) st) (mg_h (sy_g env) h) (mg_o (sy_g env) v, mg_h (sy_g env) h1) := by
  intro n
  induction n with
  | zero =>
    intro d cd suf loc st h k R hr
    have hr : (none : Option β) = some R := hr
    cases hr
  | succ n ih =>
    intro d cd suf loc st h k R hr
    cases suf with
    | nil =>
      have hr : (none : Option β) = some R := hr
      cases hr
    | cons r tl =>
      rw [sr_run_succ] at hr
      have key := mj_step_rel (g := sy_g env) (O := sy_O []) (O' := mj_I) (Rel := fun (o : Option β) (P : (Option (mj_v Int32) × mj_h Int32) → Prop) => o = some R → ∃ v h1, k v h1 = some R ∧ P (mg_o (sy_g env) v, mg_h (sy_g env) h1)) (x := r.2.2.1) (xs := r.2.2.2) (loc := loc) (st := st) (h := h)
        (kn := fun loc st h => sr_run n d cd tl loc st h k) (kj := fun j st => sr_run n d cd (mj_drop j cd) loc st h k) (kc := sr_kc (sr_run n) d cd tl loc k h) (kr := fun v => k v h) (sp := none)
        (kn' := fun loc st h R0 => mj_Rn d cd tl loc st h R0) (kj' := fun j st R0 => mj_Rn d cd (mj_drop j cd) (mg_l (sy_g env) loc) st (mg_h (sy_g env) h) R0) (kc' := fun k ml as rest R0 => mj_Kc d cd tl (mg_l (sy_g env) loc) (mg_h (sy_g env) h) R0 k ml as rest) (kr' := fun v R0 => (v, mg_h (sy_g env) h) = R0) (sp' := fun _ => False)
        (sy_inj_spec env) (fun op a b z e => sy_bin_spec hM e) (fun c a b q e => congrArg some (sy_cmp_spec hM e)) (fun a z e => congrArg some (sy_val_spec hM e))
        (fun l s h' e => ih _ _ _ _ _ _ _ _ e)
        (fun j s e => ih _ _ _ _ _ _ _ _ e)
        (fun m ml as rest e => by
          unfold sr_kc at e
          split at e
          · rename_i d'
            split at e
            · rename_i cd' hcd
              obtain ⟨v', h1, a2, a3⟩ := ih _ _ _ _ _ _ _ _ e
              obtain ⟨v2, h2, b2, b3⟩ := ih _ _ _ _ _ _ _ _ a2
              rw [mg_ent] at a3
              refine ⟨v2, h2, b2, d', cd', mg_o (sy_g env) v', mg_h (sy_g env) h1, rfl, by rw [← mj_nth_eq]; exact hcd, a3, ?_⟩
              cases v' <;> exact b3
            · cases e
          · cases e)
        (fun v e => ⟨v, h, e, rfl⟩) (fun a' e => by cases e) r.2.1
      obtain ⟨v, h1, a1, a2⟩ := key hr
      exact ⟨v, h1, a1, mj_Rn.step' a2⟩
theorem mj_Rn.det {d : Nat} {cd suf : List mj_r} {loc : mj_l Int32} {st : mj_s Int32} {h : mj_h Int32} {R R' : Option (mj_v Int32) × mj_h Int32} (h1 : mj_Rn d cd suf loc st h R) (h2 : mj_Rn d cd suf loc st h R') : R = R' := by
  obtain ⟨N, e1⟩ := h1
  obtain ⟨M, e2⟩ := h2
  exact Option.some.inj ((mj_mono (Nat.le_max_left N M) e1).symm.trans (mj_mono (Nat.le_max_right N M) e2))
/-! ### shapes of cells -/
def sr_f {V : Type} (v : mj_v V) : Option (Option Nat) := match v with
  | .inl _ => none
  | .inr r => some r
abbrev sr_T : Type := (Nat × Nat) ⊕ ((Nat × List (Option Nat)) ⊕ (Nat × List (Option (Option Nat))))
def sr_cell {V : Type} (x : Nat) (c : mj_c V) : sr_T := match c with
  | .inl (t, n, _) => .inl (t, n)
  | .inr (.inl (n, f)) => .inr (.inl (n, [f 0, f 1, f 2, f 3, f 4, f 5, f (x + 6)]))
  | .inr (.inr (c, fs)) => .inr (.inr (c, fs.map sr_f))
def sr_pc (x : Nat) (p : wt_p) : sr_T := match p with
  | .inl (t, n) => .inl (t, n)
  | .inr (.inl (n, f)) => .inr (.inl (n, [f 0, f 1, f 2, f 3, f 4, f 5, f (x + 6)]))
  | .inr (.inr (c, fs)) => .inr (.inr (c, fs))
theorem sr_cell_g {V V' : Type} {g : V → V'} {x : Nat} (c : mj_c V) : sr_cell x (mg_c g c) = sr_cell x c := by
  rcases c with ⟨t, n, f⟩ | (⟨n, f⟩ | ⟨ci, fs⟩)
  · rfl
  · rfl
  · show (Sum.inr (Sum.inr (ci, (fs.map (mg_v g)).map sr_f)) : sr_T) = Sum.inr (Sum.inr (ci, fs.map sr_f))
    rw [List.map_map]
    congr 3
    apply List.map_congr_left
    intro v _
    rcases v with v | r <;> rfl
noncomputable def cvv (c : mj_c Int32) (k : Nat) : Int32 := match c with
  | .inl (_, _, f) => f k
  | .inr (.inl _) => 0
  | .inr (.inr (_, fs)) => match mj_nth fs k with
    | some (.inl v) => v
    | _ => 0
noncomputable def wx (H : mj_h Int32) : wt_S := fun a k => match mj_nth H a with
  | some c => cvv c k
  | none => 0
theorem sr_fs {f : Nat → Int32} : ∀ (fs : List (mj_v Int32)) (i : Nat), (∀ j v, mj_nth fs j = some (.inl v) → f (i + j) = v) → wt_fs f (fs.map sr_f) i = fs := by
  intro fs
  induction fs with
  | nil => intro i h; rfl
  | cons v fs ih =>
    intro i h
    have ht := ih (i + 1) (fun j w e => by
      have := h (j + 1) w e
      rw [show i + 1 + j = i + (j + 1) by omega]
      exact this)
    rcases v with v | r
    · show Sum.inl (f i) :: wt_fs f (fs.map sr_f) (i + 1) = _
      rw [ht, show f i = v from h 0 v rfl]
    · show Sum.inr r :: wt_fs f (fs.map sr_f) (i + 1) = _
      rw [ht]
theorem sr_c1 {c : mj_c Int32} {p : wt_p} (h : ∀ x, sr_cell x c = sr_pc x p) : wt_c p (cvv c) = c := by
  rcases c with ⟨t, n, f⟩ | (⟨n, f⟩ | ⟨ci, fs⟩) <;> rcases p with ⟨t', n'⟩ | (⟨n', f'⟩ | ⟨ci', fs'⟩)
  · have h0 : (Sum.inl (t, n) : sr_T) = Sum.inl (t', n') := h 0
    cases h0
    rfl
  · exact absurd (h 0) (by simp [sr_cell, sr_pc])
  · exact absurd (h 0) (by simp [sr_cell, sr_pc])
  · exact absurd (h 0) (by simp [sr_cell, sr_pc])
  · have h1 : ∀ x, n = n' ∧ f 0 = f' 0 ∧ f 1 = f' 1 ∧ f 2 = f' 2 ∧ f 3 = f' 3 ∧ f 4 = f' 4 ∧ f 5 = f' 5 ∧ f (x + 6) = f' (x + 6) := fun x => by
      have h0 : (Sum.inr (Sum.inl (n, [f 0, f 1, f 2, f 3, f 4, f 5, f (x + 6)])) : sr_T) = Sum.inr (Sum.inl (n', [f' 0, f' 1, f' 2, f' 3, f' 4, f' 5, f' (x + 6)])) := h x
      simpa using h0
    have e : f = f' := by
      funext k
      match k with
      | 0 => exact (h1 0).2.1
      | 1 => exact (h1 0).2.2.1
      | 2 => exact (h1 0).2.2.2.1
      | 3 => exact (h1 0).2.2.2.2.1
      | 4 => exact (h1 0).2.2.2.2.2.1
      | 5 => exact (h1 0).2.2.2.2.2.2.1
      | k + 6 => exact (h1 k).2.2.2.2.2.2.2
    obtain rfl := (h1 0).1
    subst e
    rfl
  · exact absurd (h 0) (by simp [sr_cell, sr_pc])
  · exact absurd (h 0) (by simp [sr_cell, sr_pc])
  · exact absurd (h 0) (by simp [sr_cell, sr_pc])
  · have h0 : (Sum.inr (Sum.inr (ci, fs.map sr_f)) : sr_T) = Sum.inr (Sum.inr (ci', fs')) := h 0
    cases h0
    show (Sum.inr (Sum.inr (ci, wt_fs (cvv (Sum.inr (Sum.inr (ci, fs)))) (fs.map sr_f) 0)) : mj_c Int32) = _
    rw [sr_fs fs 0 (fun j v e => by
      rw [Nat.zero_add]
      show (match mj_nth fs j with
        | some (.inl v) => v
        | _ => 0) = v
      rw [e])]
theorem sr_es {s : wt_S} : ∀ (h : mj_h Int32) (P : List wt_p) (i : Nat), (∀ x, h.map (sr_cell x) = P.map (sr_pc x)) → (∀ a c, mj_nth h a = some c → s (i + a) = cvv c) → wt_es s P i = h := by
  intro h
  induction h with
  | nil =>
    intro P i hx _
    cases P with
    | nil => rfl
    | cons p P => exact absurd (hx 0) (by simp)
  | cons c h ih =>
    intro P i hx hs
    cases P with
    | nil => exact absurd (hx 0) (by simp)
    | cons p P =>
      have h1 : ∀ x, sr_cell x c = sr_pc x p ∧ h.map (sr_cell x) = P.map (sr_pc x) := fun x => by
        have := hx x
        rw [List.map_cons, List.map_cons] at this
        exact List.cons.inj this
      show wt_c p (s i) :: wt_es s P (i + 1) = c :: h
      rw [show s i = cvv c from hs 0 c rfl, sr_c1 (fun x => (h1 x).1), ih P (i + 1) (fun x => (h1 x).2) (fun a c' e => by
        have := hs (a + 1) c' e
        rw [show i + 1 + a = i + (a + 1) by omega]
        exact this)]
theorem sr_wt {h : mj_h Int32} {P : List wt_p} (hx : ∀ x, h.map (sr_cell x) = P.map (sr_pc x)) : h = wt_e P (wx h) :=
  (sr_es h P 0 hx (fun a c e => by
    funext k
    unfold wx
    rw [Nat.zero_add, e])).symm
/-! ### values -/
noncomputable def sr_val (h : mj_h Nat) (a k : Nat) : Nat := match mj_nth h a with
  | some (.inl (_, _, f)) => f k
  | some (.inr (.inr (_, fs))) => match mj_nth fs k with
    | some (.inl v) => v
    | _ => 2147483648
  | _ => 2147483648
theorem sr_g0 (env : Nat → Int32) : sy_g env 2147483648 = 0 := by
  unfold sy_g
  rw [if_pos (by decide)]
  rfl
theorem sr_val_x {env : Nat → Int32} {h : mj_h Nat} {a k : Nat} : wx (mg_h (sy_g env) h) a k = sy_g env (sr_val h a k) := by
  unfold wx sr_val mg_h
  rw [mg_nth]
  cases e : mj_nth h a with
  | none => exact (sr_g0 env).symm
  | some c =>
    rcases c with ⟨t, n, f⟩ | (⟨n, f⟩ | ⟨ci, fs⟩)
    · rfl
    · exact (sr_g0 env).symm
    · show (match mj_nth (fs.map (mg_v (sy_g env))) k with
        | some (.inl v) => v
        | _ => 0) = sy_g env (match mj_nth fs k with
        | some (.inl v) => v
        | _ => 2147483648)
      rw [mg_nth]
      cases e2 : mj_nth fs k with
      | none => exact (sr_g0 env).symm
      | some v =>
        rcases v with v | r
        · rfl
        · exact (sr_g0 env).symm
