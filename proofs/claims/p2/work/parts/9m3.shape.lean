/-! ===== shapes of cells ===== -/
def sr_f {V : Type} (v : mj_v V) : Option (Option Nat) := match v with
  | .inl _ => none
  | .inr r => some r
def sr_e1 (v : Option Nat) : Nat := match v with
  | none => 0
  | some r => r + 1
def sr_e2 (v : Option (Option Nat)) : Nat := match v with
  | none => 0
  | some r => sr_e1 r + 1
theorem sr_e1i {v w : Option Nat} (h : sr_e1 v = sr_e1 w) : v = w := by
  cases v <;> cases w <;> simp [sr_e1] at h <;> simp [h]
theorem sr_e2i {v w : Option (Option Nat)} (h : sr_e2 v = sr_e2 w) : v = w := by
  cases v with
  | none =>
    cases w with
    | none => rfl
    | some w => simp [sr_e2] at h
  | some v =>
    cases w with
    | none => simp [sr_e2] at h
    | some w => rw [sr_e1i (show sr_e1 v = sr_e1 w by simpa [sr_e2] using h)]
theorem sr_e2l : ∀ {l m : List (Option (Option Nat))}, l.map sr_e2 = m.map sr_e2 → l = m := by
  intro l
  induction l with
  | nil =>
    intro m h
    cases m with
    | nil => rfl
    | cons a m => simp at h
  | cons a l ih =>
    intro m h
    cases m with
    | nil => simp at h
    | cons b m =>
      rw [List.map_cons, List.map_cons] at h
      obtain ⟨h1, h2⟩ := List.cons.inj h
      rw [sr_e2i h1, ih h2]
abbrev sr_T : Type := List Nat
def sr_cell {V : Type} (c : mj_c V) : sr_T := match c with
  | .inl (t, n, _) => [0, t, n]
  | .inr (.inl (n, f)) => [1, n, sr_e1 (f 0), sr_e1 (f 1), sr_e1 (f 2), sr_e1 (f 3), sr_e1 (f 4), sr_e1 (f 5)]
  | .inr (.inr (c, fs)) => 2 :: c :: (fs.map sr_f).map sr_e2
def sr_pc (p : wt_p) : sr_T := match p with
  | .inl (t, n) => [0, t, n]
  | .inr (.inl (n, f)) => [1, n, sr_e1 (f 0), sr_e1 (f 1), sr_e1 (f 2), sr_e1 (f 3), sr_e1 (f 4), sr_e1 (f 5)]
  | .inr (.inr (c, fs)) => 2 :: c :: fs.map sr_e2
def sr_good (p : wt_p) : Prop := match p with
  | .inl _ => True
  | .inr (.inl (n, f)) => n = 6 ∧ ∀ k, 6 ≤ k → f k = none
  | .inr (.inr _) => True
noncomputable def cvv (c : mj_c Int32) (k : Nat) : Int32 := match c with
  | .inl (_, _, f) => f k
  | .inr (.inl _) => 0
  | .inr (.inr (_, fs)) => match mj_nth fs k with
    | some (.inl v) => v
    | _ => 0
noncomputable def wx (H : mj_h Int32) : wt_S := fun a k => match mj_nth H a with
  | some c => cvv c k
  | none => 0
theorem sr_fs {f : Nat → Int32} : ∀ (fs : List (mj_v Int32)) (i : Nat), (∀ j v, mj_nth fs j = some (.inl v) → f (i + j) = v) → wt_fs f (fs.map sr_f) i = fs := by
  intro fs
  induction fs with
  | nil => intro i h; rfl
  | cons v fs ih =>
    intro i h
    have ht := ih (i + 1) (fun j w e => by
      have := h (j + 1) w e
      rw [show i + 1 + j = i + (j + 1) by omega]
      exact this)
    rcases v with v | r
    · show Sum.inl (f i) :: wt_fs f (fs.map sr_f) (i + 1) = _
      rw [ht, show f i = v from h 0 v rfl]
    · show Sum.inr r :: wt_fs f (fs.map sr_f) (i + 1) = _
      rw [ht]
theorem sr_map {g : Nat → Int32} (fs : List (mj_v Nat)) : (mg_s g fs).map sr_f = fs.map sr_f := by
  unfold mg_s
  rw [List.map_map]
  apply List.map_congr_left
  intro v _
  rcases v with v | r <;> rfl
theorem sr_c2 {g : Nat → Int32} {c : mj_c Nat} {c' : mj_c Int32} {p : wt_p} (hc : hcl g c c') (hs : sr_cell c = sr_pc p) (hp : sr_good p) : wt_c p (cvv c') = c' := by
  rcases c with ⟨t, n, f⟩ | (⟨n, f⟩ | ⟨ci, fs⟩) <;> rcases p with ⟨t', n'⟩ | (⟨n', f'⟩ | ⟨ci', fs'⟩)
  · have e : t = t' ∧ n = n' := by simpa [sr_cell, sr_pc] using hs
    have hc : c' = .inl (t, n, fun j => g (f j)) := hc
    obtain ⟨rfl, rfl⟩ := e
    subst hc
    rfl
  · exact absurd hs (by simp [sr_cell, sr_pc])
  · exact absurd hs (by simp [sr_cell, sr_pc])
  · exact absurd hs (by simp [sr_cell, sr_pc])
  · have e : n = n' ∧ sr_e1 (f 0) = sr_e1 (f' 0) ∧ sr_e1 (f 1) = sr_e1 (f' 1) ∧ sr_e1 (f 2) = sr_e1 (f' 2) ∧ sr_e1 (f 3) = sr_e1 (f' 3) ∧ sr_e1 (f 4) = sr_e1 (f' 4) ∧ sr_e1 (f 5) = sr_e1 (f' 5) := by simpa [sr_cell, sr_pc] using hs
    obtain ⟨fx, hx, h1, h2⟩ := hc
    obtain ⟨hp1, hp2⟩ := hp
    obtain ⟨en, e0, e1, e2, e3, e4, e5⟩ := e
    have ef : fx = f' := by
      funext k
      match k with
      | 0 => rw [h1 0 (by omega)]; exact sr_e1i e0
      | 1 => rw [h1 1 (by omega)]; exact sr_e1i e1
      | 2 => rw [h1 2 (by omega)]; exact sr_e1i e2
      | 3 => rw [h1 3 (by omega)]; exact sr_e1i e3
      | 4 => rw [h1 4 (by omega)]; exact sr_e1i e4
      | 5 => rw [h1 5 (by omega)]; exact sr_e1i e5
      | k + 6 => rw [h2 (k + 6) (by omega), hp2 (k + 6) (by omega)]
    subst hx
    subst ef
    subst en
    rfl
  · exact absurd hs (by simp [sr_cell, sr_pc])
  · exact absurd hs (by simp [sr_cell, sr_pc])
  · exact absurd hs (by simp [sr_cell, sr_pc])
  · have e : ci = ci' ∧ fs.map sr_f = fs' := by
      have hs : 2 :: ci :: (fs.map sr_f).map sr_e2 = 2 :: ci' :: fs'.map sr_e2 := hs
      have h1 := (List.cons.inj hs).2
      exact ⟨(List.cons.inj h1).1, sr_e2l (List.cons.inj h1).2⟩
    have hc : c' = .inr (.inr (ci, mg_s g fs)) := hc
    obtain ⟨rfl, rfl⟩ := e
    subst hc
    show (Sum.inr (Sum.inr (ci, wt_fs (cvv (Sum.inr (Sum.inr (ci, mg_s g fs)))) (fs.map sr_f) 0)) : mj_c Int32) = _
    rw [← sr_map (g := g), sr_fs (mg_s g fs) 0 (fun j v e => by
      rw [Nat.zero_add]
      show (match mj_nth (mg_s g fs) j with
        | some (.inl v) => v
        | _ => 0) = v
      rw [e])]
theorem sr_es2 {g : Nat → Int32} {s : wt_S} : ∀ (h : mj_h Nat) (h' : mj_h Int32) (P : List wt_p) (i : Nat), h'.length = h.length → (∀ a c, mj_nth h a = some c → ∃ c', mj_nth h' a = some c' ∧ hcl g c c') → h.map sr_cell = P.map sr_pc → (∀ p ∈ P, sr_good p) → (∀ a c', mj_nth h' a = some c' → s (i + a) = cvv c') → wt_es s P i = h' := by
  intro h
  induction h with
  | nil =>
    intro h' P i hl _ hx _ _
    cases P with
    | nil =>
      cases h' with
      | nil => rfl
      | cons c h' => exact absurd hl (by simp)
    | cons p P => exact absurd hx (by simp)
  | cons c h ih =>
    intro h' P i hl hc hx hp hs
    cases P with
    | nil => exact absurd hx (by simp)
    | cons p P =>
      cases h' with
      | nil => exact absurd hl (by simp)
      | cons c' h' =>
        rw [List.map_cons, List.map_cons] at hx
        obtain ⟨x1, x2⟩ := List.cons.inj hx
        obtain ⟨c2, e1, e2⟩ := hc 0 c rfl
        have e1 : some c' = some c2 := e1
        cases e1
        show wt_c p (s i) :: wt_es s P (i + 1) = c' :: h'
        rw [show s i = cvv c' from hs 0 c' rfl, sr_c2 e2 x1 (hp p List.mem_cons_self), ih h' P (i + 1) (by simpa using hl) (fun a c e => hc (a + 1) c e) x2 (fun p hq => hp p (List.mem_cons_of_mem _ hq)) (fun a c' e => by
          have := hs (a + 1) c' e
          rw [show i + 1 + a = i + (a + 1) by omega]
          exact this)]
/-! ### values -/
noncomputable def sr_val (h : mj_h Nat) (a k : Nat) : Nat := match mj_nth h a with
  | some (.inl (_, _, f)) => f k
  | some (.inr (.inr (_, fs))) => match mj_nth fs k with
    | some (.inl v) => v
    | _ => 2147483648
  | _ => 2147483648
theorem sr_g0 (env : Nat → Int32) : sy_g env 2147483648 = 0 := by
  unfold sy_g
  rw [if_pos (by decide)]
  rfl
theorem sr_val_x {env : Nat → Int32} {C0 : mj_c Int32} {h : mj_h Nat} {h' : mj_h Int32} (hh : HR (sy_g env) C0 h h') {a k : Nat} (ha : a ≠ 0) : wx h' a k = sy_g env (sr_val h a k) := by
  unfold wx sr_val
  cases e : mj_nth h a with
  | none =>
    have : mj_nth h' a = none := by
      rw [mj_nth_eq] at e ⊢
      rw [List.getElem?_eq_none_iff] at e ⊢
      rw [hh.1]; exact e
    rw [this]
    exact (sr_g0 env).symm
  | some c =>
    obtain ⟨c', e1, e2⟩ := hh.2.2 a c ha e
    rw [e1]
    rcases c with ⟨t, n, f⟩ | (⟨n, f⟩ | ⟨ci, fs⟩)
    · have e2 : c' = .inl (t, n, fun j => sy_g env (f j)) := e2
      subst e2
      rfl
    · obtain ⟨f', e2, -, -⟩ := e2
      subst e2
      exact (sr_g0 env).symm
    · have e2 : c' = .inr (.inr (ci, mg_s (sy_g env) fs)) := e2
      subst e2
      show (match mj_nth (fs.map (mg_v (sy_g env))) k with
        | some (.inl v) => v
        | _ => 0) = sy_g env (match mj_nth fs k with
        | some (.inl v) => v
        | _ => 2147483648)
      rw [mg_nth]
      cases e2 : mj_nth fs k with
      | none => exact (sr_g0 env).symm
      | some v =>
        rcases v with v | r
        · rfl
        · exact (sr_g0 env).symm
