/-! ===== a slot is written: what always holds is kept ===== -/
def vsf (fr fr' : Nat → vF) : Prop := ∀ j, (fr' j).1 = (fr j).1 ∧ (fr' j).2.1 = (fr j).2.1 ∧ (fr' j).2.2.1 = (fr j).2.2.1 ∧ (fr' j).2.2.2.1 = (fr j).2.2.2.1
section
variable {lim B t : Nat} {V : vV} {w : Nat → Int32} {ps : List vP} {np n : Nat} {fr fr' : Nat → vF}
theorem vus_sf (h : vsf fr fr') : ∀ m, vus w fr' m = vus w fr m := by
  intro m
  induction m with
  | zero => rfl
  | succ m ih => unfold vus; rw [ih, (h m).1]
theorem vfo_sf (h : vsf fr fr') (m : Nat) : vfo w (fr' m) = vfo w (fr m) := by
  unfold vfo
  rw [(h m).2.2.2]
theorem vos_sf (h : vsf fr fr') : ∀ m, vos w fr' m = vos w fr m := by
  intro m
  induction m with
  | zero => rfl
  | succ m ih => unfold vos; rw [ih, vfo_sf h]
theorem Geo.sf (hg : Geo w ps t np n fr) (h : vsf fr fr') : Geo w ps t np n fr' := by
  obtain ⟨g1, g2, g3⟩ := hg
  refine ⟨fun i hi => ?_, ?_, fun i hi => ?_⟩
  · rw [(h i).1, (h i).2.1, (h i).2.2.1]; exact g1 i hi
  · rw [(h 0).2.1, (h 0).2.2.1]; exact g2
  · rw [(h i).1, (h i).2.1, (h i).2.2.1, (h (i + 1)).2.1, (h (i + 1)).2.2.1]; exact g3 i hi
theorem Ifr.sf (hg : Ifr w ps t n fr) (h : vsf fr fr') (hq : ∀ i, i < n → ∀ k, k < vsz w (fr i).1 → bt (w (2238 + (fr i).1)) k → ∀ q, (fr' i).2.2.2.2.2 k = some q → q.1 ≤ i ∧ q.2 < vsz w (fr q.1).1 ∧ ¬ bt (w (2238 + (fr q.1).1)) q.2) : Ifr w ps t n fr' := by
  obtain ⟨g1, g2, g3, g4, g5, g6⟩ := hg
  refine ⟨fun i hi => ?_, ?_, fun i hi => ?_, fun i hi => ?_, fun i hi => ?_, fun i hi k hk hb q hq' => ?_⟩
  · rw [(h i).1]; exact g1 i hi
  · rw [(h 0).2.2.2]; exact g2
  · have := g3 i hi
    unfold vbk at this ⊢
    rw [(h (i + 1)).2.2.2, (h i).1, (h (i + 1)).1]
    exact this
  · have := g4 i hi
    unfold vcv at this ⊢
    rw [(h i).2.2.2, (h (i + 1)).2.2.2]
    exact this
  · have := g5 i hi
    unfold vcv at this ⊢
    rw [(h i).2.2.2, (h i).1, (h i).2.2.1, (h i).2.1]
    exact this
  · rw [(h i).1] at hk hb
    rw [(h q.1).1]
    exact hq i hi k hk hb q hq'
theorem vfr_2 {i j : Nat} {F : vF} (h : j ≠ i) : (vfr V t i F).2.2.2 t j = V.2.2.2 t j := by
  show (if t = t then mj_upd (V.2.2.2 t) i F else V.2.2.2 t) j = _
  rw [if_pos rfl, mj_upd_ne h]
theorem vi_fr {i : Nat} {F : vF} (hI : VI lim B V) (ht : t < 6) (h1 : F.1 = (V.2.2.2 t i).1) (h2 : F.2.1 = (V.2.2.2 t i).2.1) (h3 : F.2.2.1 = (V.2.2.2 t i).2.2.1) (h4 : F.2.2.2.1 = (V.2.2.2 t i).2.2.2.1)
    (hq : ∀ k, k < vsz V.1 (V.2.2.2 t i).1 → bt (V.1 (2238 + (V.2.2.2 t i).1)) k → ∀ q, F.2.2.2.2.2 k = some q → (V.2.2.2 t i).2.2.2.2.2 k = some q ∨ (q.1 ≤ i ∧ q.2 < vsz V.1 (V.2.2.2 t q.1).1 ∧ ¬ bt (V.1 (2238 + (V.2.2.2 t q.1).1)) q.2)) : VI lim B (vfr V t i F) := by
  have hsf : vsf (V.2.2.2 t) ((vfr V t i F).2.2.2 t) := fun j => by
    by_cases e : j = i
    · subst e
      rw [vfr_at]
      exact ⟨h1, h2, h3, h4⟩
    · rw [vfr_2 e]
      exact ⟨rfl, rfl, rfl, rfl⟩
  refine hI.ot (B' := B) (OT.fr (i := i) (F := F)) ht hI.2.2.1 hI.2.2.2.1 hI.2.2.2.2.1 ?_
  rcases hI.2.2.2.2.2 t ht with ⟨b1, b2⟩ | b
  · refine Or.inl ⟨b1, ?_⟩
    obtain ⟨n, np, c1, c2, c3, c4, c5, c6, c7, c8, c9, c10, c11, c12, c13, c14, c15, c16, c17⟩ := b2
    have c92 := c9.2.2.2.2.2
    refine ⟨n, np, c1, c2, c3, c4, c5, c6, c7.sf hsf, (hsf n).2.1.trans c8, c9.sf hsf (fun j hj k hk hb q hq' => ?_), ?_, ?_, ?_, c13, ?_, ?_, ?_, c17⟩
    · by_cases e : j = i
      · subst e
        rw [vfr_at] at hq'
        rcases hq k hk hb q hq' with g | g
        · exact c92 j hj k hk hb q g
        · exact g
      · rw [vfr_2 e] at hq'
        exact c92 j hj k hk hb q hq'
    · rw [vus_sf hsf]; exact c10
    · show V.1 (3982 + t) = nI (vat V.2.1 t ((vfr V t i F).2.2.2 t n).2.1 + ((vfr V t i F).2.2.2 t n).2.2.1)
      rw [(hsf n).2.1, (hsf n).2.2.1]; exact c11
    · rw [(hsf n).1]; exact c12
    · rw [vos_sf hsf]; exact c14
    · rw [vos_sf hsf]; exact c15
    · rw [vos_sf hsf]; exact c16
  · exact Or.inr b
theorem vi_nu {i k : Nat} {v : Int32} (hI : VI lim B V) (ht : t < 6) : VI lim B (vnu V t i k v) :=
  vi_fr hI ht rfl rfl rfl rfl (fun _ _ _ _ h => Or.inl h)
theorem vi_po {i k : Nat} {p : Nat × Nat} (hI : VI lim B V) (ht : t < 6) (h1 : p.1 ≤ i) (h2 : p.2 < vsz V.1 (V.2.2.2 t p.1).1) (h3 : ¬ bt (V.1 (2238 + (V.2.2.2 t p.1).1)) p.2) : VI lim B (vpo V t i k (some p)) := by
  refine vi_fr hI ht rfl rfl rfl rfl (fun k' _ _ q h => ?_)
  by_cases e : k' = k
  · subst e
    have h : mj_upd (V.2.2.2 t i).2.2.2.2.2 k' (some p) k' = some q := h
    rw [mj_upd_self] at h
    cases h
    exact Or.inr ⟨h1, h2, h3⟩
  · have h : mj_upd (V.2.2.2 t i).2.2.2.2.2 k (some p) k' = some q := h
    rw [mj_upd_ne e] at h
    exact Or.inl h
end
