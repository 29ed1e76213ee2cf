/-! ===== bounds, and how frames as words change ===== -/
def vsum (f : Nat → Nat) : Nat → Nat
  | 0 => 0
  | k + 1 => vsum f k + f k
theorem vsum_le {f g : Nat → Nat} : ∀ {k : Nat}, (∀ j, j < k → f j ≤ g j) → vsum f k ≤ vsum g k := by
  intro k
  induction k with
  | zero => intro _; exact Nat.le_refl _
  | succ k ih => intro h; unfold vsum; have := ih (fun j hj => h j (by omega)); have := h k (by omega); omega
theorem vsum_if {g : Nat → Nat} {j0 c : Nat} : ∀ {k : Nat}, vsum (fun j => if j = j0 then c else g j) k ≤ c + vsum g k ∧ (k ≤ j0 → vsum (fun j => if j = j0 then c else g j) k ≤ vsum g k) := by
  intro k
  induction k with
  | zero => unfold vsum; omega
  | succ k ih =>
    unfold vsum
    by_cases e : k = j0
    · subst e
      rw [if_pos rfl]
      have := ih.2 (Nat.le_refl _)
      omega
    · rw [if_neg e]
      omega
/-- words of all pieces -/
def vall (ps : List vP) : Nat := ps.foldr (fun q n => q.2.1 + n) 0
theorem vall_le {lim : Nat} : ∀ {ps : List vP} {a : Nat}, vo lim ps → (∀ q ∈ ps, a ≤ q.1) → a ≤ lim → a + vall ps ≤ lim := by
  intro ps
  induction ps with
  | nil => intro a _ _ h; exact h
  | cons q ps ih =>
    intro a ho ha hl
    have h1 := ho.2 q (List.mem_cons_self ..)
    have h2 := ha q (List.mem_cons_self ..)
    have := ih (a := q.1 + q.2.1) (vo_tail ho) (vo_head ho) h1.2.1
    show a + (q.2.1 + vall ps) ≤ lim
    omega
theorem vln_cons {q : vP} {ps : List vP} {t k : Nat} : vln (q :: ps) t k = if q.2.2.1 = t ∧ q.2.2.2 = k then q.2.1 else vln ps t k := by
  unfold vln
  by_cases h : q.2.2.1 = t ∧ q.2.2.2 = k
  · rw [if_pos h, List.find?_cons_of_pos (by simpa [vkey] using h)]
  · rw [if_neg h, List.find?_cons_of_neg (by simpa [vkey] using h)]
theorem vsum_all {t : Nat} : ∀ {ps : List vP} {k : Nat}, vsum (fun j => vln ps t j) k ≤ vall ps := by
  intro ps
  induction ps with
  | nil =>
    intro k
    have : ∀ k, vsum (fun j => vln [] t j) k = 0 := by
      intro k
      induction k with
      | zero => rfl
      | succ k ih => unfold vsum; rw [ih]; rfl
    rw [this]
    exact Nat.zero_le _
  | cons q ps ih =>
    intro k
    show _ ≤ q.2.1 + vall ps
    by_cases h : q.2.2.1 = t
    · have e : (fun j => vln (q :: ps) t j) = (fun j => if j = q.2.2.2 then q.2.1 else vln ps t j) := by
        funext j
        rw [vln_cons]
        by_cases e : j = q.2.2.2
        · rw [if_pos ⟨h, e.symm⟩, if_pos e]
        · rw [if_neg (fun x => e x.2.symm), if_neg e]
      rw [e]
      have := (vsum_if (g := fun j => vln ps t j) (j0 := q.2.2.2) (c := q.2.1) (k := k)).1
      have := ih (k := k)
      omega
    · have e : (fun j => vln (q :: ps) t j) = (fun j => vln ps t j) := by
        funext j
        rw [vln_cons, if_neg (fun x => h x.1)]
      rw [e]
      have := ih (k := k)
      omega
theorem vsum_mono {f : Nat → Nat} {a b : Nat} (h : a ≤ b) : vsum f a ≤ vsum f b := by
  induction h with
  | refl => exact Nat.le_refl _
  | step _ ih => exact Nat.le_trans ih (Nat.le_add_right _ _)
theorem Geo.us {w : Nat → Int32} {ps : List vP} {t np n : Nat} {fr : Nat → vF} (h : Geo w ps t np n fr) : ∀ i, i < n → vus w fr (i + 1) ≤ vsum (fun j => vln ps t j) (fr i).2.1 + (fr i).2.2.1 + vwd w (fr i).1 := by
  intro i
  induction i with
  | zero => intro _; unfold vus vus; omega
  | succ i ih =>
    intro hi
    have h1 := ih (by omega)
    have h2 := (h.1 i (by omega)).2
    rw [vus]
    rcases h.2.2 i hi with ⟨e1, e2⟩ | ⟨e1, e2⟩
    · rw [e1, e2]; omega
    · rw [e1, e2, vsum]; omega
/-- all words of a task's frames -/
theorem Geo.all {w : Nat → Int32} {lim : Nat} {ps : List vP} {t np n : Nat} {fr : Nat → vF} (h : Geo w ps t np (n + 1) fr) (ho : vo lim ps) : vus w fr (n + 1) ≤ lim := by
  have h1 := h.us n (by omega)
  have h2 := (h.1 n (by omega)).2
  have h3 := vsum_all (t := t) (ps := ps) (k := (fr n).2.1 + 1)
  rw [vsum] at h3
  have h4 := vall_le (a := 0) ho (fun _ _ => Nat.zero_le _) (Nat.zero_le _)
  omega
theorem vus3 {w : Nat → Int32} {fr : Nat → vF} : ∀ {n : Nat}, (∀ i, i < n → 1 ≤ vsz w (fr i).1) → 3 * n ≤ vus w fr n := by
  intro n
  induction n with
  | zero => intro _; exact Nat.le_refl _
  | succ n ih => intro h; have := ih (fun i hi => h i (by omega)); have := h n (by omega); unfold vus vwd; omega
/-- all pieces are 256 at most -/
theorem vlen {lim z : Nat} {ps : List vP} (ho : vo lim ps) (hz : ∀ q ∈ ps, z ≤ q.2.1) : ps.length * z ≤ lim := by
  have h1 : ∀ (ps : List vP), (∀ q ∈ ps, z ≤ q.2.1) → ps.length * z ≤ vall ps := by
    intro ps
    induction ps with
    | nil => intro _; simp
    | cons q ps ih =>
      intro h
      have a := ih (fun p hp => h p (List.mem_cons_of_mem _ hp))
      have b := h q (List.mem_cons_self ..)
      show (ps.length + 1) * z ≤ q.2.1 + vall ps
      rw [Nat.add_mul, Nat.one_mul]
      omega
  have := h1 ps hz
  have h4 := vall_le (a := 0) ho (fun _ _ => Nat.zero_le _) (Nat.zero_le _)
  omega
/-- what of it the frames as words stand on -/
def VJ (lim : Nat) (V : vV) : Prop := Ipr V.1 ∧ vo lim V.2.1 ∧ V.2.1.Pairwise (fun p q => ¬ (p.2.2.1 = q.2.2.1 ∧ p.2.2.2 = q.2.2.2)) ∧ ∀ t, t < 6 → 0 < V.2.2.1 t → ∃ np, Itp V.2.1 t np ∧ Geo V.1 V.2.1 t np (V.2.2.1 t) (V.2.2.2 t) ∧ Ifr V.1 V.2.1 t (V.2.2.1 t) (V.2.2.2 t)
section
variable {lim B : Nat} {V : vV}
theorem VI.bz (h : VI lim B V) {t : Nat} (ht : t < 6) (hn : 0 < V.2.2.1 t) : vbz V.1 t ∧ Ibz lim V t := by
  rcases h.2.2.2.2.2 t ht with h1 | h1
  · exact h1
  · exact absurd h1.1 (by omega)
theorem VI.J (h : VI lim B V) : VJ lim V := by
  refine ⟨h.2.1, h.2.2.1.1, h.2.2.1.2.1, fun t ht hn => ?_⟩
  obtain ⟨-, n, np, e, -, -, -, h2, -, h3, -, h4, -⟩ := h.bz ht hn
  rw [e]
  exact ⟨np, h2, h3, h4⟩
theorem VJ.geo (h : VJ lim V) {t : Nat} (ht : t < 6) (hn : 0 < V.2.2.1 t) : ∃ np, Itp V.2.1 t np ∧ Geo V.1 V.2.1 t np (V.2.2.1 t) (V.2.2.2 t) ∧ Ifr V.1 V.2.1 t (V.2.2.1 t) (V.2.2.2 t) := h.2.2.2 t ht hn
theorem VJ.dj (h : VJ lim V) {t t' i j : Nat} (ht : t < 6) (ht' : t' < 6) (hi : i < V.2.2.1 t) (hj : j < V.2.2.1 t') (hne : ¬ (t = t' ∧ i = j)) : vpl V t i + vwd V.1 (V.2.2.2 t i).1 ≤ vpl V t' j ∨ vpl V t' j + vwd V.1 (V.2.2.2 t' j).1 ≤ vpl V t i := by
  obtain ⟨np, a1, a2, -⟩ := h.geo ht (by omega)
  obtain ⟨np', b1, b2, -⟩ := h.geo ht' (by omega)
  exact Geo.dj h.2.1 h.2.2.1 a2 a1 b2 b1 (fun e => by subst e; exact ⟨rfl, rfl⟩) hi hj hne
/-- a frame lies within the memory -/
theorem VJ.fit (h : VJ lim V) {t i : Nat} (ht : t < 6) (hi : i < V.2.2.1 t) : (V.2.2.2 t i).1 < 10 ∧ 1 ≤ vsz V.1 (V.2.2.2 t i).1 ∧ vpl V t i + vwd V.1 (V.2.2.2 t i).1 ≤ lim := by
  obtain ⟨np, a1, a2, a3⟩ := h.geo ht (by omega)
  obtain ⟨q, q1, q2, q3, q4, q5⟩ := a2.pc a1 hi
  have := h.2.1.2 q q1
  refine ⟨(a3.1 i hi).1, (a3.1 i hi).2, ?_⟩
  unfold vpl
  omega
end
theorem vsz_of {w : Nat → Int32} {f z : Nat} (h : w (2228 + f) = nI z) (hz : z < 100) : vsz w f = z := by
  unfold vsz
  rw [h, nI_int (by omega)]
  rfl
theorem vli_of {w : Nat → Int32} {f z : Nat} (h : w (2248 + f) = nI z) (hz : z < 100) : vli w f = z := by
  unfold vli
  rw [h, nI_int (by omega)]
  rfl
theorem Ipr.sz {w : Nat → Int32} (h : Ipr w) {f : Nat} (hf : f < 10) : w (2228 + f) = nI (vsz w f) ∧ vsz w f ≤ 8 := by
  obtain ⟨⟨z, h1, h2⟩, -⟩ := h f hf
  rw [vsz_of h2 (by omega)]
  exact ⟨h2, h1⟩
theorem Ipr.li {w : Nat → Int32} (h : Ipr w) {f : Nat} (hf : f < 10) : w (2248 + f) = nI (vli w f) ∧ vli w f ≤ 16 := by
  obtain ⟨-, ⟨z, h1, h2⟩, -⟩ := h f hf
  rw [vli_of h2 (by omega)]
  exact ⟨h2, h1⟩
theorem Ipr.wd {w : Nat → Int32} (h : Ipr w) {f : Nat} (hf : f < 10) : w (2228 + f) + 2 = nI (vwd w f) ∧ vwd w f ≤ 10 := by
  obtain ⟨h1, h2⟩ := h.sz hf
  rw [h1, li_add2]
  exact ⟨rfl, by unfold vwd; omega⟩
/-! ### words change in places of no other frame -/
/-- frame i of task t is another one -/
def vfr (V : vV) (t i : Nat) (F : vF) : vV := (V.1, V.2.1, V.2.2.1, fun t' => if t' = t then mj_upd (V.2.2.2 t) i F else V.2.2.2 t')
theorem vfr_at {V : vV} {t i : Nat} {F : vF} : (vfr V t i F).2.2.2 t i = F := by
  show (if t = t then mj_upd (V.2.2.2 t) i F else V.2.2.2 t) i = F
  rw [if_pos rfl, mj_upd_self]
theorem vfr_ne {V : vV} {t i t' j : Nat} {F : vF} (h : ¬ (t' = t ∧ j = i)) : (vfr V t i F).2.2.2 t' j = V.2.2.2 t' j := by
  show (if t' = t then mj_upd (V.2.2.2 t) i F else V.2.2.2 t') j = _
  by_cases e : t' = t
  · subst e
    rw [if_pos rfl, mj_upd_ne (fun x => h ⟨rfl, x⟩)]
  · rw [if_neg e]
theorem vfr_pl {V : vV} {t i t' j : Nat} {F : vF} (h1 : F.2.1 = (V.2.2.2 t i).2.1) (h2 : F.2.2.1 = (V.2.2.2 t i).2.2.1) : vpl (vfr V t i F) t' j = vpl V t' j := by
  unfold vpl
  by_cases e : t' = t ∧ j = i
  · obtain ⟨rfl, rfl⟩ := e
    rw [vfr_at, h1, h2]
    rfl
  · rw [vfr_ne e]
    rfl
/-- a slot is written -/
theorem VM.set {lim : Nat} {V : vV} {mm : Nat → Int32} {t i k : Nat} {F : vF} {v : Int32} (hI : VJ lim V) (h : VM mm V) (ht : t < 6) (hi : i < V.2.2.1 t) (hk : k < vsz V.1 (V.2.2.2 t i).1) (h1 : F.1 = (V.2.2.2 t i).1) (h2 : F.2.1 = (V.2.2.2 t i).2.1) (h3 : F.2.2.1 = (V.2.2.2 t i).2.2.1) (h4 : F.2.2.2.1 = (V.2.2.2 t i).2.2.2.1)
    (hv : vsw V.1 (vpl V t) F k = v) (hs : ∀ k', k' ≠ k → vsw V.1 (vpl V t) F k' = vsw V.1 (vpl V t) (V.2.2.2 t i) k') : VM (mj_upd mm (vpl V t i + 2 + k) v) (vfr V t i F) := by
  intro t' ht' j hj
  have hj : j < V.2.2.1 t' := hj
  obtain ⟨g1, g2, g3, g4⟩ := h t' ht' j hj
  have ep : vpl (vfr V t i F) t' = vpl V t' := by funext x; exact vfr_pl h2 h3
  rw [ep]
  show _ ∧ _ ∧ _ ∧ ∀ k', k' < vsz V.1 _ → _ = vsw V.1 _ _ _
  by_cases e : t' = t ∧ j = i
  · obtain ⟨rfl, rfl⟩ := e
    rw [vfr_at, h1, h4]
    refine ⟨g1, ?_, ?_, fun k' hk' => ?_⟩
    · rw [mj_upd_ne (by omega)]; exact g2
    · rw [mj_upd_ne (by omega)]; exact g3
    · by_cases ek : k' = k
      · subst ek
        rw [mj_upd_self, hv]
      · rw [mj_upd_ne (by omega), hs k' ek]
        exact g4 k' hk'
  · rw [vfr_ne e]
    have hd := hI.dj ht' ht hj hi e
    unfold vwd at hd
    have hz := (hI.fit ht' hj).2.1
    refine ⟨g1, ?_, ?_, fun k' hk' => ?_⟩
    · rw [mj_upd_ne (by omega)]; exact g2
    · rw [mj_upd_ne (by omega)]; exact g3
    · rw [mj_upd_ne (by omega)]; exact g4 k' hk'
