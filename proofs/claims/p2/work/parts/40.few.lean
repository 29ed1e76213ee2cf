/-! ===== bits of BACK ===== -/
theorem bk_all : ∀ x y : Fin 64, ((nI (64 * x.val + y.val) &&& 1024 = 0) ↔ (64 * x.val + y.val) / 1024 % 2 = 0) ∧ ((nI (64 * x.val + y.val) &&& 2048 = 0) ↔ (64 * x.val + y.val) < 2048) ∧ (nI (64 * x.val + y.val) &&& 1023) / 32 = nI ((64 * x.val + y.val) % 1024 / 32) ∧ (nI (64 * x.val + y.val) &&& 31) = nI ((64 * x.val + y.val) % 32) ∧ ((nI (64 * x.val + y.val) &&& 1023) >>> ((5 : Int32) &&& 31)) = nI ((64 * x.val + y.val) % 1024 / 32) := by decide +kernel
theorem bk_at {b : Nat} (h : b < 4096) : ((nI b &&& 1024 = 0) ↔ b / 1024 % 2 = 0) ∧ ((nI b &&& 2048 = 0) ↔ b < 2048) ∧ (nI b &&& 1023) / 32 = nI (b % 1024 / 32) ∧ (nI b &&& 31) = nI (b % 32) ∧ ((nI b &&& 1023) >>> ((5 : Int32) &&& 31)) = nI (b % 1024 / 32) := by
  have := bk_all ⟨b / 64, by omega⟩ ⟨b % 64, by omega⟩
  rw [show 64 * (b / 64) + b % 64 = b by omega] at this
  exact this
/-! ===== pieces found and given back ===== -/
theorem vfi_find {P : vP → Bool} : ∀ {ps : List vP} {k : Nat}, (vfi P ps k = none ↔ ps.find? P = none) ∧ ∀ x, vfi P ps k = some x → k ≤ x ∧ ps.find? P = ps[x - k]? ∧ x - k < ps.length := by
  intro ps
  induction ps with
  | nil => intro k; exact ⟨Iff.intro (fun _ => rfl) (fun _ => rfl), fun x h => by cases h⟩
  | cons q ps ih =>
    intro k
    unfold vfi
    by_cases c : P q = true
    · rw [if_pos c, List.find?_cons_of_pos c]
      refine ⟨by simp, fun x h => ?_⟩
      cases h
      exact ⟨Nat.le_refl _, by rw [Nat.sub_self]; rfl, by rw [Nat.sub_self]; simp⟩
    · rw [if_neg c, List.find?_cons_of_neg c]
      refine ⟨ih.1, fun x h => ?_⟩
      obtain ⟨h1, h2, h3⟩ := ih.2 x h
      refine ⟨by omega, ?_, by simp; omega⟩
      rw [h2, show x - k = (x - (k + 1)) + 1 by omega]
      rfl
theorem vfi_erase {t n : Nat} : ∀ {ps : List vP} {k x : Nat}, ps.Pairwise (fun p q => ¬ (p.2.2.1 = q.2.2.1 ∧ p.2.2.2 = q.2.2.2)) → vfi (vkey t n) ps k = some x → ps.eraseIdx (x - k) = ps.filter (fun q => !vkey t n q) := by
  intro ps
  induction ps with
  | nil => intro k x _ h; cases h
  | cons q ps ih =>
    intro k x hp h
    obtain ⟨p1, p2⟩ := List.pairwise_cons.mp hp
    unfold vfi at h
    by_cases c : vkey t n q = true
    · rw [if_pos c] at h
      cases h
      rw [Nat.sub_self, List.filter_cons_of_neg (by simp [c])]
      show ps = _
      rw [List.filter_eq_self.mpr]
      intro p hp2
      have c : q.2.2.1 = t ∧ q.2.2.2 = n := by simpa [vkey] using c
      have := p1 p hp2
      simp only [vkey]
      simp
      by_cases e1 : p.2.2.1 = t
      · right
        intro e2
        exact this ⟨by rw [c.1, e1], by rw [c.2, e2]⟩
      · left
        exact e1
    · rw [if_neg c] at h
      have hx := (vfi_find.2 x h).1
      rw [List.filter_cons_of_pos (by simp [c]), show x - k = (x - (k + 1)) + 1 by omega, List.eraseIdx_cons_succ, ih p2 h]
theorem vfi_some {t n : Nat} {ps : List vP} (h : ∃ q ∈ ps, q.2.2.1 = t ∧ q.2.2.2 = n) : ∃ x q, vfi (vkey t n) ps 0 = some x ∧ ps[x]? = some q ∧ x < ps.length ∧ q ∈ ps ∧ q.2.2.1 = t ∧ q.2.2.2 = n ∧ vat ps t n = q.1 ∧ vln ps t n = q.2.1 := by
  obtain ⟨q, q1, q2, q3, q4, q5, q6⟩ := vget h
  cases hv : vfi (vkey t n) ps 0 with
  | none => rw [vfi_find.1.mp hv] at q6; cases q6
  | some x =>
    obtain ⟨-, h2, h3⟩ := vfi_find.2 x hv
    rw [Nat.sub_zero] at h2 h3
    exact ⟨x, q, rfl, by rw [← h2, q6], h3, q1, q2, q3, q4, q5⟩
/-- a task's frames and its scalars -/
def Ico (V : vV) (t np : Nat) : Prop := V.1 (3954 + t) = nI (V.2.2.1 t) ∧ V.1 (4066 + t) = nI np ∧ (1 ≤ np ∧ np ≤ 256) ∧ Itp V.2.1 t np ∧ ((V.1 (3933 + t) = 0 ∧ np = 1 ∧ ∀ q ∈ V.2.1, ¬ (q.2.2.1 = t ∧ q.2.2.2 = 1000)) ∨ V.1 (3933 + t) = 1) ∧ V.1 (3961 + t) = nI (vus V.1 (V.2.2.2 t) (V.2.2.1 t)) ∧
  (0 < V.2.2.1 t → Geo V.1 V.2.1 t np (V.2.2.1 t) (V.2.2.2 t) ∧ (V.2.2.2 t (V.2.2.1 t - 1)).2.1 = np - 1 ∧ Ifr V.1 V.2.1 t (V.2.2.1 t) (V.2.2.2 t) ∧ V.1 (3982 + t) = nI (vpl V t (V.2.2.1 t - 1)) ∧ V.1 (3975 + t) = nI (V.2.2.2 t (V.2.2.1 t - 1)).1) ∧ (V.2.2.1 t = 0 → np = 1 ∧ V.1 (3982 + t) = 0)
theorem Ico.n {lim : Nat} {V : vV} {t np : Nat} (h : Ico V t np) (hj : VJ lim V) (hl : lim ≤ 10000) : V.2.2.1 t ≤ 3334 ∧ vus V.1 (V.2.2.2 t) (V.2.2.1 t) ≤ lim := by
  by_cases c : V.2.2.1 t = 0
  · rw [c]; exact ⟨by omega, by unfold vus; omega⟩
  · obtain ⟨n, hn⟩ : ∃ n, V.2.2.1 t = n + 1 := ⟨V.2.2.1 t - 1, by omega⟩
    obtain ⟨g, -, f, -⟩ := h.2.2.2.2.2.2.1 (by omega)
    rw [hn] at g f ⊢
    have h1 := g.all hj.2.1
    have h2 := vus3 (fun i hi => (f.1 i hi).2)
    omega
section
variable {s : wt_S} {V : vV} {t np : Nat}
theorem RS.tk (h : RS s V) {c : Nat} (hc : 3926 ≤ c ∧ c ≤ 4066 ∧ (c - 3926) % 7 = 0) (ht : t < 6) : s 111 (c + t) = V.1 (c + t) := h.2.at (vtt hc ht)
theorem RS.pr (h : RS s V) {c : Nat} (hc : 2228 ≤ c ∧ c < 2898) : s 111 c = V.1 c := h.2.at (Or.inr (Or.inl hc))
theorem RS.se (h : RS s V) {c : Nat} (hc : 2048 ≤ c ∧ c ≤ 2067) : s 111 c = V.1 c := h.2.at (Or.inl hc)
/-- a word of a frame -/
theorem RS.wd {lim : Nat} (h : RS s V) (hj : VJ lim V) (hl : lim = 2048) {i : Nat} (ht : t < 6) (hi : i < V.2.2.1 t) : s 111 (vpl V t i) = (if i = 0 then -1 else nI (vpl V t (i - 1))) ∧ s 111 (vpl V t i + 1) = nI (V.2.2.2 t i).2.2.2.1 ∧ ∀ k, k < vsz V.1 (V.2.2.2 t i).1 → s 111 (vpl V t i + 2 + k) = vsw V.1 (vpl V t) (V.2.2.2 t i) k := by
  obtain ⟨-, -, mm, h3, h4⟩ := h.2
  obtain ⟨-, g1, g2, g3⟩ := h4 t ht i hi
  have hf := (hj.fit ht hi).2.2
  unfold vwd at hf
  refine ⟨by rw [h3 _ (by omega)]; exact g1, by rw [h3 _ (by omega)]; exact g2, fun k hk => by rw [h3 _ (by omega)]; exact g3 k hk⟩
theorem Ifr.bk {w : Nat → Int32} {ps : List vP} {n : Nat} {fr : Nat → vF} (h : Ifr w ps t n fr) {i : Nat} (hi : i < n) : (fr i).2.2.2.1 < 4096 := by
  cases i with
  | zero => rcases h.2.1 with e | e <;> rw [e] <;> omega
  | succ i => exact (h.2.2.1 i hi).1
theorem q_isCovered {lim : Nat} (h : RS s V) (hj : VJ lim V) (hl : lim = 2048) (hc : Ico V t np) (ht : t < 6) : gX11_isCovered s (nI t) = some (rb (vlc V t = true), s) := by
  have hn := hc.n hj (by omega)
  unfold gX11_isCovered
  rw [li_add, ix_nI (by omega) (by omega), h.tk (c := 3954) (by omega) ht, hc.1, nI_int (by omega)]
  by_cases c : V.2.2.1 t = 0
  · rw [if_pos (by rw [c]; decide), rb_neg]
    unfold vlc
    simp [c]
  · obtain ⟨g, -, f, a, -⟩ := hc.2.2.2.2.2.2.1 (by omega)
    have hi : V.2.2.1 t - 1 < V.2.2.1 t := by omega
    have hf := hj.fit ht hi
    unfold vwd at hf
    rw [if_neg (by show ¬ ((V.2.2.1 t : Nat) : Int) ≤ 0; omega), li_add, ix_nI (by omega) (by omega), h.tk (c := 3982) (by omega) ht, a, li_add2, q_word0 h.1 (by omega), cl_some, (h.wd hj hl ht hi).2.1]
    have hb := (bk_at (f.bk hi)).1
    by_cases cc : (V.2.2.2 t (V.2.2.1 t - 1)).2.2.2.1 / 1024 % 2 = 0
    · rw [if_pos (hb.mpr cc), rb_neg]
      unfold vlc
      simp [cc]
    · rw [if_neg (fun e => cc (hb.mp e)), rb_pos]
      unfold vlc
      simp
      omega
theorem q_topOf {lim : Nat} (h : RS s V) (hj : VJ lim V) (hl : lim = 2048) (hc : Ico V t np) (ht : t < 6) : gX11_topOf s (nI t) = some (nI (vtop V t), s) := by
  have hn := hc.n hj (by omega)
  unfold gX11_topOf
  rw [li_add, ix_nI (by omega) (by omega), h.tk (c := 3954) (by omega) ht, hc.1, nI_int (by omega)]
  unfold vtop
  by_cases c : V.2.2.1 t = 0
  · have hnp := hc.2.2.1
    obtain ⟨x, q, e1, e2, e3, -, -, -, e4, -⟩ := vfi_some (hc.2.2.2.1.1 0 (by omega))
    have hl256 := h.2.2.1.2.1
    rw [if_pos (by rw [c]; decide), if_pos h.1, show (0 : Int32) = nI 0 from rfl, q_pieceOf h.2.2.1 (by rw [← hl]; exact hj.2.1) ht (by omega), cl_some, e1]
    show (wt_ix (2899 + nI x) 4073 fun k4 => some (s 111 k4, s)) = _
    rw [li_add, ix_nI (by omega) (by omega), (h.2.2.1.2.2 x q e2).1, if_pos c, e4]
  · obtain ⟨g, -, f, a, b⟩ := hc.2.2.2.2.2.2.1 (by omega)
    have hi : V.2.2.1 t - 1 < V.2.2.1 t := by omega
    have hf := (f.1 _ hi).1
    rw [if_neg (by show ¬ ((V.2.2.1 t : Nat) : Int) ≤ 0; omega), li_add, ix_nI (by omega) (by omega), h.tk (c := 3982) (by omega) ht, a, li_add, ix_nI (by omega) (by omega), h.tk (c := 3975) (by omega) ht, b, q_frameOf hf, cl_some, h.pr (by omega), (hj.1.wd hf).1, nI_add, if_neg c]
theorem q_lastPiece {lim : Nat} (h : RS s V) (hj : VJ lim V) (hl : lim = 2048) (hc : Ico V t np) (ht : t < 6) : ∃ x q, gX11_lastPiece s (nI t) = some (nI x, s) ∧ vfi (vkey t (np - 1)) V.2.1 0 = some x ∧ V.2.1[x]? = some q ∧ x < V.2.1.length ∧ x < 256 ∧ q ∈ V.2.1 ∧ q.2.2.1 = t ∧ q.2.2.2 = np - 1 ∧ vat V.2.1 t (np - 1) = q.1 ∧ vln V.2.1 t (np - 1) = q.2.1 := by
  obtain ⟨x, q, e1, e2, e3, e4, e5, e6, e7, e8⟩ := vfi_some (hc.2.2.2.1.1 (np - 1) (by have := hc.2.2.1; omega))
  refine ⟨x, q, ?_, e1, e2, e3, by have := h.2.2.1.2.1; omega, e4, e5, e6, e7, e8⟩
  unfold gX11_lastPiece
  have hnp := hc.2.2.1
  rw [li_add, ix_nI (by omega) (by omega), h.tk (c := 4066) (by omega) ht, hc.2.1, li_sub (by omega), q_pieceOf h.2.2.1 (by rw [← hl]; exact hj.2.1) ht (by omega), cl_some, e1]
  rfl
end
