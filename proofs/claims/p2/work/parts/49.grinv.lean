/-! ===== growing keeps what holds ===== -/
theorem vud_zero {w : Nat → Int32} {fr : Nat → vF} {k : Nat} : ∀ {n : Nat}, (∀ j, j < n → (fr j).2.1 ≠ k) → vud w fr k n = 0 := by
  intro n
  induction n with
  | zero => intro _; rfl
  | succ n ih => intro h; unfold vud; rw [ih (fun j hj => h j (by omega)), if_neg (h n (by omega))]
theorem Geo.mono {w : Nat → Int32} {ps : List vP} {t np n : Nat} {fr : Nat → vF} (h : Geo w ps t np n fr) {i j : Nat} (hij : i ≤ j) (hj : j < n) : (fr i).2.1 ≤ (fr j).2.1 := by
  by_cases e : i = j
  · subst e; exact Nat.le_refl _
  · rcases h.lt (i := i) (j := j) (by omega) hj with h1 | h1 <;> omega
theorem Geo.ud {w : Nat → Int32} {ps : List vP} {t np n : Nat} {fr : Nat → vF} (h : Geo w ps t np n fr) : ∀ i, i < n → vud w fr (fr i).2.1 (i + 1) = (fr i).2.2.1 + vwd w (fr i).1 := by
  intro i
  induction i with
  | zero => intro hi; unfold vud vud; rw [if_pos rfl, h.2.1.1]
  | succ i ih =>
    intro hi
    have := ih (by omega)
    rw [vud, if_pos rfl]
    rcases h.2.2 i hi with ⟨e1, e2⟩ | ⟨e1, e2⟩
    · rw [e1, this, e2]
    · rw [vud_zero (fun j hj => by have := h.mono (i := j) (j := i) (by omega) (by omega); omega), e2]
theorem Ico.top {V : vV} {t np : Nat} (h : Ico V t np) : vtop V t = vat V.2.1 t (np - 1) + vud V.1 (V.2.2.2 t) (np - 1) (V.2.2.1 t) := by
  unfold vtop
  by_cases c : V.2.2.1 t = 0
  · rw [if_pos c, c, (h.2.2.2.2.2.2.2 c).1]
    rfl
  · obtain ⟨n, hn⟩ : ∃ n, V.2.2.1 t = n + 1 := ⟨V.2.2.1 t - 1, by omega⟩
    obtain ⟨g, p, -⟩ := h.2.2.2.2.2.2.1 (by omega)
    rw [if_neg c, hn] at *
    rw [Nat.add_sub_cancel] at *
    have := g.ud n (by omega)
    rw [p] at this
    rw [this]
    unfold vpl
    rw [p]
    omega
theorem Itp.len {t : Nat} : ∀ {np : Nat} {ps : List vP}, Itp ps t np → np ≤ ps.length := by
  intro np
  induction np with
  | zero => intro ps _; exact Nat.zero_le _
  | succ np ih =>
    intro ps h
    obtain ⟨q, q1, q2, q3⟩ := h.1 np (by omega)
    have h1 : Itp (ps.filter (fun q => !vkey t np q) ) t np ∨ True := Or.inr trivial
    have hlt : (ps.filter (fun q => !vkey t np q)).length < ps.length := by
      have : (ps.filter (fun q => !vkey t np q)).length ≤ ps.length := List.length_filter_le _ _
      rcases Nat.lt_or_eq_of_le this with h | h
      · exact h
      · have := List.length_filter_eq_length_iff.mp h q q1
        simp [vkey, q2, q3] at this
    have h2 : ∀ k, k < np → ∃ q ∈ ps.filter (fun q => !vkey t np q), q.2.2.1 = t ∧ q.2.2.2 = k := fun k hk => by
      obtain ⟨p, p1, p2, p3⟩ := h.1 k (by omega)
      exact ⟨p, List.mem_filter.mpr ⟨p1, by simp [vkey]; omega⟩, p2, p3⟩
    have key : ∀ {np : Nat} {ps : List vP}, (∀ k, k < np → ∃ q ∈ ps, q.2.2.1 = t ∧ q.2.2.2 = k) → np ≤ ps.length := by
      intro np
      induction np with
      | zero => intro ps _; exact Nat.zero_le _
      | succ np ih =>
        intro ps h
        obtain ⟨q, q1, q2, q3⟩ := h np (by omega)
        have hlt : (ps.filter (fun q => !vkey t np q)).length < ps.length := by
          have : (ps.filter (fun q => !vkey t np q)).length ≤ ps.length := List.length_filter_le _ _
          rcases Nat.lt_or_eq_of_le this with h | h
          · exact h
          · have := List.length_filter_eq_length_iff.mp h q q1
            simp [vkey, q2, q3] at this
        have := ih (ps := ps.filter (fun q => !vkey t np q)) (fun k hk => by
          obtain ⟨p, p1, p2, p3⟩ := h k (by omega)
          exact ⟨p, List.mem_filter.mpr ⟨p1, by simp [vkey]; omega⟩, p2, p3⟩)
        omega
    have := key h2
    omega
/-- what a task wants for a call: z is FIRST -/
def Vpre (lim : Nat) (V : vV) (t np z : Nat) : Prop := VJ lim V ∧ Ico V t np ∧ t < 6 ∧ V.1 2048 = nI z ∧ 8 ≤ z ∧ z ≤ lim ∧ lim ≤ 10000 ∧ lim ≤ 256 * z ∧ ∀ q ∈ V.2.1, z ≤ q.2.1
theorem Itp.n256 {lim z t np : Nat} {ps : List vP} (h : Itp ps t np) (ho : vo lim ps) (hz : ∀ q ∈ ps, z ≤ q.2.1) (h8 : 8 ≤ z) (hl : lim ≤ 256 * z) : np ≤ 256 := by
  have h1 := h.len
  have h2 := vlen ho hz
  have : ps.length ≤ 256 := Nat.le_of_mul_le_mul_right (Nat.le_trans h2 hl) (by omega)
  omega
def vgs (t i : Nat) : Prop := i = 2067 ∨ (2054 ≤ i ∧ i ≤ 2065) ∨ i = 3982 + t ∨ i = 4010 + t ∨ i = 4017 + t ∨ i = 4024 + t ∨ i = 4038 + t ∨ i = 4066 + t
section
variable {lim z t np : Nat} {V : vV}
theorem vmv_inv {g words : Nat} (hP : Vpre lim V t 1 z) (hg : g + words ≤ lim ∧ ∀ q ∈ V.2.1, g + words ≤ q.1 ∨ q.1 + q.2.1 ≤ g) (hw : z ≤ words) (hu : vus V.1 (V.2.2.2 t) (V.2.2.1 t) ≤ words) (hcov : ∀ i, i < V.2.2.1 t → vcv (V.2.2.2 t i) → ∀ d, vdp V.1 10 (V.2.2.2 t i).1 = some d → (V.2.2.2 t i).2.2.1 + d ≤ words) (hm : V.1 (3933 + t) = 0) :
    VJ lim (vmv V t g words) ∧ Ico (vmv V t g words) t 1 ∧ (∀ q ∈ (vmv V t g words).2.1, z ≤ q.2.1) ∧ vud V.1 (V.2.2.2 t) 0 (V.2.2.1 t) = vus V.1 (V.2.2.2 t) (V.2.2.1 t) := by
  obtain ⟨hj, hc, ht, hz, h8, hzl, hl, hl2, hq⟩ := hP
  obtain ⟨o1, o2⟩ := vo_mv (t := t) (g := g) (words := words) hj ht (by omega) hg
  obtain ⟨v1, v2, v3⟩ := vmv_at (t := t) (g := g) (words := words) hj
  obtain ⟨c1, c2, c3, c4, c5, c6, c7, c8⟩ := hc
  have hnsp : ∀ q ∈ V.2.1, ¬ (q.2.2.1 = t ∧ q.2.2.2 = 1000) := by
    rcases c5 with ⟨_, _, e⟩ | e
    · exact e
    · rw [hm] at e; exact absurd e (by decide)
  have hmem : ∀ q ∈ (vmv V t g words).2.1, q = (g, words, t, 0) ∨ (q ∈ V.2.1 ∧ ¬ (q.2.2.1 = t ∧ q.2.2.2 = 0)) := fun q hq => by
    rw [vmv_2] at hq
    rcases vins_mem.mp hq with e | hq
    · exact Or.inl e
    · obtain ⟨a, b⟩ := List.mem_filter.mp hq
      exact Or.inr ⟨a, fun e => by simp [vkey] at b; omega⟩
  have hmem' : ∀ q ∈ V.2.1, ¬ (q.2.2.1 = t ∧ q.2.2.2 = 0) → q ∈ (vmv V t g words).2.1 := fun q hq hn => by
    rw [vmv_2]
    exact vins_mem.mpr (Or.inr (List.mem_filter.mpr ⟨hq, by simp [vkey]; omega⟩))
  have hitp : Itp (vmv V t g words).2.1 t 1 := by
    refine ⟨fun k hk => ⟨(g, words, t, 0), by rw [vmv_2]; exact vins_mem.mpr (Or.inl rfl), rfl, by show 0 = k; omega⟩, fun q hq e => ?_⟩
    rcases hmem q hq with rfl | ⟨a, b⟩
    · exact Or.inl (by show 0 < 1; omega)
    · rcases c4.2 q a e with h | h
      · exact absurd ⟨e, by omega⟩ b
      · exact Or.inr h
  have hzw : ∀ q ∈ (vmv V t g words).2.1, z ≤ q.2.1 := fun q hq' => by
    rcases hmem q hq' with rfl | ⟨a, -⟩
    · exact hw
    · exact hq q a
  have hw' := vmv_w (V := V) (t := t) (g := g) (words := words)
  have hpn : ∀ i, i < V.2.2.1 t → (V.2.2.2 t i).2.1 = 0 := fun i hi => by have := ((c7 (by omega)).1.1 i hi).1; omega
  have hof : ∀ i, i < V.2.2.1 t → (V.2.2.2 t i).2.2.1 + vwd V.1 (V.2.2.2 t i).1 ≤ vus V.1 (V.2.2.2 t) (V.2.2.1 t) := fun i hi => by
    rw [(c7 (by omega)).1.one i hi]
    have := vus_mono (w := V.1) (fr := V.2.2.2 t) (show i + 1 ≤ V.2.2.1 t by omega)
    rw [vus] at this
    exact this
  have hgeo : 0 < V.2.2.1 t → Geo (vmv V t g words).1 (vmv V t g words).2.1 t 1 (V.2.2.1 t) (V.2.2.2 t) ∧ Ifr (vmv V t g words).1 (vmv V t g words).2.1 t (V.2.2.1 t) (V.2.2.2 t) := fun h0 => by
    obtain ⟨d1, d2, d3, d4, d5⟩ := c7 h0
    constructor
    · refine Geo.ww (w := V.1) ⟨fun i hi => ⟨by rw [hpn i hi]; omega, ?_⟩, d1.2.1, d1.2.2⟩ hw' (fun i hi => (d3.1 i hi).1)
      rw [hpn i hi, v2]
      have := hof i hi
      omega
    · refine Ifr.ww (w := V.1) ⟨d3.1, d3.2.1, d3.2.2.1, d3.2.2.2.1, fun i hi hcv => ?_, d3.2.2.2.2.2⟩ hw' hj.1
      obtain ⟨d, e1, e2, -⟩ := d3.2.2.2.2.1 i hi hcv
      exact ⟨d, e1, e2, by rw [hpn i hi, v2]; exact hcov i hi hcv d e1⟩
  have hoth : ∀ t', t' ≠ t → ∀ n, vat (vmv V t g words).2.1 t' n = vat V.2.1 t' n ∧ vln (vmv V t g words).2.1 t' n = vln V.2.1 t' n := fun t' hne n => v3 t' n (fun e => hne e.1)
  refine ⟨⟨hj.1.ww hw', o1, o2, fun t' ht' h0 => ?_⟩, ⟨?_, ?_, c3, hitp, Or.inl ⟨?_, rfl, fun q hq' e => ?_⟩, ?_, fun h0 => ⟨(hgeo h0).1, ?_, (hgeo h0).2, ?_, ?_⟩, fun h0 => ⟨rfl, ?_⟩⟩, hzw, ?_⟩
  · by_cases et : t' = t
    · subst et; exact ⟨1, hitp, hgeo h0⟩
    · obtain ⟨np', a1, a2, a3⟩ := hj.geo ht' h0
      refine ⟨np', ⟨fun k hk => ?_, fun q hq' e => ?_⟩, (a2.ps (fun i hi => ⟨(a2.1 i hi).1, (hoth t' et _).2⟩)).ww hw' (fun i hi => (a3.1 i hi).1), (a3.ps (fun i hi => (hoth t' et _).2)).ww hw' hj.1⟩
      · obtain ⟨q, q1, q2, q3⟩ := a1.1 k hk
        exact ⟨q, hmem' q q1 (fun e => et (q2.symm.trans e.1)), q2, q3⟩
      · rcases hmem q hq' with rfl | ⟨a, -⟩
        · exact absurd e.symm et
        · exact a1.2 q a e
  · show (vmv V t g words).1 (3954 + t) = _
    rw [vmv_1, mj_upd_ne (by omega), mj_upd_ne (by omega), mj_upd_ne (by omega)]; exact c1
  · rw [vmv_1, mj_upd_ne (by omega), mj_upd_ne (by omega), mj_upd_ne (by omega)]; exact c2
  · rw [vmv_1, mj_upd_ne (by omega), mj_upd_ne (by omega), mj_upd_ne (by omega)]; exact hm
  · rcases hmem q hq' with rfl | ⟨a, -⟩
    · have : (0 : Nat) = 1000 := e.2
      omega
    · exact hnsp q a e
  · show (vmv V t g words).1 (3961 + t) = nI (vus (vmv V t g words).1 (V.2.2.2 t) (V.2.2.1 t))
    rw [(hw'.us (k := 0) (fun i hi => ((c7 (by omega)).2.2.1.1 i hi).1)).1, vmv_1, mj_upd_ne (by omega), mj_upd_ne (by omega), mj_upd_ne (by omega)]; exact c6
  · exact (c7 h0).2.1
  · have h0 : 0 < V.2.2.1 t := h0
    show (vmv V t g words).1 (3982 + t) = nI (vat (vmv V t g words).2.1 t (V.2.2.2 t (V.2.2.1 t - 1)).2.1 + (V.2.2.2 t (V.2.2.1 t - 1)).2.2.1)
    rw [hpn _ (by omega), v1, vmv_1, mj_upd_ne (by omega), mj_upd_ne (by omega), mj_upd_self, if_neg (by omega)]
  · show (vmv V t g words).1 (3975 + t) = _
    rw [vmv_1, mj_upd_ne (by omega), mj_upd_ne (by omega), mj_upd_ne (by omega)]; exact (c7 h0).2.2.2.2
  · have h0 : V.2.2.1 t = 0 := h0
    rw [vmv_1, mj_upd_ne (by omega), mj_upd_ne (by omega), mj_upd_self, if_pos h0]; exact (c8 h0).2
  · have : ∀ n, n ≤ V.2.2.1 t → vud V.1 (V.2.2.2 t) 0 n = vus V.1 (V.2.2.2 t) n := by
      intro n
      induction n with
      | zero => intro _; rfl
      | succ n ih => intro hn; unfold vud vus; rw [ih (by omega), if_pos (hpn n (by omega))]
    exact this _ (Nat.le_refl _)
end
