/-! ===== parts of the memory are carried, frames turned ===== -/
theorem vgo_in : ∀ {pt : List vT}, pt.Pairwise (fun p q => p.1 + p.2.1 ≤ q.1 ∨ q.1 + q.2.1 ≤ p.1) → ∀ {q : vT}, q ∈ pt → ∀ {x : Nat}, q.1 ≤ x → x < q.1 + q.2.1 → vgo pt x = q.2.2 + (x - q.1) := by
  intro pt
  induction pt with
  | nil => intro _ q hq; cases hq
  | cons a pt ih =>
    intro hd q hq x h1 h2
    obtain ⟨d1, d2⟩ := List.pairwise_cons.mp hd
    by_cases c : vin x a = true
    · have ha : a.1 ≤ x ∧ x < a.1 + a.2.1 := by simpa [vin] using c
      have e : q = a := by
        rcases List.mem_cons.mp hq with e | e
        · exact e
        · have := d1 q e
          omega
      subst e
      unfold vgo
      rw [List.find?_cons_of_pos c]
    · have hq2 : q ∈ pt := by
        rcases List.mem_cons.mp hq with e | e
        · subst e
          exact absurd (by simp [vin]; omega) c
        · exact e
      have := ih d2 hq2 h1 h2
      unfold vgo at this ⊢
      rw [List.find?_cons_of_neg c]
      exact this
def PM (pt : List vT) (p p' wd : Nat) : Prop := ∃ q ∈ pt, q.1 ≤ p ∧ p + wd ≤ q.1 + q.2.1 ∧ p' = q.2.2 + (p - q.1)
section
variable {W w w1 : Nat → Int32} {n : Nat} {fr : Nat → vF} {pl pl' : Nat → Nat} {pt : List vT}
theorem c_mq (hc : ∀ q ∈ pt, ∀ j, j < q.2.1 → w1 (q.2.2 + j) = w (q.1 + j)) (hM : MR w W n fr pl) (hp : ∀ i, i < n → PM pt (pl i) (pl' i) (vwd W (fr i).1)) : vMQ w1 W n fr pl' pl := by
  intro i hi
  obtain ⟨q, q1, q2, q3, q4⟩ := hp i hi
  obtain ⟨-, a1, a2, a3⟩ := hM i hi
  unfold vwd at q3
  have e : ∀ j, j < vsz W (fr i).1 + 2 → w1 (pl' i + j) = w (pl i + j) := fun j hj => by
    rw [q4, Nat.add_assoc, hc q q1 _ (by omega)]
    congr 1
    omega
  refine ⟨?_, ?_, fun k hk => ?_⟩
  · have := e 0 (by omega)
    rw [Nat.add_zero, Nat.add_zero] at this
    rw [this]; exact a1
  · rw [e 1 (by omega)]; exact a2
  · rw [Nat.add_assoc, e (2 + k) (by omega), ← Nat.add_assoc]; exact a3 k hk
theorem c_go {s0 : wt_S} (h : PT s0 pt) (hb : ∀ q ∈ pt, q.1 < 100000 ∧ q.2.1 < 100000 ∧ q.2.2 < 100000) (hd : pt.Pairwise (fun p q => p.1 + p.2.1 ≤ q.1 ∨ q.1 + q.2.1 ≤ p.1)) (hp : ∀ i, i < n → pl i + vwd W (fr i).1 ≤ 2048 ∧ PM pt (pl i) (pl' i) (vwd W (fr i).1)) : GO s0 W n fr pl pl' := by
  intro w' i hi j hj
  obtain ⟨h0, q, q1, q2, q3, q4⟩ := hp i hi
  rw [q_goalOf h.uf hb (by omega), vgo_in hd q1 (by omega) (by omega), q4]
  congr 3
  omega
end
theorem vsum_0 {f : Nat → Nat} : ∀ {k : Nat}, (∀ j, j < k → f j = 0) → vsum f k = 0 := by
  intro k
  induction k with
  | zero => intro _; rfl
  | succ k ih => intro h; rw [vsum, ih (fun j hj => h j (by omega)), h k (by omega)]
section
variable {w : Nat → Int32} {ps : List vP} {t np n : Nat} {fr : Nat → vF}
theorem Geo.sum (h : Geo w ps t np n fr) : ∀ i, i < n → vus w fr i = vsum (fun j => vud w fr j n) (fr i).2.1 + (fr i).2.2.1 := by
  intro i
  induction i with
  | zero =>
    intro hi
    rw [h.2.1.1, vsum_0 (fun j hj => vud_0 (fun i' hi' => by
      have := h.mono (i := 0) (j := i') (by omega) hi'
      omega))]
    rfl
  | succ i ih =>
    intro hi
    have h1 := ih (by omega)
    rw [vus_1, h1]
    rcases h.2.2 i hi with ⟨e1, e2⟩ | ⟨e1, e2⟩
    · rw [e1, e2]; omega
    · have h2 := h.ud i (by omega)
      have h3 := vud_eq (w := w) (fr := fr) (k := (fr i).2.1) (j := i + 1) (n := n) (by omega) (fun i' h4 h5 => by
        have := h.mono (i := i + 1) (j := i') h4 h5
        omega)
      rw [e1, e2, vsum, h3, h2]
      omega
theorem Geo.sumn (h : Geo w ps t np (n + 1) fr) (hl : (fr n).2.1 + 1 = np) : vsum (fun j => vud w fr j (n + 1)) np = vus w fr (n + 1) := by
  have h1 := h.sum n (by omega)
  have h2 := h.ud n (by omega)
  rw [← hl, vsum, vus_1, h1, h2]
  omega
theorem Geo.udl (h : Geo w ps t np n fr) {k : Nat} : vud w fr k n ≤ vln ps t k := by
  by_cases c : ∃ i, i < n ∧ (fr i).2.1 = k
  · -- the last one there
    have : ∀ m, m ≤ n → (∃ i, i < m ∧ (fr i).2.1 = k) → (∀ i, m ≤ i → i < n → (fr i).2.1 ≠ k) → vud w fr k n ≤ vln ps t k := by
      intro m
      induction m with
      | zero => rintro _ ⟨i, hi, -⟩; omega
      | succ m ih =>
        intro hm ⟨i, hi, e⟩ hno
        by_cases em : (fr m).2.1 = k
        · rw [vud_eq (j := m + 1) hm (fun i h1 h2 => hno i h1 h2), ← em, h.ud m (by omega)]
          exact (h.1 m (by omega)).2
        · refine ih (by omega) ⟨i, ?_, e⟩ (fun i' h1 h2 => ?_)
          · by_cases e2 : i = m
            · subst e2; exact absurd e em
            · omega
          · by_cases e2 : i' = m
            · subst e2; exact em
            · exact hno i' (by omega) h2
    exact this n (Nat.le_refl _) c (fun i h1 h2 => by omega)
  · rw [vud_0 (fun i hi e => c ⟨i, hi, e⟩)]
    exact Nat.zero_le _
theorem Geo.udi (h : Geo w ps t np n fr) {i : Nat} (hi : i < n) : (fr i).2.2.1 + vwd w (fr i).1 ≤ vud w fr (fr i).2.1 n := by
  rw [← h.ud i hi]
  exact vud_mono (by omega)
end
/-! ### JOINED: the parts -/
def vjp (V : vV) (t g k : Nat) : List vT := (List.range k).map (fun m => (vat V.2.1 t m, vud V.1 (V.2.2.2 t) m (V.2.2.1 t), g + vsum (fun j => vud V.1 (V.2.2.2 t) j (V.2.2.1 t)) m))
section
variable {V : vV} {t g np words : Nat}
theorem vjp_s {k : Nat} : vjp V t g (k + 1) = vjp V t g k ++ [(vat V.2.1 t k, vud V.1 (V.2.2.2 t) k (V.2.2.1 t), g + vsum (fun j => vud V.1 (V.2.2.2 t) j (V.2.2.1 t)) k)] := by
  unfold vjp
  rw [List.range_succ, List.map_append]
  rfl
theorem vjp_len {k : Nat} : (vjp V t g k).length = k := by unfold vjp; rw [List.length_map, List.length_range]
theorem vjp_ok (hj : VJ 2048 V) (ht : t < 6) (hc : Ico V t np) (h0 : 0 < V.2.2.1 t) (hg : g + words ≤ 2048 ∧ ∀ q ∈ V.2.1, g + words ≤ q.1 ∨ q.1 + q.2.1 ≤ g) (hu : vus V.1 (V.2.2.2 t) (V.2.2.1 t) ≤ words) :
    CP (vjp V t g np) ∧ (vjp V t g np).Pairwise (fun p q => p.1 + p.2.1 ≤ q.1 ∨ q.1 + q.2.1 ≤ p.1) ∧ (∀ q ∈ vjp V t g np, q.1 < 100000 ∧ q.2.1 < 100000 ∧ q.2.2 < 100000 ∧ g ≤ q.2.2 ∧ q.2.2 + q.2.1 ≤ g + vus V.1 (V.2.2.2 t) (V.2.2.1 t)) ∧ ∀ i, i < V.2.2.1 t → PM (vjp V t g np) (vpl V t i) (g + vus V.1 (V.2.2.2 t) i) (vwd V.1 (V.2.2.2 t i).1) := by
  obtain ⟨d1, d2, d3, d4, d5⟩ := hc.2.2.2.2.2.2.1 h0
  obtain ⟨n, hn⟩ : ∃ n, V.2.2.1 t = n + 1 := ⟨V.2.2.1 t - 1, by omega⟩
  have hnp := hc.2.2.1
  have hsum : vsum (fun j => vud V.1 (V.2.2.2 t) j (V.2.2.1 t)) np = vus V.1 (V.2.2.2 t) (V.2.2.1 t) := by
    rw [hn] at d1 d2 ⊢
    rw [Nat.add_sub_cancel] at d2
    exact d1.sumn (by omega)
  generalize hU : vus V.1 (V.2.2.2 t) (V.2.2.1 t) = u at *
  have hpc : ∀ m, m < np → ∃ q ∈ V.2.1, q.2.2.1 = t ∧ q.2.2.2 = m ∧ vat V.2.1 t m = q.1 ∧ vud V.1 (V.2.2.2 t) m (V.2.2.1 t) ≤ q.2.1 ∧ q.1 + q.2.1 ≤ 2048 ∧ (g + words ≤ q.1 ∨ q.1 + q.2.1 ≤ g) := fun m hm => by
    obtain ⟨q, q1, q2, q3, q4, q5, -⟩ := vget (hc.2.2.2.1.1 m hm)
    have := d1.udl (k := m)
    rw [q5] at this
    exact ⟨q, q1, q2, q3, q4, this, (hj.2.1.2 q q1).2.1, hg.2 q q1⟩
  have hsm : ∀ m, m < np → vsum (fun j => vud V.1 (V.2.2.2 t) j (V.2.2.1 t)) m + vud V.1 (V.2.2.2 t) m (V.2.2.1 t) ≤ u := fun m hm => by
    have := vsum_mono (f := fun j => vud V.1 (V.2.2.2 t) j (V.2.2.1 t)) (show m + 1 ≤ np by omega)
    rw [vsum, hsum] at this
    exact this
  have hmem : ∀ q ∈ vjp V t g np, ∃ m, m < np ∧ q = (vat V.2.1 t m, vud V.1 (V.2.2.2 t) m (V.2.2.1 t), g + vsum (fun j => vud V.1 (V.2.2.2 t) j (V.2.2.1 t)) m) := fun q hq => by
    obtain ⟨m, m1, m2⟩ := List.mem_map.mp hq
    exact ⟨m, List.mem_range.mp m1, m2.symm⟩
  have hpw : ∀ {R : vT → vT → Prop}, (∀ a b, a < b → b < np → R (vat V.2.1 t a, vud V.1 (V.2.2.2 t) a (V.2.2.1 t), g + vsum (fun j => vud V.1 (V.2.2.2 t) j (V.2.2.1 t)) a) (vat V.2.1 t b, vud V.1 (V.2.2.2 t) b (V.2.2.1 t), g + vsum (fun j => vud V.1 (V.2.2.2 t) j (V.2.2.1 t)) b)) → (vjp V t g np).Pairwise R := fun {R} hR => by
    unfold vjp
    rw [List.pairwise_map]
    exact List.Pairwise.imp_of_mem (fun ha hb hab => hR _ _ hab (List.mem_range.mp hb)) List.pairwise_lt_range
  refine ⟨⟨fun q hq => ?_, hpw (fun a b hab hb => ?_)⟩, hpw (fun a b hab hb => ?_), fun q hq => ?_, fun i hi => ?_⟩
  · obtain ⟨m, m1, rfl⟩ := hmem q hq
    obtain ⟨p, p1, p2, p3, p4, p5, p6, p7⟩ := hpc m m1
    have := hsm m m1
    show vat V.2.1 t m + vud V.1 (V.2.2.2 t) m (V.2.2.1 t) ≤ 2048 ∧ g + vsum (fun j => vud V.1 (V.2.2.2 t) j (V.2.2.1 t)) m + vud V.1 (V.2.2.2 t) m (V.2.2.1 t) ≤ 2048 ∧ (g + vsum (fun j => vud V.1 (V.2.2.2 t) j (V.2.2.1 t)) m ≤ vat V.2.1 t m ∨ vat V.2.1 t m + vud V.1 (V.2.2.2 t) m (V.2.2.1 t) ≤ g + vsum (fun j => vud V.1 (V.2.2.2 t) j (V.2.2.1 t)) m ∨ _)
    rw [p4]
    omega
  · obtain ⟨p, p1, p2, p3, p4, p5, p6, p7⟩ := hpc b hb
    have h1 := hsm a (by omega)
    have h2 := vsum_mono (f := fun j => vud V.1 (V.2.2.2 t) j (V.2.2.1 t)) (show a + 1 ≤ b by omega)
    rw [vsum] at h2
    show (g + vsum (fun j => vud V.1 (V.2.2.2 t) j (V.2.2.1 t)) a + vud V.1 (V.2.2.2 t) a (V.2.2.1 t) ≤ vat V.2.1 t b ∨ vat V.2.1 t b + vud V.1 (V.2.2.2 t) b (V.2.2.1 t) ≤ g + vsum (fun j => vud V.1 (V.2.2.2 t) j (V.2.2.1 t)) a) ∧ (g + vsum (fun j => vud V.1 (V.2.2.2 t) j (V.2.2.1 t)) a + vud V.1 (V.2.2.2 t) a (V.2.2.1 t) ≤ g + vsum (fun j => vud V.1 (V.2.2.2 t) j (V.2.2.1 t)) b ∨ _)
    rw [p4]
    omega
  · obtain ⟨p, p1, p2, p3, p4, p5, p6, p7⟩ := hpc a (by omega)
    obtain ⟨q, q1, q2, q3, q4, q5, q6, q7⟩ := hpc b hb
    show vat V.2.1 t a + vud V.1 (V.2.2.2 t) a (V.2.2.1 t) ≤ vat V.2.1 t b ∨ vat V.2.1 t b + vud V.1 (V.2.2.2 t) b (V.2.2.1 t) ≤ vat V.2.1 t a
    rw [p4, q4]
    rcases vdisj2 hj.2.1 p1 q1 with e | e | e
    · subst e; omega
    · omega
    · omega
  · obtain ⟨m, m1, rfl⟩ := hmem q hq
    obtain ⟨p, p1, p2, p3, p4, p5, p6, p7⟩ := hpc m m1
    have := hsm m m1
    show vat V.2.1 t m < 100000 ∧ vud V.1 (V.2.2.2 t) m (V.2.2.1 t) < 100000 ∧ g + vsum (fun j => vud V.1 (V.2.2.2 t) j (V.2.2.1 t)) m < 100000 ∧ g ≤ g + vsum (fun j => vud V.1 (V.2.2.2 t) j (V.2.2.1 t)) m ∧ g + vsum (fun j => vud V.1 (V.2.2.2 t) j (V.2.2.1 t)) m + vud V.1 (V.2.2.2 t) m (V.2.2.1 t) ≤ g + u
    rw [p4]
    omega
  · have hi1 := (d1.1 i hi).1
    have h1 := d1.sum i hi
    have h2 := d1.udi hi
    refine ⟨_, List.mem_map.mpr ⟨(V.2.2.2 t i).2.1, List.mem_range.mpr hi1, rfl⟩, ?_, ?_, ?_⟩
    · show vat V.2.1 t (V.2.2.2 t i).2.1 ≤ vpl V t i
      unfold vpl
      omega
    · show vpl V t i + _ ≤ vat V.2.1 t (V.2.2.2 t i).2.1 + vud V.1 (V.2.2.2 t) (V.2.2.2 t i).2.1 (V.2.2.1 t)
      unfold vpl
      omega
    · show g + vus V.1 (V.2.2.2 t) i = g + vsum (fun j => vud V.1 (V.2.2.2 t) j (V.2.2.1 t)) (V.2.2.2 t i).2.1 + (vpl V t i - vat V.2.1 t (V.2.2.2 t i).2.1)
      rw [h1]
      unfold vpl
      omega
end
