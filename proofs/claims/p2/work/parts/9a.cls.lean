/-! ===== the class: its own store stays within bounds, every index is good ===== -/
theorem lits : (0 : Int32).toInt = 0 ∧ (1 : Int32).toInt = 1 ∧ (2 : Int32).toInt = 2 ∧ (3 : Int32).toInt = 3 ∧ (4 : Int32).toInt = 4 ∧ (5 : Int32).toInt = 5 ∧ (6 : Int32).toInt = 6 ∧ (8 : Int32).toInt = 8 ∧ (9 : Int32).toInt = 9 ∧ (10 : Int32).toInt = 10 ∧ (12 : Int32).toInt = 12 ∧ (16 : Int32).toInt = 16 ∧ (40 : Int32).toInt = 40 ∧ (100 : Int32).toInt = 100 ∧ (160 : Int32).toInt = 160 ∧ (200 : Int32).toInt = 200 ∧ (256 : Int32).toInt = 256 ∧ (640 : Int32).toInt = 640 ∧ (2000 : Int32).toInt = 2000 ∧ (2048 : Int32).toInt = 2048 ∧ (-1 : Int32).toInt = -1 := by decide
theorem wt_Tn {t : Nat} (h : wt_T t) : (28 ≤ t ∧ t ≤ 38 ∧ t % 2 = 0) ∨ (57 ≤ t ∧ t ≤ 67 ∧ t % 2 = 1) ∨ (98 ≤ t ∧ t ≤ 108 ∧ t % 2 = 0) := by
  obtain ⟨b, k, hb, hk, rfl⟩ := h
  rcases hb with rfl | rfl | rfl <;> omega
theorem wt_won {b : Nat} (h : wt_C b) : (b = 11 ∧ wt_wo b = 11) ∨ (b = 40 ∧ wt_wo b = 40) ∨ (b = 81 ∧ wt_wo b = 75) := by
  unfold wt_wo
  rcases h with rfl | rfl | rfl
  · exact Or.inl ⟨rfl, by decide⟩
  · exact Or.inr (Or.inl ⟨rfl, by decide⟩)
  · exact Or.inr (Or.inr ⟨rfl, by decide⟩)
theorem wt_mzn {b : Nat} : wt_mz b = 10000 ∨ wt_mz b = 2048 := by
  unfold wt_mz
  split
  · exact Or.inl rfl
  · exact Or.inr rfl
theorem i_inc {x : Int32} (h : x.toInt < 2147483647) : (x + 1).toInt = x.toInt + 1 := by
  have h1 := x.toInt_lt
  have h2 := x.le_toInt
  rw [Int32.toInt_add]
  show (x.toInt + 1).bmod _ = _
  rw [Int.bmod_eq_of_le]
  · simp at h2 ⊢; omega
  · simp at h1 ⊢; omega
theorem i_dec {x : Int32} (h : -2147483648 < x.toInt) : (x + (-1)).toInt = x.toInt - 1 := by
  have h1 := x.toInt_lt
  have h2 := x.le_toInt
  rw [Int32.toInt_add]
  show (x.toInt + (-1)).bmod _ = _
  rw [Int.bmod_eq_of_le]
  · omega
  · simp at h2 ⊢; omega
  · simp at h1 ⊢; omega
theorem i_dec2 {x : Int32} (h : -2147483648 < x.toInt) : (x - 1).toInt = x.toInt - 1 := by
  rw [i_sub1]
  exact i_dec h
/-- a world: how many pieces, sides, frames -/
def CB (F : Nat) (s : wt_S) (b : Nat) : Prop := (0 ≤ (s (b + 2) 7).toInt ∧ (s (b + 2) 7).toInt ≤ 256) ∧ (s (b + 1) 4).toInt ≤ 3 ∧ ∀ k, k < 6 → -(F : Int) ≤ (s (b + 17 + 2 * k) 4).toInt ∧ (s (b + 17 + 2 * k) 4).toInt ≤ F
/-- a program -/
def CQ (s : wt_S) (q : Nat) : Prop := ∀ f, f < 10 → (0 ≤ (s (q + 3) f).toInt ∧ (s (q + 3) f).toInt ≤ 16) ∧ (s (q + 1) f).toInt ≤ 8
def CI (F : Nat) (z s : wt_S) : Prop := (∀ b, wt_C b → CB F s b) ∧ (∀ q, wt_Q q → CQ s q) ∧ s 1 0 = 8 ∧ s 2 0 = 64 ∧ (s 2 4).toInt = 3 ∧ (s 3 4).toInt ≤ 3 ∧ ∀ c, (c = 0 ∨ 110 ≤ c) ∨ c = 4 → s c = z c
/-- places that are minded -/
def hsp (a k : Nat) : Prop := ((a = 13 ∨ a = 42 ∨ a = 83) ∧ k = 7) ∨ ((a = 12 ∨ a = 41 ∨ a = 82) ∧ k = 4) ∨ (((28 ≤ a ∧ a ≤ 38 ∧ a % 2 = 0) ∨ (57 ≤ a ∧ a ≤ 67 ∧ a % 2 = 1) ∨ (98 ≤ a ∧ a ≤ 108 ∧ a % 2 = 0)) ∧ k = 4) ∨ a = 8 ∨ a = 79 ∨ a = 6 ∨ a = 77 ∨ a = 1 ∨ a = 2 ∨ a = 3 ∨ a = 4 ∨ a = 0 ∨ 110 ≤ a
section
variable {F : Nat} {z s s' : wt_S}
theorem CI.eq (h : CI F z s) (he : ∀ a k, hsp a k → s' a k = s a k) : CI F z s' := by
  obtain ⟨h1, h2, h3, h4, h5, h6, h7⟩ := h
  refine ⟨fun b hb => ?_, fun q hq f hf => ?_, ?_, ?_, ?_, ?_, fun c hc => ?_⟩
  · obtain ⟨a1, a2, a3⟩ := h1 b hb
    have hb' : b = 11 ∨ b = 40 ∨ b = 81 := hb
    refine ⟨by rw [he _ _ (by unfold hsp; omega)]; exact a1, by rw [he _ _ (by unfold hsp; omega)]; exact a2, fun k hk => by rw [he _ _ (by unfold hsp; omega)]; exact a3 k hk⟩
  · have hq' : q = 5 ∨ q = 76 := hq
    rw [he _ _ (by unfold hsp; omega), he _ _ (by unfold hsp; omega)]
    exact h2 q hq f hf
  · rw [he _ _ (by unfold hsp; omega)]; exact h3
  · rw [he _ _ (by unfold hsp; omega)]; exact h4
  · rw [he _ _ (by unfold hsp; omega)]; exact h5
  · rw [he _ _ (by unfold hsp; omega)]; exact h6
  · rw [← h7 c hc]; exact funext fun k => he c k (by unfold hsp; omega)
theorem CI.u {a k : Nat} {v : Int32} (h : CI F z s) (hn : ¬ hsp a k) : CI F z (wt_u s a k v) := h.eq (fun a' k' hs => by
  by_cases e : a' = a
  · subst e
    by_cases e2 : k' = k
    · subst e2; exact absurd hs hn
    · exact wt_u_nk e2
  · rw [wt_u_ne e])
theorem CI.uf {a : Nat} {f : Nat → Int32} (h : CI F z s) (hn : ∀ k, ¬ hsp a k) : CI F z (wt_uf s a f) := h.eq (fun a' k' hs => by
  by_cases e : a' = a
  · subst e; exact absurd hs (hn k')
  · rw [wt_uf_ne e])
theorem CI.mono {F' : Nat} (h : CI F z s) (hF : F ≤ F') : CI F' z s := ⟨fun b hb => by
  obtain ⟨a1, a2, a3⟩ := h.1 b hb
  exact ⟨a1, a2, fun k hk => by have := a3 k hk; omega⟩, h.2⟩
theorem CI.nm {b : Nat} (h : CI F z s) (hb : wt_C b) : 0 ≤ (s (b + 2) 7).toInt ∧ (s (b + 2) 7).toInt ≤ 256 := (h.1 b hb).1
theorem CI.sd {b : Nat} (h : CI F z s) (hb : wt_C b) : (s (b + 1) 4).toInt ≤ 3 := (h.1 b hb).2.1
theorem CI.fr {t : Nat} (h : CI F z s) (ht : wt_T t) : -(F : Int) ≤ (s t 4).toInt ∧ (s t 4).toInt ≤ F := by
  obtain ⟨b, k, hb, hk, rfl⟩ := ht
  exact (h.1 b hb).2.2 k hk
theorem CI.ln {q f : Nat} (h : CI F z s) (hq : wt_Q q) (hf : f < 10) : (0 ≤ (s (q + 3) f).toInt ∧ (s (q + 3) f).toInt ≤ 16) ∧ (s (q + 1) f).toInt ≤ 8 := h.2.1 q hq f hf
/-- how many pieces -/
theorem CI.un {b : Nat} {v : Int32} (h : CI F z s) (hb : wt_C b) (hv : 0 ≤ v.toInt ∧ v.toInt ≤ 256) : CI F z (wt_u s (b + 2) 7 v) := by
  obtain ⟨h1, h2, h3, h4, h5, h6, h7⟩ := h
  have hb' : b = 11 ∨ b = 40 ∨ b = 81 := hb
  refine ⟨fun c hc => ?_, fun q hq f hf => ?_, ?_, ?_, ?_, ?_, fun c hc => ?_⟩
  · obtain ⟨a1, a2, a3⟩ := h1 c hc
    have hc' : c = 11 ∨ c = 40 ∨ c = 81 := hc
    refine ⟨?_, by rw [wt_u_ne (by omega)]; exact a2, fun k hk => by rw [wt_u_ne (by omega)]; exact a3 k hk⟩
    by_cases e : c = b
    · subst e; rw [wt_u_self]; exact hv
    · rw [wt_u_ne (by omega)]; exact a1
  · have hq' : q = 5 ∨ q = 76 := hq
    rw [wt_u_ne (by omega), wt_u_ne (by omega)]; exact h2 q hq f hf
  · rw [wt_u_ne (by omega)]; exact h3
  · rw [wt_u_ne (by omega)]; exact h4
  · rw [wt_u_ne (by omega)]; exact h5
  · rw [wt_u_ne (by omega)]; exact h6
  · rw [wt_u_ne (by omega)]; exact h7 c hc
/-- how many frames -/
theorem CI.ut {F' t : Nat} {v : Int32} (h : CI F z s) (hF : F ≤ F') (ht : wt_T t) (hv : -(F' : Int) ≤ v.toInt ∧ v.toInt ≤ F') : CI F' z (wt_u s t 4 v) := by
  obtain ⟨h1, h2, h3, h4, h5, h6, h7⟩ := h
  have tn := wt_Tn ht
  refine ⟨fun c hc => ?_, fun q hq f hf => ?_, ?_, ?_, ?_, ?_, fun c hc => ?_⟩
  · obtain ⟨a1, a2, a3⟩ := h1 c hc
    have hc' : c = 11 ∨ c = 40 ∨ c = 81 := hc
    refine ⟨by rw [wt_u_ne (by omega)]; exact a1, by rw [wt_u_ne (by omega)]; exact a2, fun k hk => ?_⟩
    by_cases e : c + 17 + 2 * k = t
    · rw [e, wt_u_self]; exact hv
    · rw [wt_u_ne e]
      have := a3 k hk
      omega
  · have hq' : q = 5 ∨ q = 76 := hq
    rw [wt_u_ne (by omega), wt_u_ne (by omega)]; exact h2 q hq f hf
  · rw [wt_u_ne (by omega)]; exact h3
  · rw [wt_u_ne (by omega)]; exact h4
  · rw [wt_u_ne (by omega)]; exact h5
  · rw [wt_u_ne (by omega)]; exact h6
  · rw [wt_u_ne (by omega)]; exact h7 c hc
/-- a setting -/
theorem CI.us {b k : Nat} {v : Int32} (h : CI F z s) (hb : wt_C b) (hv : k = 4 → v.toInt ≤ 3) : CI F z (wt_u s (b + 1) k v) := by
  obtain ⟨h1, h2, h3, h4, h5, h6, h7⟩ := h
  have hb' : b = 11 ∨ b = 40 ∨ b = 81 := hb
  refine ⟨fun c hc => ?_, fun q hq f hf => ?_, ?_, ?_, ?_, ?_, fun c hc => ?_⟩
  · obtain ⟨a1, a2, a3⟩ := h1 c hc
    have hc' : c = 11 ∨ c = 40 ∨ c = 81 := hc
    refine ⟨by rw [wt_u_ne (by omega)]; exact a1, ?_, fun k hk => by rw [wt_u_ne (by omega)]; exact a3 k hk⟩
    by_cases e : c = b
    · subst e
      by_cases e2 : k = 4
      · subst e2; rw [wt_u_self]; exact hv rfl
      · rw [wt_u_nk (by omega)]; exact a2
    · rw [wt_u_ne (by omega)]; exact a2
  · have hq' : q = 5 ∨ q = 76 := hq
    rw [wt_u_ne (by omega), wt_u_ne (by omega)]; exact h2 q hq f hf
  · rw [wt_u_ne (by omega)]; exact h3
  · rw [wt_u_ne (by omega)]; exact h4
  · rw [wt_u_ne (by omega)]; exact h5
  · rw [wt_u_ne (by omega)]; exact h6
  · rw [wt_u_ne (by omega)]; exact h7 c hc
/-- lines, sizes -/
theorem CI.ul {q k : Nat} {v : Int32} (h : CI F z s) (hq : wt_Q q) (hv : 0 ≤ v.toInt ∧ v.toInt ≤ 16) : CI F z (wt_u s (q + 3) k v) := by
  obtain ⟨h1, h2, h3, h4, h5, h6, h7⟩ := h
  have hq' : q = 5 ∨ q = 76 := hq
  refine ⟨fun c hc => ?_, fun p hp f hf => ?_, ?_, ?_, ?_, ?_, fun c hc => ?_⟩
  · obtain ⟨a1, a2, a3⟩ := h1 c hc
    have hc' : c = 11 ∨ c = 40 ∨ c = 81 := hc
    exact ⟨by rw [wt_u_ne (by omega)]; exact a1, by rw [wt_u_ne (by omega)]; exact a2, fun k hk => by rw [wt_u_ne (by omega)]; exact a3 k hk⟩
  · have hp' : p = 5 ∨ p = 76 := hp
    obtain ⟨b1, b2⟩ := h2 p hp f hf
    refine ⟨?_, by rw [wt_u_ne (by omega)]; exact b2⟩
    by_cases e : p = q
    · subst e
      by_cases e2 : f = k
      · subst e2; rw [wt_u_self]; exact hv
      · rw [wt_u_nk e2]; exact b1
    · rw [wt_u_ne (by omega)]; exact b1
  · rw [wt_u_ne (by omega)]; exact h3
  · rw [wt_u_ne (by omega)]; exact h4
  · rw [wt_u_ne (by omega)]; exact h5
  · rw [wt_u_ne (by omega)]; exact h6
  · rw [wt_u_ne (by omega)]; exact h7 c hc
theorem CI.uz {q k : Nat} {v : Int32} (h : CI F z s) (hq : wt_Q q) (hv : v.toInt ≤ 8) : CI F z (wt_u s (q + 1) k v) := by
  obtain ⟨h1, h2, h3, h4, h5, h6, h7⟩ := h
  have hq' : q = 5 ∨ q = 76 := hq
  refine ⟨fun c hc => ?_, fun p hp f hf => ?_, ?_, ?_, ?_, ?_, fun c hc => ?_⟩
  · obtain ⟨a1, a2, a3⟩ := h1 c hc
    have hc' : c = 11 ∨ c = 40 ∨ c = 81 := hc
    exact ⟨by rw [wt_u_ne (by omega)]; exact a1, by rw [wt_u_ne (by omega)]; exact a2, fun k hk => by rw [wt_u_ne (by omega)]; exact a3 k hk⟩
  · have hp' : p = 5 ∨ p = 76 := hp
    obtain ⟨b1, b2⟩ := h2 p hp f hf
    refine ⟨by rw [wt_u_ne (by omega)]; exact b1, ?_⟩
    by_cases e : p = q
    · subst e
      by_cases e2 : f = k
      · subst e2; rw [wt_u_self]; exact hv
      · rw [wt_u_nk e2]; exact b2
    · rw [wt_u_ne (by omega)]; exact b2
  · rw [wt_u_ne (by omega)]; exact h3
  · rw [wt_u_ne (by omega)]; exact h4
  · rw [wt_u_ne (by omega)]; exact h5
  · rw [wt_u_ne (by omega)]; exact h6
  · rw [wt_u_ne (by omega)]; exact h7 c hc
end
section
variable {α β : Type} {P : α → wt_S → Prop} {F : Nat} {z s : wt_S}
/-- a place that is not minded is written -/
theorem ok_wc {a k : Nat} {v : Int32} {G : wt_S → Option (α × wt_S)} (h : CI F z s) (hn : ¬ hsp a k) (hG : ∀ s', CI F z s' → Ok P (G s')) : Ok P (wt_wr s a k v G) := hG _ (h.u hn)
theorem ok_ws {F' a k : Nat} {v : Int32} {G : wt_S → Option (α × wt_S)} (h : CI F' z (wt_u s a k v)) (hG : ∀ s', CI F' z s' → Ok P (G s')) : Ok P (wt_wr s a k v G) := hG _ h
/-- asked, nothing changes -/
theorem ok_cp {Q : β → Prop} {x : Option (β × wt_S)} {G : β → wt_S → Option (α × wt_S)} (h1 : Ok (fun r s' => s' = s ∧ Q r) x) (h2 : ∀ r, Q r → Ok P (G r s)) : Ok P (wt_cl x G) := by
  obtain ⟨r, s', e, e2, hq⟩ := h1
  subst e2
  rw [e]
  exact h2 r hq
theorem ok_ac {a b : Nat} {p q n : Int32} {n0 n1 : Nat} {G : wt_S → Option (α × wt_S)} (h : CI F z s) (hb : 0 ≤ n.toInt ∧ 0 ≤ q.toInt ∧ 0 ≤ p.toInt ∧ p.toInt + n.toInt ≤ n0 ∧ q.toInt + n.toInt ≤ n1) (hn : ∀ k, ¬ hsp b k) (hG : ∀ s', CI F z s' → Ok P (G s')) : Ok P (wt_ac s a p b q n n0 n1 G) := by
  unfold wt_ac
  rw [if_pos hb]
  exact hG _ (h.uf hn)
end
/-! ### places that are not minded -/
theorem hs_b {b c k : Nat} (hb : wt_C b) (hc : (3 ≤ c ∧ c ≤ 9) ∨ (11 ≤ c ∧ c ≤ 16)) : ¬ hsp (b + c) k := by
  have h : b = 11 ∨ b = 40 ∨ b = 81 := hb
  unfold hsp
  omega
theorem hs_b2 {b k : Nat} (hb : wt_C b) (hk : k ≠ 7) : ¬ hsp (b + 2) k := by
  have h : b = 11 ∨ b = 40 ∨ b = 81 := hb
  unfold hsp
  omega
theorem hs_t {t k : Nat} (ht : wt_T t) (hk : k ≠ 4) : ¬ hsp t k := by
  have h := wt_Tn ht
  unfold hsp
  omega
theorem hs_t1 {t k : Nat} (ht : wt_T t) : ¬ hsp (t + 1) k := by
  have h := wt_Tn ht
  unfold hsp
  omega
theorem hs_q {q c k : Nat} (hq : wt_Q q) (hc : c = 2 ∨ c = 4 ∨ c = 5) : ¬ hsp (q + c) k := by
  have h : q = 5 ∨ q = 76 := hq
  unfold hsp
  omega
theorem hs_w {b k : Nat} (hb : wt_C b) : ¬ hsp (wt_wo b) k := by
  have h := wt_won hb
  unfold hsp
  omega
theorem hs_d {a k : Nat} (h : a = 11 ∨ a = 40 ∨ a = 71 ∨ a = 72 ∨ a = 27) : ¬ hsp a k := by
  unfold hsp
  omega
theorem hs_e {a k : Nat} (h : (a = 41 ∨ a = 12) ∧ k ≠ 4) : ¬ hsp a k := by
  unfold hsp
  omega
