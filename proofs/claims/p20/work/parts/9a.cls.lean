section
/-! ===== the class: its own store stays within bounds, every index is good ===== -/
theorem lits : (0 : Int32).toInt = 0 ∧ (1 : Int32).toInt = 1 ∧ (2 : Int32).toInt = 2 ∧ (3 : Int32).toInt = 3 ∧ (4 : Int32).toInt = 4 ∧ (5 : Int32).toInt = 5 ∧ (6 : Int32).toInt = 6 ∧ (8 : Int32).toInt = 8 ∧ (9 : Int32).toInt = 9 ∧ (10 : Int32).toInt = 10 ∧ (12 : Int32).toInt = 12 ∧ (16 : Int32).toInt = 16 ∧ (40 : Int32).toInt = 40 ∧ (100 : Int32).toInt = 100 ∧ (160 : Int32).toInt = 160 ∧ (200 : Int32).toInt = 200 ∧ (256 : Int32).toInt = 256 ∧ (640 : Int32).toInt = 640 ∧ (2000 : Int32).toInt = 2000 ∧ (2048 : Int32).toInt = 2048 ∧ (-1 : Int32).toInt = -1 := by decide
theorem wt_Tn {t : Nat} (h : wt_T t) : (28 ≤ t ∧ t ≤ 38 ∧ t % 2 = 0) ∨ (57 ≤ t ∧ t ≤ 67 ∧ t % 2 = 1) ∨ (98 ≤ t ∧ t ≤ 108 ∧ t % 2 = 0) := by
  obtain ⟨b, k, hb, hk, rfl⟩ := h
  rcases hb with rfl | rfl | rfl <;> omega
theorem wt_won {b : Nat} (h : wt_C b) : (b = 11 ∧ wt_wo b = 11) ∨ (b = 40 ∧ wt_wo b = 40) ∨ (b = 81 ∧ wt_wo b = 75) := by
  unfold wt_wo
  rcases h with rfl | rfl | rfl
  · exact Or.inl ⟨rfl, by decide⟩
  · exact Or.inr (Or.inl ⟨rfl, by decide⟩)
  · exact Or.inr (Or.inr ⟨rfl, by decide⟩)
theorem wt_mzn {b : Nat} : wt_mz b = 10000 ∨ wt_mz b = 2048 := by
  unfold wt_mz
  split
  · exact Or.inl rfl
  · exact Or.inr rfl
theorem i_inc {x : Int32} (h : x.toInt < 2147483647) : (x + 1).toInt = x.toInt + 1 := by
  have h1 := x.toInt_lt
  have h2 := x.le_toInt
  rw [Int32.toInt_add]
  show (x.toInt + 1).bmod _ = _
  rw [Int.bmod_eq_of_le]
  · simp at h2 ⊢; omega
  · simp at h1 ⊢; omega
theorem i_dec {x : Int32} (h : -2147483648 < x.toInt) : (x + (-1)).toInt = x.toInt - 1 := by
  have h1 := x.toInt_lt
  have h2 := x.le_toInt
  rw [Int32.toInt_add]
  show (x.toInt + (-1)).bmod _ = _
  rw [Int.bmod_eq_of_le]
  · omega
  · simp at h2 ⊢; omega
  · simp at h1 ⊢; omega
theorem i_dec2 {x : Int32} (h : -2147483648 < x.toInt) : (x - 1).toInt = x.toInt - 1 := by
  rw [i_sub1]
  exact i_dec h
/-- a world: how many pieces, sides, frames -/
def CB (F : Nat) (s : wt_S) (b : Nat) : Prop := (0 ≤ (s (b + 2) 7).toInt ∧ (s (b + 2) 7).toInt ≤ 256) ∧ (s (b + 1) 4).toInt ≤ 3 ∧ ∀ k, k < 6 → -(F : Int) ≤ (s (b + 17 + 2 * k) 4).toInt ∧ (s (b + 17 + 2 * k) 4).toInt ≤ F
/-- a program -/
def CQ (s : wt_S) (q : Nat) : Prop := ∀ f, f < 10 → (0 ≤ (s (q + 3) f).toInt ∧ (s (q + 3) f).toInt ≤ 16) ∧ (s (q + 1) f).toInt ≤ 8
def CI (F : Nat) (z s : wt_S) : Prop := (∀ b, wt_C b → CB F s b) ∧ (∀ q, wt_Q q → CQ s q) ∧ s 1 0 = 8 ∧ s 2 0 = 64 ∧ (s 2 4).toInt = 3 ∧ (s 3 4).toInt ≤ 3 ∧ ∀ c, (c = 0 ∨ 110 ≤ c) ∨ c = 4 → s c = z c
/-- places that are minded -/
def hsp (a k : Nat) : Prop := ((a = 13 ∨ a = 42 ∨ a = 83) ∧ k = 7) ∨ ((a = 12 ∨ a = 41 ∨ a = 82) ∧ k = 4) ∨ (((28 ≤ a ∧ a ≤ 38 ∧ a % 2 = 0) ∨ (57 ≤ a ∧ a ≤ 67 ∧ a % 2 = 1) ∨ (98 ≤ a ∧ a ≤ 108 ∧ a % 2 = 0)) ∧ k = 4) ∨ a = 8 ∨ a = 79 ∨ a = 6 ∨ a = 77 ∨ a = 1 ∨ a = 2 ∨ a = 3 ∨ a = 4 ∨ a = 0 ∨ 110 ≤ a
section
variable {F : Nat} {z s s' : wt_S}
theorem CI.eq (h : CI F z s) (he : ∀ a k, hsp a k → s' a k = s a k) : CI F z s' := by
  obtain ⟨h1, h2, h3, h4, h5, h6, h7⟩ := h
  refine ⟨fun b hb => ?_, fun q hq f hf => ?_, ?_, ?_, ?_, ?_, fun c hc => ?_⟩
  · obtain ⟨a1, a2, a3⟩ := h1 b hb
    have hb' : b = 11 ∨ b = 40 ∨ b = 81 := hb
    refine ⟨by rw [he _ _ (by unfold hsp; omega)]; exact a1, by rw [he _ _ (by unfold hsp; omega)]; exact a2, fun k hk => by rw [he _ _ (by unfold hsp; omega)]; exact a3 k hk⟩
  · have hq' : q = 5 ∨ q = 76 := hq
    rw [he _ _ (by unfold hsp; omega), he _ _ (by unfold hsp; omega)]
    exact h2 q hq f hf
  · rw [he _ _ (by unfold hsp; omega)]; exact h3
  · rw [he _ _ (by unfold hsp; omega)]; exact h4
  · rw [he _ _ (by unfold hsp; omega)]; exact h5
  · rw [he _ _ (by unfold hsp; omega)]; exact h6
  · rw [← h7 c hc]; exact funext fun k => he c k (by unfold hsp; omega)
theorem CI.u {a k : Nat} {v : Int32} (h : CI F z s) (hn : ¬ hsp a k) : CI F z (wt_u s a k v) := h.eq (fun a' k' hs => by
  by_cases e : a' = a
  · subst e
    by_cases e2 : k' = k
    · subst e2; exact absurd hs hn
    · exact wt_u_nk e2
  · rw [wt_u_ne e])
theorem CI.uf {a : Nat} {f : Nat → Int32} (h : CI F z s) (hn : ∀ k, ¬ hsp a k) : CI F z (wt_uf s a f) := h.eq (fun a' k' hs => by
  by_cases e : a' = a
  · subst e; exact absurd hs (hn k')
  · rw [wt_uf_ne e])
theorem CI.mono {F' : Nat} (h : CI F z s) (hF : F ≤ F') : CI F' z s := ⟨fun b hb => by
  obtain ⟨a1, a2, a3⟩ := h.1 b hb
  exact ⟨a1, a2, fun k hk => by have := a3 k hk; omega⟩, h.2⟩
theorem CI.nm {b : Nat} (h : CI F z s) (hb : wt_C b) : 0 ≤ (s (b + 2) 7).toInt ∧ (s (b + 2) 7).toInt ≤ 256 := (h.1 b hb).1
theorem CI.sd {b : Nat} (h : CI F z s) (hb : wt_C b) : (s (b + 1) 4).toInt ≤ 3 := (h.1 b hb).2.1
theorem CI.fr {t : Nat} (h : CI F z s) (ht : wt_T t) : -(F : Int) ≤ (s t 4).toInt ∧ (s t 4).toInt ≤ F := by
  obtain ⟨b, k, hb, hk, rfl⟩ := ht
  exact (h.1 b hb).2.2 k hk
theorem CI.ln {q f : Nat} (h : CI F z s) (hq : wt_Q q) (hf : f < 10) : (0 ≤ (s (q + 3) f).toInt ∧ (s (q + 3) f).toInt ≤ 16) ∧ (s (q + 1) f).toInt ≤ 8 := h.2.1 q hq f hf
/-- how many pieces -/
theorem CI.un {b : Nat} {v : Int32} (h : CI F z s) (hb : wt_C b) (hv : 0 ≤ v.toInt ∧ v.toInt ≤ 256) : CI F z (wt_u s (b + 2) 7 v) := by
  obtain ⟨h1, h2, h3, h4, h5, h6, h7⟩ := h
  have hb' : b = 11 ∨ b = 40 ∨ b = 81 := hb
  refine ⟨fun c hc => ?_, fun q hq f hf => ?_, ?_, ?_, ?_, ?_, fun c hc => ?_⟩
  · obtain ⟨a1, a2, a3⟩ := h1 c hc
    have hc' : c = 11 ∨ c = 40 ∨ c = 81 := hc
    refine ⟨?_, by rw [wt_u_ne (by omega)]; exact a2, fun k hk => by rw [wt_u_ne (by omega)]; exact a3 k hk⟩
    by_cases e : c = b
    · subst e; rw [wt_u_self]; exact hv
    · rw [wt_u_ne (by omega)]; exact a1
  · have hq' : q = 5 ∨ q = 76 := hq
    rw [wt_u_ne (by omega), wt_u_ne (by omega)]; exact h2 q hq f hf
  · rw [wt_u_ne (by omega)]; exact h3
  · rw [wt_u_ne (by omega)]; exact h4
  · rw [wt_u_ne (by omega)]; exact h5
  · rw [wt_u_ne (by omega)]; exact h6
  · rw [wt_u_ne (by omega)]; exact h7 c hc
/-- how many frames -/
theorem CI.ut {F' t : Nat} {v : Int32} (h : CI F z s) (hF : F ≤ F') (ht : wt_T t) (hv : -(F' : Int) ≤ v.toInt ∧ v.toInt ≤ F') : CI F' z (wt_u s t 4 v) := by
  obtain ⟨h1, h2, h3, h4, h5, h6, h7⟩ := h
  have tn := wt_Tn ht
  refine ⟨fun c hc => ?_, fun q hq f hf => ?_, ?_, ?_, ?_, ?_, fun c hc => ?_⟩
  · obtain ⟨a1, a2, a3⟩ := h1 c hc
    have hc' : c = 11 ∨ c = 40 ∨ c = 81 := hc
    refine ⟨by rw [wt_u_ne (by omega)]; exact a1, by rw [wt_u_ne (by omega)]; exact a2, fun k hk => ?_⟩
    by_cases e : c + 17 + 2 * k = t
    · rw [e, wt_u_self]; exact hv
    · rw [wt_u_ne e]
      have := a3 k hk
      omega
  · have hq' : q = 5 ∨ q = 76 := hq
    rw [wt_u_ne (by omega), wt_u_ne (by omega)]; exact h2 q hq f hf
  · rw [wt_u_ne (by omega)]; exact h3
  · rw [wt_u_ne (by omega)]; exact h4
  · rw [wt_u_ne (by omega)]; exact h5
  · rw [wt_u_ne (by omega)]; exact h6
  · rw [wt_u_ne (by omega)]; exact h7 c hc
/-- a setting -/
theorem CI.us {b k : Nat} {v : Int32} (h : CI F z s) (hb : wt_C b) (hv : k = 4 → v.toInt ≤ 3) : CI F z (wt_u s (b + 1) k v) := by
  obtain ⟨h1, h2, h3, h4, h5, h6, h7⟩ := h
  have hb' : b = 11 ∨ b = 40 ∨ b = 81 := hb
  refine ⟨fun c hc => ?_, fun q hq f hf => ?_, ?_, ?_, ?_, ?_, fun c hc => ?_⟩
  · obtain ⟨a1, a2, a3⟩ := h1 c hc
    have hc' : c = 11 ∨ c = 40 ∨ c = 81 := hc
    refine ⟨by rw [wt_u_ne (by omega)]; exact a1, ?_, fun k hk => by rw [wt_u_ne (by omega)]; exact a3 k hk⟩
    by_cases e : c = b
    · subst e
      by_cases e2 : k = 4
      · subst e2; rw [wt_u_self]; exact hv rfl
      · rw [wt_u_nk (by omega)]; exact a2
    · rw [wt_u_ne (by omega)]; exact a2
  · have hq' : q = 5 ∨ q = 76 := hq
    rw [wt_u_ne (by omega), wt_u_ne (by omega)]; exact h2 q hq f hf
  · rw [wt_u_ne (by omega)]; exact h3
  · rw [wt_u_ne (by omega)]; exact h4
  · rw [wt_u_ne (by omega)]; exact h5
  · rw [wt_u_ne (by omega)]; exact h6
  · rw [wt_u_ne (by omega)]; exact h7 c hc
/-- lines, sizes -/
theorem CI.ul {q k : Nat} {v : Int32} (h : CI F z s) (hq : wt_Q q) (hv : 0 ≤ v.toInt ∧ v.toInt ≤ 16) : CI F z (wt_u s (q + 3) k v) := by
  obtain ⟨h1, h2, h3, h4, h5, h6, h7⟩ := h
  have hq' : q = 5 ∨ q = 76 := hq
  refine ⟨fun c hc => ?_, fun p hp f hf => ?_, ?_, ?_, ?_, ?_, fun c hc => ?_⟩
  · obtain ⟨a1, a2, a3⟩ := h1 c hc
    have hc' : c = 11 ∨ c = 40 ∨ c = 81 := hc
    exact ⟨by rw [wt_u_ne (by omega)]; exact a1, by rw [wt_u_ne (by omega)]; exact a2, fun k hk => by rw [wt_u_ne (by omega)]; exact a3 k hk⟩
  · have hp' : p = 5 ∨ p = 76 := hp
    obtain ⟨b1, b2⟩ := h2 p hp f hf
    refine ⟨?_, by rw [wt_u_ne (by omega)]; exact b2⟩
    by_cases e : p = q
    · subst e
      by_cases e2 : f = k
      · subst e2; rw [wt_u_self]; exact hv
      · rw [wt_u_nk e2]; exact b1
    · rw [wt_u_ne (by omega)]; exact b1
  · rw [wt_u_ne (by omega)]; exact h3
  · rw [wt_u_ne (by omega)]; exact h4
  · rw [wt_u_ne (by omega)]; exact h5
  · rw [wt_u_ne (by omega)]; exact h6
  · rw [wt_u_ne (by omega)]; exact h7 c hc
theorem CI.uz {q k : Nat} {v : Int32} (h : CI F z s) (hq : wt_Q q) (hv : v.toInt ≤ 8) : CI F z (wt_u s (q + 1) k v) := by
  obtain ⟨h1, h2, h3, h4, h5, h6, h7⟩ := h
  have hq' : q = 5 ∨ q = 76 := hq
  refine ⟨fun c hc => ?_, fun p hp f hf => ?_, ?_, ?_, ?_, ?_, fun c hc => ?_⟩
  · obtain ⟨a1, a2, a3⟩ := h1 c hc
    have hc' : c = 11 ∨ c = 40 ∨ c = 81 := hc
    exact ⟨by rw [wt_u_ne (by omega)]; exact a1, by rw [wt_u_ne (by omega)]; exact a2, fun k hk => by rw [wt_u_ne (by omega)]; exact a3 k hk⟩
  · have hp' : p = 5 ∨ p = 76 := hp
    obtain ⟨b1, b2⟩ := h2 p hp f hf
    refine ⟨by rw [wt_u_ne (by omega)]; exact b1, ?_⟩
    by_cases e : p = q
    · subst e
      by_cases e2 : f = k
      · subst e2; rw [wt_u_self]; exact hv
      · rw [wt_u_nk e2]; exact b2
    · rw [wt_u_ne (by omega)]; exact b2
  · rw [wt_u_ne (by omega)]; exact h3
  · rw [wt_u_ne (by omega)]; exact h4
  · rw [wt_u_ne (by omega)]; exact h5
  · rw [wt_u_ne (by omega)]; exact h6
  · rw [wt_u_ne (by omega)]; exact h7 c hc
end
section
variable {α β : Type} {P : α → wt_S → Prop} {F : Nat} {z s : wt_S}
/-- a place that is not minded is written -/
theorem ok_wc {a k : Nat} {v : Int32} {G : wt_S → Option (α × wt_S)} (h : CI F z s) (hn : ¬ hsp a k) (hG : ∀ s', CI F z s' → Ok P (G s')) : Ok P (wt_wr s a k v G) := hG _ (h.u hn)
theorem ok_ws {F' a k : Nat} {v : Int32} {G : wt_S → Option (α × wt_S)} (h : CI F' z (wt_u s a k v)) (hG : ∀ s', CI F' z s' → Ok P (G s')) : Ok P (wt_wr s a k v G) := hG _ h
/-- asked, nothing changes -/
theorem ok_cp {Q : β → Prop} {x : Option (β × wt_S)} {G : β → wt_S → Option (α × wt_S)} (h1 : Ok (fun r s' => s' = s ∧ Q r) x) (h2 : ∀ r, Q r → Ok P (G r s)) : Ok P (wt_cl x G) := by
  obtain ⟨r, s', e, e2, hq⟩ := h1
  subst e2
  rw [e]
  exact h2 r hq
theorem ok_ac {a b : Nat} {p q n : Int32} {n0 n1 : Nat} {G : wt_S → Option (α × wt_S)} (h : CI F z s) (hb : 0 ≤ n.toInt ∧ 0 ≤ q.toInt ∧ 0 ≤ p.toInt ∧ p.toInt + n.toInt ≤ n0 ∧ q.toInt + n.toInt ≤ n1) (hn : ∀ k, ¬ hsp b k) (hG : ∀ s', CI F z s' → Ok P (G s')) : Ok P (wt_ac s a p b q n n0 n1 G) := by
  unfold wt_ac
  rw [if_pos hb]
  exact hG _ (h.uf hn)
end
/-! ### places that are not minded -/
theorem hs_b {b c k : Nat} (hb : wt_C b) (hc : (3 ≤ c ∧ c ≤ 9) ∨ (11 ≤ c ∧ c ≤ 16)) : ¬ hsp (b + c) k := by
  have h : b = 11 ∨ b = 40 ∨ b = 81 := hb
  unfold hsp
  omega
theorem hs_b2 {b k : Nat} (hb : wt_C b) (hk : k ≠ 7) : ¬ hsp (b + 2) k := by
  have h : b = 11 ∨ b = 40 ∨ b = 81 := hb
  unfold hsp
  omega
theorem hs_t {t k : Nat} (ht : wt_T t) (hk : k ≠ 4) : ¬ hsp t k := by
  have h := wt_Tn ht
  unfold hsp
  omega
theorem hs_t1 {t k : Nat} (ht : wt_T t) : ¬ hsp (t + 1) k := by
  have h := wt_Tn ht
  unfold hsp
  omega
theorem hs_q {q c k : Nat} (hq : wt_Q q) (hc : c = 2 ∨ c = 4 ∨ c = 5) : ¬ hsp (q + c) k := by
  have h : q = 5 ∨ q = 76 := hq
  unfold hsp
  omega
theorem hs_w {b k : Nat} (hb : wt_C b) : ¬ hsp (wt_wo b) k := by
  have h := wt_won hb
  unfold hsp
  omega
theorem hs_d {a k : Nat} (h : a = 11 ∨ a = 40 ∨ a = 71 ∨ a = 72 ∨ a = 27) : ¬ hsp a k := by
  unfold hsp
  omega
theorem hs_e {a k : Nat} (h : (a = 41 ∨ a = 12) ∧ k ≠ 4) : ¬ hsp a k := by
  unfold hsp
  omega
end
section
/-! ===== the class, method by method (written by wip/p25/ok.py) ===== -/
theorem wt_mzi {b : Nat} : (Int32.ofInt (Int.ofNat (wt_mz b))).toInt = wt_mz b := by
  unfold wt_mz
  split <;> decide
theorem ok_rz {α : Type} {P : α → wt_S → Prop} {v : Int32} {x : Option (α × wt_S)} (h : v = 0 ∨ v = 1) (hx : Ok P x) : Ok P (wt_rz v x) := by
  unfold wt_rz
  rw [if_pos h]
  exact hx
theorem oX9_tasksThatAre_14 {F : Nat} {z : wt_S} (hF : F ≤ 2000000000) {b : Nat} (hb : wt_B b) : ∀ (fu : Nat) (s : wt_S) (l1 : Int32) (l2 : Int32) (l4 : Int32) (l5 : Int32), CI F z s → (l4.toInt = 6 ∧ 0 ≤ l5.toInt ∧ l5.toInt ≤ 6) → (6 - l5.toInt).toNat < fu → Ok (fun r s' => s' = s ∧ (True)) (gX9_tasksThatAre_14 b fu s l1 l2 l4 l5) := by
  obtain ⟨l_0, l_1, l_2, l_3, l_4, l_5, l_6, l_8, l_9, l_10, l_12, l_16, l_40, l_100, l_160, l_200, l_256, l_640, l_2000, l_2048, l_m1⟩ := lits
  have hbC : wt_C b := wt_BC hb
  intro fu
  induction fu with
  | zero => intro s l1 l2 l4 l5 h hc hm; exact absurd hm (Nat.not_lt_zero _)
  | succ n ih =>
    intro s l1 l2 l4 l5 h hc hm
    rw [gX9_tasksThatAre_14]
    unfold gX9_tasksThatAre_42
    refine ok_if (fun _ => ?_) (fun _ => ?_)
    · exact ok_some ⟨rfl, trivial⟩
    · refine ok_ix (by omega) (by omega) (fun k1 kl1 ke1 => ?_)
      refine ok_if (fun _ => ?_) (fun _ => ?_)
      · have e2 := i_inc (x := l5) (by omega)
        exact ih _ _ _ _ _ h (by omega) (by omega)
      · have e3 := i_inc (x := l5) (by omega)
        exact ih _ _ _ _ _ h (by omega) (by omega)
theorem oX9_tasksThatAre {F : Nat} {z : wt_S} (hF : F ≤ 2000000000) {b : Nat} (hb : wt_B b) {s : wt_S} (h : CI F z s) {i1 : Int32} : Ok (fun r s' => s' = s ∧ (True)) (gX9_tasksThatAre b s i1) := by
  obtain ⟨l_0, l_1, l_2, l_3, l_4, l_5, l_6, l_8, l_9, l_10, l_12, l_16, l_40, l_100, l_160, l_200, l_256, l_640, l_2000, l_2048, l_m1⟩ := lits
  have hbC : wt_C b := wt_BC hb
  unfold gX9_tasksThatAre 
  refine oX9_tasksThatAre_14 (by omega) (by first | assumption | exact Or.inl rfl | exact Or.inr rfl | exact wt_T57 | exact hc.2 | exact ⟨_, _, wt_BC (by assumption), by assumption, rfl⟩ | exact ⟨_, _, by assumption, by assumption, rfl⟩ | exact ⟨11, _, Or.inl rfl, by assumption, rfl⟩ | exact ⟨40, _, Or.inr (Or.inl rfl), by assumption, rfl⟩ | exact Or.inr (Or.inl rfl) | exact Or.inr (Or.inr rfl)) wt_N _ _ _ _ _ h ?_ (by unfold wt_N; omega)
  · omega
theorem oX9_busy {F : Nat} {z : wt_S} (hF : F ≤ 2000000000) {b : Nat} (hb : wt_B b) {s : wt_S} (h : CI F z s) : Ok (fun r s' => s' = s ∧ (r = 0 ∨ r = 1)) (gX9_busy b s) := by
  obtain ⟨l_0, l_1, l_2, l_3, l_4, l_5, l_6, l_8, l_9, l_10, l_12, l_16, l_40, l_100, l_160, l_200, l_256, l_640, l_2000, l_2048, l_m1⟩ := lits
  have hbC : wt_C b := wt_BC hb
  unfold gX9_busy 
  refine ok_cp (oX9_tasksThatAre (by omega) (by first | assumption | exact Or.inl rfl | exact Or.inr rfl | exact wt_T57 | exact hc.2 | exact ⟨_, _, wt_BC (by assumption), by assumption, rfl⟩ | exact ⟨_, _, by assumption, by assumption, rfl⟩ | exact ⟨11, _, Or.inl rfl, by assumption, rfl⟩ | exact ⟨40, _, Or.inr (Or.inl rfl), by assumption, rfl⟩ | exact Or.inr (Or.inl rfl) | exact Or.inr (Or.inr rfl)) h) (fun v2 q1 => ?_)
  refine ok_cp (oX9_tasksThatAre (by omega) (by first | assumption | exact Or.inl rfl | exact Or.inr rfl | exact wt_T57 | exact hc.2 | exact ⟨_, _, wt_BC (by assumption), by assumption, rfl⟩ | exact ⟨_, _, by assumption, by assumption, rfl⟩ | exact ⟨11, _, Or.inl rfl, by assumption, rfl⟩ | exact ⟨40, _, Or.inr (Or.inl rfl), by assumption, rfl⟩ | exact Or.inr (Or.inl rfl) | exact Or.inr (Or.inr rfl)) h) (fun v4 q2 => ?_)
  refine ok_if (fun _ => ?_) (fun _ => ?_)
  · exact ok_some ⟨rfl, (by first | assumption | exact Or.inl rfl | exact Or.inr rfl | exact hc.2 | omega | exact ⟨Or.inl rfl, Or.inl rfl⟩ | exact ⟨Or.inr rfl, Or.inr (by omega)⟩ | exact ⟨by assumption, by assumption⟩)⟩
  · exact ok_some ⟨rfl, (by first | assumption | exact Or.inl rfl | exact Or.inr rfl | exact hc.2 | omega | exact ⟨Or.inl rfl, Or.inl rfl⟩ | exact ⟨Or.inr rfl, Or.inr (by omega)⟩ | exact ⟨by assumption, by assumption⟩)⟩
theorem oX10_isFunction {F : Nat} {z : wt_S} (hF : F ≤ 2000000000)  {s : wt_S} (h : CI F z s) {i1 : Int32} : Ok (fun r s' => s' = s ∧ ((r = 0 ∨ r = 1) ∧ (r = 0 ∨ (0 ≤ i1.toInt ∧ i1.toInt ≤ 9)))) (gX10_isFunction s i1) := by
  obtain ⟨l_0, l_1, l_2, l_3, l_4, l_5, l_6, l_8, l_9, l_10, l_12, l_16, l_40, l_100, l_160, l_200, l_256, l_640, l_2000, l_2048, l_m1⟩ := lits
  unfold gX10_isFunction 
  refine ok_if (fun _ => ?_) (fun _ => ?_)
  · exact ok_some ⟨rfl, (by first | assumption | exact Or.inl rfl | exact Or.inr rfl | exact hc.2 | omega | exact ⟨Or.inl rfl, Or.inl rfl⟩ | exact ⟨Or.inr rfl, Or.inr (by omega)⟩ | exact ⟨by assumption, by assumption⟩)⟩
  · refine ok_if (fun _ => ?_) (fun _ => ?_)
    · exact ok_some ⟨rfl, (by first | assumption | exact Or.inl rfl | exact Or.inr rfl | exact hc.2 | omega | exact ⟨Or.inl rfl, Or.inl rfl⟩ | exact ⟨Or.inr rfl, Or.inr (by omega)⟩ | exact ⟨by assumption, by assumption⟩)⟩
    · exact ok_some ⟨rfl, (by first | assumption | exact Or.inl rfl | exact Or.inr rfl | exact hc.2 | omega | exact ⟨Or.inl rfl, Or.inl rfl⟩ | exact ⟨Or.inr rfl, Or.inr (by omega)⟩ | exact ⟨by assumption, by assumption⟩)⟩
theorem oX6_linesOf {F : Nat} {z : wt_S} (hF : F ≤ 2000000000) {q : Nat} (hq : wt_Q q) {s : wt_S} (h : CI F z s) {i1 : Int32} : Ok (fun r s' => s' = s ∧ (0 ≤ r.toInt ∧ r.toInt ≤ 16)) (gX6_linesOf q s i1) := by
  obtain ⟨l_0, l_1, l_2, l_3, l_4, l_5, l_6, l_8, l_9, l_10, l_12, l_16, l_40, l_100, l_160, l_200, l_256, l_640, l_2000, l_2048, l_m1⟩ := lits
  unfold gX6_linesOf 
  refine ok_cp (oX10_isFunction (by omega)  h) (fun v2 ⟨q1, g1⟩ => ?_)
  refine ok_if (fun _ => ?_) (fun z2 => ?_)
  · exact ok_some ⟨rfl, (by first | assumption | exact Or.inl rfl | exact Or.inr rfl | exact hc.2 | omega | exact ⟨Or.inl rfl, Or.inl rfl⟩ | exact ⟨Or.inr rfl, Or.inr (by omega)⟩ | exact ⟨by assumption, by assumption⟩)⟩
  · have gg2 := g1.resolve_left z2
    refine ok_ix (by omega) (by omega) (fun k3 kl3 ke3 => ?_)
    have f3 := h.ln hq kl3
    exact ok_some ⟨rfl, (by first | assumption | exact Or.inl rfl | exact Or.inr rfl | exact hc.2 | omega | exact ⟨Or.inl rfl, Or.inl rfl⟩ | exact ⟨Or.inr rfl, Or.inr (by omega)⟩ | exact ⟨by assumption, by assumption⟩)⟩
theorem oX6_part {F : Nat} {z : wt_S} (hF : F ≤ 2000000000) {q : Nat} (hq : wt_Q q) {s : wt_S} (h : CI F z s) {i1 i2 i3 : Int32} : Ok (fun r s' => s' = s ∧ (True)) (gX6_part q s i1 i2 i3) := by
  obtain ⟨l_0, l_1, l_2, l_3, l_4, l_5, l_6, l_8, l_9, l_10, l_12, l_16, l_40, l_100, l_160, l_200, l_256, l_640, l_2000, l_2048, l_m1⟩ := lits
  unfold gX6_part 
  refine ok_if (fun _ => ?_) (fun _ => ?_)
  · exact ok_some ⟨rfl, trivial⟩
  · refine ok_if (fun _ => ?_) (fun _ => ?_)
    · exact ok_some ⟨rfl, trivial⟩
    · refine ok_if (fun _ => ?_) (fun _ => ?_)
      · exact ok_some ⟨rfl, trivial⟩
      · refine ok_ix (by omega) (by omega) (fun k1 kl1 ke1 => ?_)
        have f1 := h.ln hq kl1
        refine ok_if (fun _ => ?_) (fun _ => ?_)
        · refine ok_if (fun _ => ?_) (fun _ => ?_)
          · exact ok_some ⟨rfl, trivial⟩
          · refine ok_if (fun _ => ?_) (fun _ => ?_)
            · exact ok_some ⟨rfl, trivial⟩
            · refine ok_ix (by omega) (by omega) (fun k2 kl2 ke2 => ?_)
              exact ok_some ⟨rfl, trivial⟩
        · exact ok_some ⟨rfl, trivial⟩
theorem oX6_calledBy {F : Nat} {z : wt_S} (hF : F ≤ 2000000000) {q : Nat} (hq : wt_Q q) {s : wt_S} (h : CI F z s) {i1 i2 : Int32} : Ok (fun r s' => s' = s ∧ (True)) (gX6_calledBy q s i1 i2) := by
  obtain ⟨l_0, l_1, l_2, l_3, l_4, l_5, l_6, l_8, l_9, l_10, l_12, l_16, l_40, l_100, l_160, l_200, l_256, l_640, l_2000, l_2048, l_m1⟩ := lits
  unfold gX6_calledBy 
  refine ok_cp (oX6_part (by omega) (by first | assumption | exact Or.inl rfl | exact Or.inr rfl | exact wt_T57 | exact hc.2 | exact ⟨_, _, wt_BC (by assumption), by assumption, rfl⟩ | exact ⟨_, _, by assumption, by assumption, rfl⟩ | exact ⟨11, _, Or.inl rfl, by assumption, rfl⟩ | exact ⟨40, _, Or.inr (Or.inl rfl), by assumption, rfl⟩ | exact Or.inr (Or.inl rfl) | exact Or.inr (Or.inr rfl)) h) (fun v2 q1 => ?_)
  refine ok_if (fun _ => ?_) (fun _ => ?_)
  · refine ok_if (fun _ => ?_) (fun _ => ?_)
    · exact ok_some ⟨rfl, trivial⟩
    · refine ok_cp (oX6_part (by omega) (by first | assumption | exact Or.inl rfl | exact Or.inr rfl | exact wt_T57 | exact hc.2 | exact ⟨_, _, wt_BC (by assumption), by assumption, rfl⟩ | exact ⟨_, _, by assumption, by assumption, rfl⟩ | exact ⟨11, _, Or.inl rfl, by assumption, rfl⟩ | exact ⟨40, _, Or.inr (Or.inl rfl), by assumption, rfl⟩ | exact Or.inr (Or.inl rfl) | exact Or.inr (Or.inr rfl)) h) (fun v4 q2 => ?_)
      exact ok_some ⟨rfl, trivial⟩
  · refine ok_cp (oX6_part (by omega) (by first | assumption | exact Or.inl rfl | exact Or.inr rfl | exact wt_T57 | exact hc.2 | exact ⟨_, _, wt_BC (by assumption), by assumption, rfl⟩ | exact ⟨_, _, by assumption, by assumption, rfl⟩ | exact ⟨11, _, Or.inl rfl, by assumption, rfl⟩ | exact ⟨40, _, Or.inr (Or.inl rfl), by assumption, rfl⟩ | exact Or.inr (Or.inl rfl) | exact Or.inr (Or.inr rfl)) h) (fun v6 q3 => ?_)
    exact ok_some ⟨rfl, trivial⟩
theorem oX6_deepOf {F : Nat} {z : wt_S} (hF : F ≤ 2000000000) {q : Nat} (hq : wt_Q q) {s : wt_S} (h : CI F z s) {i1 : Int32} : Ok (fun r s' => s' = s ∧ (True)) (gX6_deepOf q s i1) := by
  obtain ⟨l_0, l_1, l_2, l_3, l_4, l_5, l_6, l_8, l_9, l_10, l_12, l_16, l_40, l_100, l_160, l_200, l_256, l_640, l_2000, l_2048, l_m1⟩ := lits
  unfold gX6_deepOf 
  refine ok_cp (oX10_isFunction (by omega)  h) (fun v2 ⟨q1, g1⟩ => ?_)
  refine ok_if (fun _ => ?_) (fun z2 => ?_)
  · exact ok_some ⟨rfl, trivial⟩
  · have gg2 := g1.resolve_left z2
    refine ok_ix (by omega) (by omega) (fun k3 kl3 ke3 => ?_)
    have f3 := h.ln hq kl3
    exact ok_some ⟨rfl, trivial⟩
theorem oJ9_max_7cf53 {F : Nat} {z : wt_S} (hF : F ≤ 2000000000)  {s : wt_S} (h : CI F z s) {i1 i2 : Int32} : Ok (fun r s' => s' = s ∧ (True)) (gJ9_max_7cf53 s i1 i2) := by
  obtain ⟨l_0, l_1, l_2, l_3, l_4, l_5, l_6, l_8, l_9, l_10, l_12, l_16, l_40, l_100, l_160, l_200, l_256, l_640, l_2000, l_2048, l_m1⟩ := lits
  unfold gJ9_max_7cf53 
  refine ok_if (fun _ => ?_) (fun _ => ?_)
  · exact ok_some ⟨rfl, trivial⟩
  · exact ok_some ⟨rfl, trivial⟩
theorem oX6_sizeOf {F : Nat} {z : wt_S} (hF : F ≤ 2000000000) {q : Nat} (hq : wt_Q q) {s : wt_S} (h : CI F z s) {i1 : Int32} : Ok (fun r s' => s' = s ∧ (r.toInt ≤ 8)) (gX6_sizeOf q s i1) := by
  obtain ⟨l_0, l_1, l_2, l_3, l_4, l_5, l_6, l_8, l_9, l_10, l_12, l_16, l_40, l_100, l_160, l_200, l_256, l_640, l_2000, l_2048, l_m1⟩ := lits
  unfold gX6_sizeOf 
  refine ok_if (fun _ => ?_) (fun _ => ?_)
  · exact ok_some ⟨rfl, (by first | assumption | exact Or.inl rfl | exact Or.inr rfl | exact hc.2 | omega | exact ⟨Or.inl rfl, Or.inl rfl⟩ | exact ⟨Or.inr rfl, Or.inr (by omega)⟩ | exact ⟨by assumption, by assumption⟩)⟩
  · refine ok_if (fun _ => ?_) (fun _ => ?_)
    · exact ok_some ⟨rfl, (by first | assumption | exact Or.inl rfl | exact Or.inr rfl | exact hc.2 | omega | exact ⟨Or.inl rfl, Or.inl rfl⟩ | exact ⟨Or.inr rfl, Or.inr (by omega)⟩ | exact ⟨by assumption, by assumption⟩)⟩
    · refine ok_ix (by omega) (by omega) (fun k1 kl1 ke1 => ?_)
      have f1 := h.ln hq kl1
      exact ok_some ⟨rfl, (by first | assumption | exact Or.inl rfl | exact Or.inr rfl | exact hc.2 | omega | exact ⟨Or.inl rfl, Or.inl rfl⟩ | exact ⟨Or.inr rfl, Or.inr (by omega)⟩ | exact ⟨by assumption, by assumption⟩)⟩
theorem i_2add {x : Int32} (h : x.toInt ≤ 1000) : (2 + x).toInt = 2 + x.toInt := by
  have h2 := x.le_toInt
  rw [Int32.toInt_add]
  show (2 + x.toInt).bmod _ = _
  rw [Int.bmod_eq_of_le]
  · simp at h2 ⊢; omega
  · simp; omega
theorem oX6_frameWords {F : Nat} {z : wt_S} (hF : F ≤ 2000000000) {q : Nat} (hq : wt_Q q) {s : wt_S} (h : CI F z s) {i1 : Int32} : Ok (fun r s' => s' = s ∧ (r.toInt ≤ 10)) (gX6_frameWords q s i1) := by
  unfold gX6_frameWords
  refine ok_cp (oX6_sizeOf hF hq h) (fun v q1 => ?_)
  have := i_2add (x := v) (by omega)
  exact ok_some ⟨rfl, by omega⟩
theorem oX6_deepByLines_4 {F : Nat} {z : wt_S} (hF : F ≤ 2000000000) {q : Nat} (hq : wt_Q q) : ∀ (fu : Nat) (s : wt_S) (l1 : Int32) (l2 : Int32) (l3 : Int32), CI F z s → (0 ≤ l3.toInt ∧ l3.toInt ≤ 16) → (16 - l3.toInt).toNat < fu → Ok (fun r s' => s' = s ∧ (True)) (gX6_deepByLines_4 q fu s l1 l2 l3) := by
  obtain ⟨l_0, l_1, l_2, l_3, l_4, l_5, l_6, l_8, l_9, l_10, l_12, l_16, l_40, l_100, l_160, l_200, l_256, l_640, l_2000, l_2048, l_m1⟩ := lits
  intro fu
  induction fu with
  | zero => intro s l1 l2 l3 h hc hm; exact absurd hm (Nat.not_lt_zero _)
  | succ n ih =>
    intro s l1 l2 l3 h hc hm
    rw [gX6_deepByLines_4]
    refine ok_cp (oX6_linesOf (by omega) (by first | assumption | exact Or.inl rfl | exact Or.inr rfl | exact wt_T57 | exact hc.2 | exact ⟨_, _, wt_BC (by assumption), by assumption, rfl⟩ | exact ⟨_, _, by assumption, by assumption, rfl⟩ | exact ⟨11, _, Or.inl rfl, by assumption, rfl⟩ | exact ⟨40, _, Or.inr (Or.inl rfl), by assumption, rfl⟩ | exact Or.inr (Or.inl rfl) | exact Or.inr (Or.inr rfl)) h) (fun v2 q1 => ?_)
    refine ok_if (fun _ => ?_) (fun _ => ?_)
    · refine ok_cp (oX6_frameWords (by omega) (by first | assumption | exact Or.inl rfl | exact Or.inr rfl | exact wt_T57 | exact hc.2 | exact ⟨_, _, wt_BC (by assumption), by assumption, rfl⟩ | exact ⟨_, _, by assumption, by assumption, rfl⟩ | exact ⟨11, _, Or.inl rfl, by assumption, rfl⟩ | exact ⟨40, _, Or.inr (Or.inl rfl), by assumption, rfl⟩ | exact Or.inr (Or.inl rfl) | exact Or.inr (Or.inr rfl)) h) (fun v4 q2 => ?_)
      exact ok_some ⟨rfl, trivial⟩
    · refine ok_cp (oX6_calledBy (by omega) (by first | assumption | exact Or.inl rfl | exact Or.inr rfl | exact wt_T57 | exact hc.2 | exact ⟨_, _, wt_BC (by assumption), by assumption, rfl⟩ | exact ⟨_, _, by assumption, by assumption, rfl⟩ | exact ⟨11, _, Or.inl rfl, by assumption, rfl⟩ | exact ⟨40, _, Or.inr (Or.inl rfl), by assumption, rfl⟩ | exact Or.inr (Or.inl rfl) | exact Or.inr (Or.inr rfl)) h) (fun v6 q3 => ?_)
      refine ok_cp (oX6_deepOf (by omega) (by first | assumption | exact Or.inl rfl | exact Or.inr rfl | exact wt_T57 | exact hc.2 | exact ⟨_, _, wt_BC (by assumption), by assumption, rfl⟩ | exact ⟨_, _, by assumption, by assumption, rfl⟩ | exact ⟨11, _, Or.inl rfl, by assumption, rfl⟩ | exact ⟨40, _, Or.inr (Or.inl rfl), by assumption, rfl⟩ | exact Or.inr (Or.inl rfl) | exact Or.inr (Or.inr rfl)) h) (fun v8 q4 => ?_)
      refine ok_if (fun _ => ?_) (fun _ => ?_)
      · refine ok_cp (oJ9_max_7cf53 (by omega)  h) (fun v10 q5 => ?_)
        have e6 := i_inc (x := l3) (by omega)
        exact ih _ _ _ _ h (by omega) (by omega)
      · exact ok_some ⟨rfl, trivial⟩
theorem oX6_deepByLines {F : Nat} {z : wt_S} (hF : F ≤ 2000000000) {q : Nat} (hq : wt_Q q) {s : wt_S} (h : CI F z s) {i1 : Int32} : Ok (fun r s' => s' = s ∧ (True)) (gX6_deepByLines q s i1) := by
  obtain ⟨l_0, l_1, l_2, l_3, l_4, l_5, l_6, l_8, l_9, l_10, l_12, l_16, l_40, l_100, l_160, l_200, l_256, l_640, l_2000, l_2048, l_m1⟩ := lits
  unfold gX6_deepByLines 
  refine oX6_deepByLines_4 (by omega) (by first | assumption | exact Or.inl rfl | exact Or.inr rfl | exact wt_T57 | exact hc.2 | exact ⟨_, _, wt_BC (by assumption), by assumption, rfl⟩ | exact ⟨_, _, by assumption, by assumption, rfl⟩ | exact ⟨11, _, Or.inl rfl, by assumption, rfl⟩ | exact ⟨40, _, Or.inr (Or.inl rfl), by assumption, rfl⟩ | exact Or.inr (Or.inl rfl) | exact Or.inr (Or.inr rfl)) wt_N _ _ _ _ h ?_ (by unfold wt_N; omega)
  · omega
theorem oX6_findDeeps_45 {F : Nat} {z : wt_S} (hF : F ≤ 2000000000) {q : Nat} (hq : wt_Q q) {K37 : wt_S → Int32 → Option (Unit × wt_S)} : ∀ (fu : Nat) (s : wt_S) (l1 : Int32) (l2 : Int32), CI F z s → (0 ≤ l2.toInt ∧ l2.toInt ≤ 10) → (10 - l2.toInt).toNat < fu → (∀ (s9 : wt_S) , CI F z s9 → Ok (fun r s' => CI F z s') (K37 s9 (l1 + 1))) → Ok (fun r s' => CI F z s') (gX6_findDeeps_45 q K37 fu s l1 l2) := by
  obtain ⟨l_0, l_1, l_2, l_3, l_4, l_5, l_6, l_8, l_9, l_10, l_12, l_16, l_40, l_100, l_160, l_200, l_256, l_640, l_2000, l_2048, l_m1⟩ := lits
  intro fu
  induction fu with
  | zero => intro s l1 l2 h hc hm hK; exact absurd hm (Nat.not_lt_zero _)
  | succ n ih =>
    intro s l1 l2 h hc hm hK
    rw [gX6_findDeeps_45]
    refine ok_if (fun _ => ?_) (fun _ => ?_)
    · exact hK _ h
    · refine ok_ix (by omega) (by omega) (fun k1 kl1 ke1 => ?_)
      have f1 := h.ln hq kl1
      refine ok_if (fun _ => ?_) (fun _ => ?_)
      · have e2 := i_inc (x := l2) (by omega)
        exact ih _ _ _ h (by omega) (by omega) hK
      · refine ok_cp (oX6_deepByLines (by omega) (by first | assumption | exact Or.inl rfl | exact Or.inr rfl | exact wt_T57 | exact hc.2 | exact ⟨_, _, wt_BC (by assumption), by assumption, rfl⟩ | exact ⟨_, _, by assumption, by assumption, rfl⟩ | exact ⟨11, _, Or.inl rfl, by assumption, rfl⟩ | exact ⟨40, _, Or.inr (Or.inl rfl), by assumption, rfl⟩ | exact Or.inr (Or.inl rfl) | exact Or.inr (Or.inr rfl)) h) (fun v3 q3 => ?_)
        refine ok_ix (by omega) (by omega) (fun k5 kl4 ke4 => ?_)
        have f4 := h.ln hq kl4
        refine ok_wc h (by first | exact hs_b (by assumption) (by decide) | exact hs_b2 (by assumption) (by decide) | exact hs_t (by assumption) (by decide) | exact hs_t1 (by assumption) | exact hs_q (by assumption) (by decide) | exact hs_w (by assumption) | exact hs_d (by decide) | exact hs_e (by decide)) (fun s5 h5 => ?_)
        have e6 := i_inc (x := l2) (by omega)
        exact ih _ _ _ h5 (by omega) (by omega) hK
theorem oX6_findDeeps_37 {F : Nat} {z : wt_S} (hF : F ≤ 2000000000) {q : Nat} (hq : wt_Q q) : ∀ (fu : Nat) (s : wt_S) (l1 : Int32), CI F z s → (0 ≤ l1.toInt ∧ l1.toInt ≤ 10) → (10 - l1.toInt).toNat < fu → Ok (fun r s' => CI F z s') (gX6_findDeeps_37 q fu s l1) := by
  obtain ⟨l_0, l_1, l_2, l_3, l_4, l_5, l_6, l_8, l_9, l_10, l_12, l_16, l_40, l_100, l_160, l_200, l_256, l_640, l_2000, l_2048, l_m1⟩ := lits
  intro fu
  induction fu with
  | zero => intro s l1 h hc hm; exact absurd hm (Nat.not_lt_zero _)
  | succ n ih =>
    intro s l1 h hc hm
    rw [gX6_findDeeps_37]
    refine ok_if (fun _ => ?_) (fun _ => ?_)
    · exact ok_some (h.mono (by omega))
    · refine oX6_findDeeps_45 (by omega) (by first | assumption | exact Or.inl rfl | exact Or.inr rfl | exact wt_T57 | exact hc.2 | exact ⟨_, _, wt_BC (by assumption), by assumption, rfl⟩ | exact ⟨_, _, by assumption, by assumption, rfl⟩ | exact ⟨11, _, Or.inl rfl, by assumption, rfl⟩ | exact ⟨40, _, Or.inr (Or.inl rfl), by assumption, rfl⟩ | exact Or.inr (Or.inl rfl) | exact Or.inr (Or.inr rfl)) wt_N _ _ _ h ?_ (by unfold wt_N; omega) ?_
      · omega
      · intro s9  h9
        have e1 := i_inc (x := l1) (by omega)
        exact ih _ _ h9 (by omega) (by omega)
theorem oX6_findDeeps_2 {F : Nat} {z : wt_S} (hF : F ≤ 2000000000) {q : Nat} (hq : wt_Q q) : ∀ (fu : Nat) (s : wt_S) (l1 : Int32), CI F z s → (0 ≤ l1.toInt ∧ l1.toInt ≤ 10) → (10 - l1.toInt).toNat < fu → Ok (fun r s' => CI F z s') (gX6_findDeeps_2 q fu s l1) := by
  obtain ⟨l_0, l_1, l_2, l_3, l_4, l_5, l_6, l_8, l_9, l_10, l_12, l_16, l_40, l_100, l_160, l_200, l_256, l_640, l_2000, l_2048, l_m1⟩ := lits
  intro fu
  induction fu with
  | zero => intro s l1 h hc hm; exact absurd hm (Nat.not_lt_zero _)
  | succ n ih =>
    intro s l1 h hc hm
    rw [gX6_findDeeps_2]
    unfold gX6_findDeeps_28
    refine ok_if (fun _ => ?_) (fun _ => ?_)
    · refine oX6_findDeeps_37 (by omega) (by first | assumption | exact Or.inl rfl | exact Or.inr rfl | exact wt_T57 | exact hc.2 | exact ⟨_, _, wt_BC (by assumption), by assumption, rfl⟩ | exact ⟨_, _, by assumption, by assumption, rfl⟩ | exact ⟨11, _, Or.inl rfl, by assumption, rfl⟩ | exact ⟨40, _, Or.inr (Or.inl rfl), by assumption, rfl⟩ | exact Or.inr (Or.inl rfl) | exact Or.inr (Or.inr rfl)) wt_N _ _ h ?_ (by unfold wt_N; omega)
      · omega
    · refine ok_ix (by omega) (by omega) (fun k1 kl1 ke1 => ?_)
      have f1 := h.ln hq kl1
      refine ok_if (fun _ => ?_) (fun _ => ?_)
      · refine ok_ix (by omega) (by omega) (fun k2 kl2 ke2 => ?_)
        have f2 := h.ln hq kl2
        refine ok_wc h (by first | exact hs_b (by assumption) (by decide) | exact hs_b2 (by assumption) (by decide) | exact hs_t (by assumption) (by decide) | exact hs_t1 (by assumption) | exact hs_q (by assumption) (by decide) | exact hs_w (by assumption) | exact hs_d (by decide) | exact hs_e (by decide)) (fun s3 h3 => ?_)
        have e4 := i_inc (x := l1) (by omega)
        exact ih _ _ h3 (by omega) (by omega)
      · refine ok_ix (by omega) (by omega) (fun k2 kl5 ke5 => ?_)
        have f5 := h.ln hq kl5
        refine ok_wc h (by first | exact hs_b (by assumption) (by decide) | exact hs_b2 (by assumption) (by decide) | exact hs_t (by assumption) (by decide) | exact hs_t1 (by assumption) | exact hs_q (by assumption) (by decide) | exact hs_w (by assumption) | exact hs_d (by decide) | exact hs_e (by decide)) (fun s6 h6 => ?_)
        have e7 := i_inc (x := l1) (by omega)
        exact ih _ _ h6 (by omega) (by omega)
theorem oX6_findDeeps {F : Nat} {z : wt_S} (hF : F ≤ 2000000000) {q : Nat} (hq : wt_Q q) {s : wt_S} (h : CI F z s) : Ok (fun r s' => CI F z s') (gX6_findDeeps q s) := by
  obtain ⟨l_0, l_1, l_2, l_3, l_4, l_5, l_6, l_8, l_9, l_10, l_12, l_16, l_40, l_100, l_160, l_200, l_256, l_640, l_2000, l_2048, l_m1⟩ := lits
  unfold gX6_findDeeps 
  refine oX6_findDeeps_2 (by omega) (by first | assumption | exact Or.inl rfl | exact Or.inr rfl | exact wt_T57 | exact hc.2 | exact ⟨_, _, wt_BC (by assumption), by assumption, rfl⟩ | exact ⟨_, _, by assumption, by assumption, rfl⟩ | exact ⟨11, _, Or.inl rfl, by assumption, rfl⟩ | exact ⟨40, _, Or.inr (Or.inl rfl), by assumption, rfl⟩ | exact Or.inr (Or.inl rfl) | exact Or.inr (Or.inr rfl)) wt_N _ _ h ?_ (by unfold wt_N; omega)
  · omega
theorem oX6_told {F : Nat} {z : wt_S} (hF : F ≤ 2000000000) {q : Nat} (hq : wt_Q q) {s : wt_S} (h : CI F z s) {i1 : Int32} : Ok (fun r s' => s' = s ∧ (r = 0 ∨ r = 1)) (gX6_told q s i1) := by
  obtain ⟨l_0, l_1, l_2, l_3, l_4, l_5, l_6, l_8, l_9, l_10, l_12, l_16, l_40, l_100, l_160, l_200, l_256, l_640, l_2000, l_2048, l_m1⟩ := lits
  unfold gX6_told 
  refine ok_cp (oX6_sizeOf (by omega) (by first | assumption | exact Or.inl rfl | exact Or.inr rfl | exact wt_T57 | exact hc.2 | exact ⟨_, _, wt_BC (by assumption), by assumption, rfl⟩ | exact ⟨_, _, by assumption, by assumption, rfl⟩ | exact ⟨11, _, Or.inl rfl, by assumption, rfl⟩ | exact ⟨40, _, Or.inr (Or.inl rfl), by assumption, rfl⟩ | exact Or.inr (Or.inl rfl) | exact Or.inr (Or.inr rfl)) h) (fun v2 q1 => ?_)
  refine ok_if (fun _ => ?_) (fun _ => ?_)
  · exact ok_some ⟨rfl, (by first | assumption | exact Or.inl rfl | exact Or.inr rfl | exact hc.2 | omega | exact ⟨Or.inl rfl, Or.inl rfl⟩ | exact ⟨Or.inr rfl, Or.inr (by omega)⟩ | exact ⟨by assumption, by assumption⟩)⟩
  · exact ok_some ⟨rfl, (by first | assumption | exact Or.inl rfl | exact Or.inr rfl | exact hc.2 | omega | exact ⟨Or.inl rfl, Or.inl rfl⟩ | exact ⟨Or.inr rfl, Or.inr (by omega)⟩ | exact ⟨by assumption, by assumption⟩)⟩
theorem oX6_hasSlot {F : Nat} {z : wt_S} (hF : F ≤ 2000000000) {q : Nat} (hq : wt_Q q) {s : wt_S} (h : CI F z s) {i1 i2 : Int32} : Ok (fun r s' => s' = s ∧ (r = 0 ∨ r = 1)) (gX6_hasSlot q s i1 i2) := by
  obtain ⟨l_0, l_1, l_2, l_3, l_4, l_5, l_6, l_8, l_9, l_10, l_12, l_16, l_40, l_100, l_160, l_200, l_256, l_640, l_2000, l_2048, l_m1⟩ := lits
  unfold gX6_hasSlot 
  refine ok_if (fun _ => ?_) (fun _ => ?_)
  · exact ok_some ⟨rfl, (by first | assumption | exact Or.inl rfl | exact Or.inr rfl | exact hc.2 | omega | exact ⟨Or.inl rfl, Or.inl rfl⟩ | exact ⟨Or.inr rfl, Or.inr (by omega)⟩ | exact ⟨by assumption, by assumption⟩)⟩
  · refine ok_cp (oX6_sizeOf (by omega) (by first | assumption | exact Or.inl rfl | exact Or.inr rfl | exact wt_T57 | exact hc.2 | exact ⟨_, _, wt_BC (by assumption), by assumption, rfl⟩ | exact ⟨_, _, by assumption, by assumption, rfl⟩ | exact ⟨11, _, Or.inl rfl, by assumption, rfl⟩ | exact ⟨40, _, Or.inr (Or.inl rfl), by assumption, rfl⟩ | exact Or.inr (Or.inl rfl) | exact Or.inr (Or.inr rfl)) h) (fun v2 q1 => ?_)
    refine ok_if (fun _ => ?_) (fun _ => ?_)
    · exact ok_some ⟨rfl, (by first | assumption | exact Or.inl rfl | exact Or.inr rfl | exact hc.2 | omega | exact ⟨Or.inl rfl, Or.inl rfl⟩ | exact ⟨Or.inr rfl, Or.inr (by omega)⟩ | exact ⟨by assumption, by assumption⟩)⟩
    · exact ok_some ⟨rfl, (by first | assumption | exact Or.inl rfl | exact Or.inr rfl | exact hc.2 | omega | exact ⟨Or.inl rfl, Or.inl rfl⟩ | exact ⟨Or.inr rfl, Or.inr (by omega)⟩ | exact ⟨by assumption, by assumption⟩)⟩
theorem oX6_isPointer {F : Nat} {z : wt_S} (hF : F ≤ 2000000000) {q : Nat} (hq : wt_Q q) {s : wt_S} (h : CI F z s) {i1 i2 : Int32} : Ok (fun r s' => s' = s ∧ (r = 0 ∨ r = 1)) (gX6_isPointer q s i1 i2) := by
  obtain ⟨l_0, l_1, l_2, l_3, l_4, l_5, l_6, l_8, l_9, l_10, l_12, l_16, l_40, l_100, l_160, l_200, l_256, l_640, l_2000, l_2048, l_m1⟩ := lits
  unfold gX6_isPointer 
  refine ok_if (fun _ => ?_) (fun _ => ?_)
  · exact ok_some ⟨rfl, (by first | assumption | exact Or.inl rfl | exact Or.inr rfl | exact hc.2 | omega | exact ⟨Or.inl rfl, Or.inl rfl⟩ | exact ⟨Or.inr rfl, Or.inr (by omega)⟩ | exact ⟨by assumption, by assumption⟩)⟩
  · refine ok_if (fun _ => ?_) (fun _ => ?_)
    · exact ok_some ⟨rfl, (by first | assumption | exact Or.inl rfl | exact Or.inr rfl | exact hc.2 | omega | exact ⟨Or.inl rfl, Or.inl rfl⟩ | exact ⟨Or.inr rfl, Or.inr (by omega)⟩ | exact ⟨by assumption, by assumption⟩)⟩
    · refine ok_ix (by omega) (by omega) (fun k1 kl1 ke1 => ?_)
      have f1 := h.ln hq kl1
      refine ok_if (fun _ => ?_) (fun _ => ?_)
      · exact ok_some ⟨rfl, (by first | assumption | exact Or.inl rfl | exact Or.inr rfl | exact hc.2 | omega | exact ⟨Or.inl rfl, Or.inl rfl⟩ | exact ⟨Or.inr rfl, Or.inr (by omega)⟩ | exact ⟨by assumption, by assumption⟩)⟩
      · exact ok_some ⟨rfl, (by first | assumption | exact Or.inl rfl | exact Or.inr rfl | exact hc.2 | omega | exact ⟨Or.inl rfl, Or.inl rfl⟩ | exact ⟨Or.inr rfl, Or.inr (by omega)⟩ | exact ⟨by assumption, by assumption⟩)⟩
theorem oX6_hasNumber {F : Nat} {z : wt_S} (hF : F ≤ 2000000000) {q : Nat} (hq : wt_Q q) {s : wt_S} (h : CI F z s) {i1 i2 : Int32} : Ok (fun r s' => s' = s ∧ (r = 0 ∨ r = 1)) (gX6_hasNumber q s i1 i2) := by
  obtain ⟨l_0, l_1, l_2, l_3, l_4, l_5, l_6, l_8, l_9, l_10, l_12, l_16, l_40, l_100, l_160, l_200, l_256, l_640, l_2000, l_2048, l_m1⟩ := lits
  unfold gX6_hasNumber 
  refine ok_cp (oX6_hasSlot (by omega) (by first | assumption | exact Or.inl rfl | exact Or.inr rfl | exact wt_T57 | exact hc.2 | exact ⟨_, _, wt_BC (by assumption), by assumption, rfl⟩ | exact ⟨_, _, by assumption, by assumption, rfl⟩ | exact ⟨11, _, Or.inl rfl, by assumption, rfl⟩ | exact ⟨40, _, Or.inr (Or.inl rfl), by assumption, rfl⟩ | exact Or.inr (Or.inl rfl) | exact Or.inr (Or.inr rfl)) h) (fun v2 q1 => ?_)
  refine ok_if (fun _ => ?_) (fun _ => ?_)
  · exact ok_some ⟨rfl, (by first | assumption | exact Or.inl rfl | exact Or.inr rfl | exact hc.2 | omega | exact ⟨Or.inl rfl, Or.inl rfl⟩ | exact ⟨Or.inr rfl, Or.inr (by omega)⟩ | exact ⟨by assumption, by assumption⟩)⟩
  · refine ok_cp (oX6_isPointer (by omega) (by first | assumption | exact Or.inl rfl | exact Or.inr rfl | exact wt_T57 | exact hc.2 | exact ⟨_, _, wt_BC (by assumption), by assumption, rfl⟩ | exact ⟨_, _, by assumption, by assumption, rfl⟩ | exact ⟨11, _, Or.inl rfl, by assumption, rfl⟩ | exact ⟨40, _, Or.inr (Or.inl rfl), by assumption, rfl⟩ | exact Or.inr (Or.inl rfl) | exact Or.inr (Or.inr rfl)) h) (fun v4 q2 => ?_)
    refine ok_if (fun _ => ?_) (fun _ => ?_)
    · exact ok_some ⟨rfl, (by first | assumption | exact Or.inl rfl | exact Or.inr rfl | exact hc.2 | omega | exact ⟨Or.inl rfl, Or.inl rfl⟩ | exact ⟨Or.inr rfl, Or.inr (by omega)⟩ | exact ⟨by assumption, by assumption⟩)⟩
    · exact ok_some ⟨rfl, (by first | assumption | exact Or.inl rfl | exact Or.inr rfl | exact hc.2 | omega | exact ⟨Or.inl rfl, Or.inl rfl⟩ | exact ⟨Or.inr rfl, Or.inr (by omega)⟩ | exact ⟨by assumption, by assumption⟩)⟩
theorem oX6_hasPointer {F : Nat} {z : wt_S} (hF : F ≤ 2000000000) {q : Nat} (hq : wt_Q q) {s : wt_S} (h : CI F z s) {i1 i2 : Int32} : Ok (fun r s' => s' = s ∧ (r = 0 ∨ r = 1)) (gX6_hasPointer q s i1 i2) := by
  obtain ⟨l_0, l_1, l_2, l_3, l_4, l_5, l_6, l_8, l_9, l_10, l_12, l_16, l_40, l_100, l_160, l_200, l_256, l_640, l_2000, l_2048, l_m1⟩ := lits
  unfold gX6_hasPointer 
  refine ok_cp (oX6_hasSlot (by omega) (by first | assumption | exact Or.inl rfl | exact Or.inr rfl | exact wt_T57 | exact hc.2 | exact ⟨_, _, wt_BC (by assumption), by assumption, rfl⟩ | exact ⟨_, _, by assumption, by assumption, rfl⟩ | exact ⟨11, _, Or.inl rfl, by assumption, rfl⟩ | exact ⟨40, _, Or.inr (Or.inl rfl), by assumption, rfl⟩ | exact Or.inr (Or.inl rfl) | exact Or.inr (Or.inr rfl)) h) (fun v2 q1 => ?_)
  refine ok_if (fun _ => ?_) (fun _ => ?_)
  · exact ok_some ⟨rfl, (by first | assumption | exact Or.inl rfl | exact Or.inr rfl | exact hc.2 | omega | exact ⟨Or.inl rfl, Or.inl rfl⟩ | exact ⟨Or.inr rfl, Or.inr (by omega)⟩ | exact ⟨by assumption, by assumption⟩)⟩
  · refine ok_cp (oX6_isPointer (by omega) (by first | assumption | exact Or.inl rfl | exact Or.inr rfl | exact wt_T57 | exact hc.2 | exact ⟨_, _, wt_BC (by assumption), by assumption, rfl⟩ | exact ⟨_, _, by assumption, by assumption, rfl⟩ | exact ⟨11, _, Or.inl rfl, by assumption, rfl⟩ | exact ⟨40, _, Or.inr (Or.inl rfl), by assumption, rfl⟩ | exact Or.inr (Or.inl rfl) | exact Or.inr (Or.inr rfl)) h) (fun v4 q2 => ?_)
    refine ok_if (fun _ => ?_) (fun _ => ?_)
    · exact ok_some ⟨rfl, (by first | assumption | exact Or.inl rfl | exact Or.inr rfl | exact hc.2 | omega | exact ⟨Or.inl rfl, Or.inl rfl⟩ | exact ⟨Or.inr rfl, Or.inr (by omega)⟩ | exact ⟨by assumption, by assumption⟩)⟩
    · exact ok_some ⟨rfl, (by first | assumption | exact Or.inl rfl | exact Or.inr rfl | exact hc.2 | omega | exact ⟨Or.inl rfl, Or.inl rfl⟩ | exact ⟨Or.inr rfl, Or.inr (by omega)⟩ | exact ⟨by assumption, by assumption⟩)⟩
theorem oX6_allows {F : Nat} {z : wt_S} (hF : F ≤ 2000000000) {q : Nat} (hq : wt_Q q) {s : wt_S} (h : CI F z s) {i1 i2 i3 i4 i5 : Int32} : Ok (fun r s' => s' = s ∧ (r = 0 ∨ r = 1)) (gX6_allows q s i1 i2 i3 i4 i5) := by
  obtain ⟨l_0, l_1, l_2, l_3, l_4, l_5, l_6, l_8, l_9, l_10, l_12, l_16, l_40, l_100, l_160, l_200, l_256, l_640, l_2000, l_2048, l_m1⟩ := lits
  unfold gX6_allows gX6_allows_289
  refine ok_if (fun _ => ?_) (fun _ => ?_)
  · refine ok_if (fun _ => ?_) (fun _ => ?_)
    · exact ok_some ⟨rfl, (by first | assumption | exact Or.inl rfl | exact Or.inr rfl | exact hc.2 | omega | exact ⟨Or.inl rfl, Or.inl rfl⟩ | exact ⟨Or.inr rfl, Or.inr (by omega)⟩ | exact ⟨by assumption, by assumption⟩)⟩
    · exact ok_some ⟨rfl, (by first | assumption | exact Or.inl rfl | exact Or.inr rfl | exact hc.2 | omega | exact ⟨Or.inl rfl, Or.inl rfl⟩ | exact ⟨Or.inr rfl, Or.inr (by omega)⟩ | exact ⟨by assumption, by assumption⟩)⟩
  · refine ok_if (fun _ => ?_) (fun _ => ?_)
    · refine ok_cp (oX6_hasNumber (by omega) (by first | assumption | exact Or.inl rfl | exact Or.inr rfl | exact wt_T57 | exact hc.2 | exact ⟨_, _, wt_BC (by assumption), by assumption, rfl⟩ | exact ⟨_, _, by assumption, by assumption, rfl⟩ | exact ⟨11, _, Or.inl rfl, by assumption, rfl⟩ | exact ⟨40, _, Or.inr (Or.inl rfl), by assumption, rfl⟩ | exact Or.inr (Or.inl rfl) | exact Or.inr (Or.inr rfl)) h) (fun v2 q1 => ?_)
      refine ok_if (fun _ => ?_) (fun _ => ?_)
      · exact ok_some ⟨rfl, (by first | assumption | exact Or.inl rfl | exact Or.inr rfl | exact hc.2 | omega | exact ⟨Or.inl rfl, Or.inl rfl⟩ | exact ⟨Or.inr rfl, Or.inr (by omega)⟩ | exact ⟨by assumption, by assumption⟩)⟩
      · refine ok_if (fun _ => ?_) (fun _ => ?_)
        · exact ok_some ⟨rfl, (by first | assumption | exact Or.inl rfl | exact Or.inr rfl | exact hc.2 | omega | exact ⟨Or.inl rfl, Or.inl rfl⟩ | exact ⟨Or.inr rfl, Or.inr (by omega)⟩ | exact ⟨by assumption, by assumption⟩)⟩
        · refine ok_if (fun _ => ?_) (fun _ => ?_)
          · exact ok_some ⟨rfl, (by first | assumption | exact Or.inl rfl | exact Or.inr rfl | exact hc.2 | omega | exact ⟨Or.inl rfl, Or.inl rfl⟩ | exact ⟨Or.inr rfl, Or.inr (by omega)⟩ | exact ⟨by assumption, by assumption⟩)⟩
          · exact ok_some ⟨rfl, (by first | assumption | exact Or.inl rfl | exact Or.inr rfl | exact hc.2 | omega | exact ⟨Or.inl rfl, Or.inl rfl⟩ | exact ⟨Or.inr rfl, Or.inr (by omega)⟩ | exact ⟨by assumption, by assumption⟩)⟩
    · refine ok_if (fun _ => ?_) (fun _ => ?_)
      · refine ok_cp (oX6_hasNumber (by omega) (by first | assumption | exact Or.inl rfl | exact Or.inr rfl | exact wt_T57 | exact hc.2 | exact ⟨_, _, wt_BC (by assumption), by assumption, rfl⟩ | exact ⟨_, _, by assumption, by assumption, rfl⟩ | exact ⟨11, _, Or.inl rfl, by assumption, rfl⟩ | exact ⟨40, _, Or.inr (Or.inl rfl), by assumption, rfl⟩ | exact Or.inr (Or.inl rfl) | exact Or.inr (Or.inr rfl)) h) (fun v4 q2 => ?_)
        refine ok_if (fun _ => ?_) (fun _ => ?_)
        · exact ok_some ⟨rfl, (by first | assumption | exact Or.inl rfl | exact Or.inr rfl | exact hc.2 | omega | exact ⟨Or.inl rfl, Or.inl rfl⟩ | exact ⟨Or.inr rfl, Or.inr (by omega)⟩ | exact ⟨by assumption, by assumption⟩)⟩
        · refine ok_cp (oX6_hasNumber (by omega) (by first | assumption | exact Or.inl rfl | exact Or.inr rfl | exact wt_T57 | exact hc.2 | exact ⟨_, _, wt_BC (by assumption), by assumption, rfl⟩ | exact ⟨_, _, by assumption, by assumption, rfl⟩ | exact ⟨11, _, Or.inl rfl, by assumption, rfl⟩ | exact ⟨40, _, Or.inr (Or.inl rfl), by assumption, rfl⟩ | exact Or.inr (Or.inl rfl) | exact Or.inr (Or.inr rfl)) h) (fun v6 q3 => ?_)
          refine ok_if (fun _ => ?_) (fun _ => ?_)
          · exact ok_some ⟨rfl, (by first | assumption | exact Or.inl rfl | exact Or.inr rfl | exact hc.2 | omega | exact ⟨Or.inl rfl, Or.inl rfl⟩ | exact ⟨Or.inr rfl, Or.inr (by omega)⟩ | exact ⟨by assumption, by assumption⟩)⟩
          · refine ok_cp (oX6_hasNumber (by omega) (by first | assumption | exact Or.inl rfl | exact Or.inr rfl | exact wt_T57 | exact hc.2 | exact ⟨_, _, wt_BC (by assumption), by assumption, rfl⟩ | exact ⟨_, _, by assumption, by assumption, rfl⟩ | exact ⟨11, _, Or.inl rfl, by assumption, rfl⟩ | exact ⟨40, _, Or.inr (Or.inl rfl), by assumption, rfl⟩ | exact Or.inr (Or.inl rfl) | exact Or.inr (Or.inr rfl)) h) (fun v8 q4 => ?_)
            refine ok_if (fun _ => ?_) (fun _ => ?_)
            · exact ok_some ⟨rfl, (by first | assumption | exact Or.inl rfl | exact Or.inr rfl | exact hc.2 | omega | exact ⟨Or.inl rfl, Or.inl rfl⟩ | exact ⟨Or.inr rfl, Or.inr (by omega)⟩ | exact ⟨by assumption, by assumption⟩)⟩
            · exact ok_some ⟨rfl, (by first | assumption | exact Or.inl rfl | exact Or.inr rfl | exact hc.2 | omega | exact ⟨Or.inl rfl, Or.inl rfl⟩ | exact ⟨Or.inr rfl, Or.inr (by omega)⟩ | exact ⟨by assumption, by assumption⟩)⟩
      · refine ok_if (fun _ => ?_) (fun _ => ?_)
        · refine ok_cp (oX6_hasNumber (by omega) (by first | assumption | exact Or.inl rfl | exact Or.inr rfl | exact wt_T57 | exact hc.2 | exact ⟨_, _, wt_BC (by assumption), by assumption, rfl⟩ | exact ⟨_, _, by assumption, by assumption, rfl⟩ | exact ⟨11, _, Or.inl rfl, by assumption, rfl⟩ | exact ⟨40, _, Or.inr (Or.inl rfl), by assumption, rfl⟩ | exact Or.inr (Or.inl rfl) | exact Or.inr (Or.inr rfl)) h) (fun v10 q5 => ?_)
          refine ok_if (fun _ => ?_) (fun _ => ?_)
          · exact ok_some ⟨rfl, (by first | assumption | exact Or.inl rfl | exact Or.inr rfl | exact hc.2 | omega | exact ⟨Or.inl rfl, Or.inl rfl⟩ | exact ⟨Or.inr rfl, Or.inr (by omega)⟩ | exact ⟨by assumption, by assumption⟩)⟩
          · refine ok_cp (oX6_hasNumber (by omega) (by first | assumption | exact Or.inl rfl | exact Or.inr rfl | exact wt_T57 | exact hc.2 | exact ⟨_, _, wt_BC (by assumption), by assumption, rfl⟩ | exact ⟨_, _, by assumption, by assumption, rfl⟩ | exact ⟨11, _, Or.inl rfl, by assumption, rfl⟩ | exact ⟨40, _, Or.inr (Or.inl rfl), by assumption, rfl⟩ | exact Or.inr (Or.inl rfl) | exact Or.inr (Or.inr rfl)) h) (fun v12 q6 => ?_)
            refine ok_if (fun _ => ?_) (fun _ => ?_)
            · exact ok_some ⟨rfl, (by first | assumption | exact Or.inl rfl | exact Or.inr rfl | exact hc.2 | omega | exact ⟨Or.inl rfl, Or.inl rfl⟩ | exact ⟨Or.inr rfl, Or.inr (by omega)⟩ | exact ⟨by assumption, by assumption⟩)⟩
            · refine ok_cp (oX6_hasNumber (by omega) (by first | assumption | exact Or.inl rfl | exact Or.inr rfl | exact wt_T57 | exact hc.2 | exact ⟨_, _, wt_BC (by assumption), by assumption, rfl⟩ | exact ⟨_, _, by assumption, by assumption, rfl⟩ | exact ⟨11, _, Or.inl rfl, by assumption, rfl⟩ | exact ⟨40, _, Or.inr (Or.inl rfl), by assumption, rfl⟩ | exact Or.inr (Or.inl rfl) | exact Or.inr (Or.inr rfl)) h) (fun v14 q7 => ?_)
              refine ok_if (fun _ => ?_) (fun _ => ?_)
              · exact ok_some ⟨rfl, (by first | assumption | exact Or.inl rfl | exact Or.inr rfl | exact hc.2 | omega | exact ⟨Or.inl rfl, Or.inl rfl⟩ | exact ⟨Or.inr rfl, Or.inr (by omega)⟩ | exact ⟨by assumption, by assumption⟩)⟩
              · exact ok_some ⟨rfl, (by first | assumption | exact Or.inl rfl | exact Or.inr rfl | exact hc.2 | omega | exact ⟨Or.inl rfl, Or.inl rfl⟩ | exact ⟨Or.inr rfl, Or.inr (by omega)⟩ | exact ⟨by assumption, by assumption⟩)⟩
        · refine ok_if (fun _ => ?_) (fun _ => ?_)
          · refine ok_cp (oX6_hasPointer (by omega) (by first | assumption | exact Or.inl rfl | exact Or.inr rfl | exact wt_T57 | exact hc.2 | exact ⟨_, _, wt_BC (by assumption), by assumption, rfl⟩ | exact ⟨_, _, by assumption, by assumption, rfl⟩ | exact ⟨11, _, Or.inl rfl, by assumption, rfl⟩ | exact ⟨40, _, Or.inr (Or.inl rfl), by assumption, rfl⟩ | exact Or.inr (Or.inl rfl) | exact Or.inr (Or.inr rfl)) h) (fun v16 q8 => ?_)
            refine ok_if (fun _ => ?_) (fun _ => ?_)
            · exact ok_some ⟨rfl, (by first | assumption | exact Or.inl rfl | exact Or.inr rfl | exact hc.2 | omega | exact ⟨Or.inl rfl, Or.inl rfl⟩ | exact ⟨Or.inr rfl, Or.inr (by omega)⟩ | exact ⟨by assumption, by assumption⟩)⟩
            · refine ok_cp (oX6_hasNumber (by omega) (by first | assumption | exact Or.inl rfl | exact Or.inr rfl | exact wt_T57 | exact hc.2 | exact ⟨_, _, wt_BC (by assumption), by assumption, rfl⟩ | exact ⟨_, _, by assumption, by assumption, rfl⟩ | exact ⟨11, _, Or.inl rfl, by assumption, rfl⟩ | exact ⟨40, _, Or.inr (Or.inl rfl), by assumption, rfl⟩ | exact Or.inr (Or.inl rfl) | exact Or.inr (Or.inr rfl)) h) (fun v18 q9 => ?_)
              refine ok_if (fun _ => ?_) (fun _ => ?_)
              · exact ok_some ⟨rfl, (by first | assumption | exact Or.inl rfl | exact Or.inr rfl | exact hc.2 | omega | exact ⟨Or.inl rfl, Or.inl rfl⟩ | exact ⟨Or.inr rfl, Or.inr (by omega)⟩ | exact ⟨by assumption, by assumption⟩)⟩
              · exact ok_some ⟨rfl, (by first | assumption | exact Or.inl rfl | exact Or.inr rfl | exact hc.2 | omega | exact ⟨Or.inl rfl, Or.inl rfl⟩ | exact ⟨Or.inr rfl, Or.inr (by omega)⟩ | exact ⟨by assumption, by assumption⟩)⟩
          · refine ok_if (fun _ => ?_) (fun _ => ?_)
            · refine ok_cp (oX6_hasNumber (by omega) (by first | assumption | exact Or.inl rfl | exact Or.inr rfl | exact wt_T57 | exact hc.2 | exact ⟨_, _, wt_BC (by assumption), by assumption, rfl⟩ | exact ⟨_, _, by assumption, by assumption, rfl⟩ | exact ⟨11, _, Or.inl rfl, by assumption, rfl⟩ | exact ⟨40, _, Or.inr (Or.inl rfl), by assumption, rfl⟩ | exact Or.inr (Or.inl rfl) | exact Or.inr (Or.inr rfl)) h) (fun v20 q10 => ?_)
              refine ok_if (fun _ => ?_) (fun _ => ?_)
              · exact ok_some ⟨rfl, (by first | assumption | exact Or.inl rfl | exact Or.inr rfl | exact hc.2 | omega | exact ⟨Or.inl rfl, Or.inl rfl⟩ | exact ⟨Or.inr rfl, Or.inr (by omega)⟩ | exact ⟨by assumption, by assumption⟩)⟩
              · refine ok_cp (oX6_hasPointer (by omega) (by first | assumption | exact Or.inl rfl | exact Or.inr rfl | exact wt_T57 | exact hc.2 | exact ⟨_, _, wt_BC (by assumption), by assumption, rfl⟩ | exact ⟨_, _, by assumption, by assumption, rfl⟩ | exact ⟨11, _, Or.inl rfl, by assumption, rfl⟩ | exact ⟨40, _, Or.inr (Or.inl rfl), by assumption, rfl⟩ | exact Or.inr (Or.inl rfl) | exact Or.inr (Or.inr rfl)) h) (fun v22 q11 => ?_)
                refine ok_if (fun _ => ?_) (fun _ => ?_)
                · exact ok_some ⟨rfl, (by first | assumption | exact Or.inl rfl | exact Or.inr rfl | exact hc.2 | omega | exact ⟨Or.inl rfl, Or.inl rfl⟩ | exact ⟨Or.inr rfl, Or.inr (by omega)⟩ | exact ⟨by assumption, by assumption⟩)⟩
                · exact ok_some ⟨rfl, (by first | assumption | exact Or.inl rfl | exact Or.inr rfl | exact hc.2 | omega | exact ⟨Or.inl rfl, Or.inl rfl⟩ | exact ⟨Or.inr rfl, Or.inr (by omega)⟩ | exact ⟨by assumption, by assumption⟩)⟩
            · refine ok_if (fun _ => ?_) (fun _ => ?_)
              · refine ok_cp (oX6_hasPointer (by omega) (by first | assumption | exact Or.inl rfl | exact Or.inr rfl | exact wt_T57 | exact hc.2 | exact ⟨_, _, wt_BC (by assumption), by assumption, rfl⟩ | exact ⟨_, _, by assumption, by assumption, rfl⟩ | exact ⟨11, _, Or.inl rfl, by assumption, rfl⟩ | exact ⟨40, _, Or.inr (Or.inl rfl), by assumption, rfl⟩ | exact Or.inr (Or.inl rfl) | exact Or.inr (Or.inr rfl)) h) (fun v24 q12 => ?_)
                refine ok_if (fun _ => ?_) (fun _ => ?_)
                · exact ok_some ⟨rfl, (by first | assumption | exact Or.inl rfl | exact Or.inr rfl | exact hc.2 | omega | exact ⟨Or.inl rfl, Or.inl rfl⟩ | exact ⟨Or.inr rfl, Or.inr (by omega)⟩ | exact ⟨by assumption, by assumption⟩)⟩
                · refine ok_cp (oX6_hasNumber (by omega) (by first | assumption | exact Or.inl rfl | exact Or.inr rfl | exact wt_T57 | exact hc.2 | exact ⟨_, _, wt_BC (by assumption), by assumption, rfl⟩ | exact ⟨_, _, by assumption, by assumption, rfl⟩ | exact ⟨11, _, Or.inl rfl, by assumption, rfl⟩ | exact ⟨40, _, Or.inr (Or.inl rfl), by assumption, rfl⟩ | exact Or.inr (Or.inl rfl) | exact Or.inr (Or.inr rfl)) h) (fun v26 q13 => ?_)
                  refine ok_if (fun _ => ?_) (fun _ => ?_)
                  · exact ok_some ⟨rfl, (by first | assumption | exact Or.inl rfl | exact Or.inr rfl | exact hc.2 | omega | exact ⟨Or.inl rfl, Or.inl rfl⟩ | exact ⟨Or.inr rfl, Or.inr (by omega)⟩ | exact ⟨by assumption, by assumption⟩)⟩
                  · exact ok_some ⟨rfl, (by first | assumption | exact Or.inl rfl | exact Or.inr rfl | exact hc.2 | omega | exact ⟨Or.inl rfl, Or.inl rfl⟩ | exact ⟨Or.inr rfl, Or.inr (by omega)⟩ | exact ⟨by assumption, by assumption⟩)⟩
              · refine ok_if (fun _ => ?_) (fun _ => ?_)
                · refine ok_cp (oX10_isFunction (by omega)  h) (fun v28 ⟨q14, g14⟩ => ?_)
                  refine ok_if (fun _ => ?_) (fun z15 => ?_)
                  · exact ok_some ⟨rfl, (by first | assumption | exact Or.inl rfl | exact Or.inr rfl | exact hc.2 | omega | exact ⟨Or.inl rfl, Or.inl rfl⟩ | exact ⟨Or.inr rfl, Or.inr (by omega)⟩ | exact ⟨by assumption, by assumption⟩)⟩
                  · have gg15 := g14.resolve_left z15
                    refine ok_cp (oX6_hasSlot (by omega) (by first | assumption | exact Or.inl rfl | exact Or.inr rfl | exact wt_T57 | exact hc.2 | exact ⟨_, _, wt_BC (by assumption), by assumption, rfl⟩ | exact ⟨_, _, by assumption, by assumption, rfl⟩ | exact ⟨11, _, Or.inl rfl, by assumption, rfl⟩ | exact ⟨40, _, Or.inr (Or.inl rfl), by assumption, rfl⟩ | exact Or.inr (Or.inl rfl) | exact Or.inr (Or.inr rfl)) h) (fun v30 q16 => ?_)
                    refine ok_if (fun _ => ?_) (fun _ => ?_)
                    · exact ok_some ⟨rfl, (by first | assumption | exact Or.inl rfl | exact Or.inr rfl | exact hc.2 | omega | exact ⟨Or.inl rfl, Or.inl rfl⟩ | exact ⟨Or.inr rfl, Or.inr (by omega)⟩ | exact ⟨by assumption, by assumption⟩)⟩
                    · refine ok_cp (oX6_hasNumber (by omega) (by first | assumption | exact Or.inl rfl | exact Or.inr rfl | exact wt_T57 | exact hc.2 | exact ⟨_, _, wt_BC (by assumption), by assumption, rfl⟩ | exact ⟨_, _, by assumption, by assumption, rfl⟩ | exact ⟨11, _, Or.inl rfl, by assumption, rfl⟩ | exact ⟨40, _, Or.inr (Or.inl rfl), by assumption, rfl⟩ | exact Or.inr (Or.inl rfl) | exact Or.inr (Or.inr rfl)) h) (fun v32 q17 => ?_)
                      refine ok_if (fun _ => ?_) (fun _ => ?_)
                      · exact ok_some ⟨rfl, (by first | assumption | exact Or.inl rfl | exact Or.inr rfl | exact hc.2 | omega | exact ⟨Or.inl rfl, Or.inl rfl⟩ | exact ⟨Or.inr rfl, Or.inr (by omega)⟩ | exact ⟨by assumption, by assumption⟩)⟩
                      · exact ok_some ⟨rfl, (by first | assumption | exact Or.inl rfl | exact Or.inr rfl | exact hc.2 | omega | exact ⟨Or.inl rfl, Or.inl rfl⟩ | exact ⟨Or.inr rfl, Or.inr (by omega)⟩ | exact ⟨by assumption, by assumption⟩)⟩
                · refine ok_if (fun _ => ?_) (fun _ => ?_)
                  · refine ok_cp (oX6_hasNumber (by omega) (by first | assumption | exact Or.inl rfl | exact Or.inr rfl | exact wt_T57 | exact hc.2 | exact ⟨_, _, wt_BC (by assumption), by assumption, rfl⟩ | exact ⟨_, _, by assumption, by assumption, rfl⟩ | exact ⟨11, _, Or.inl rfl, by assumption, rfl⟩ | exact ⟨40, _, Or.inr (Or.inl rfl), by assumption, rfl⟩ | exact Or.inr (Or.inl rfl) | exact Or.inr (Or.inr rfl)) h) (fun v34 q18 => ?_)
                    refine ok_if (fun _ => ?_) (fun _ => ?_)
                    · exact ok_some ⟨rfl, (by first | assumption | exact Or.inl rfl | exact Or.inr rfl | exact hc.2 | omega | exact ⟨Or.inl rfl, Or.inl rfl⟩ | exact ⟨Or.inr rfl, Or.inr (by omega)⟩ | exact ⟨by assumption, by assumption⟩)⟩
                    · refine ok_if (fun _ => ?_) (fun _ => ?_)
                      · exact ok_some ⟨rfl, (by first | assumption | exact Or.inl rfl | exact Or.inr rfl | exact hc.2 | omega | exact ⟨Or.inl rfl, Or.inl rfl⟩ | exact ⟨Or.inr rfl, Or.inr (by omega)⟩ | exact ⟨by assumption, by assumption⟩)⟩
                      · refine ok_if (fun _ => ?_) (fun _ => ?_)
                        · exact ok_some ⟨rfl, (by first | assumption | exact Or.inl rfl | exact Or.inr rfl | exact hc.2 | omega | exact ⟨Or.inl rfl, Or.inl rfl⟩ | exact ⟨Or.inr rfl, Or.inr (by omega)⟩ | exact ⟨by assumption, by assumption⟩)⟩
                        · exact ok_some ⟨rfl, (by first | assumption | exact Or.inl rfl | exact Or.inr rfl | exact hc.2 | omega | exact ⟨Or.inl rfl, Or.inl rfl⟩ | exact ⟨Or.inr rfl, Or.inr (by omega)⟩ | exact ⟨by assumption, by assumption⟩)⟩
                  · refine ok_if (fun _ => ?_) (fun _ => ?_)
                    · refine ok_cp (oX6_hasNumber (by omega) (by first | assumption | exact Or.inl rfl | exact Or.inr rfl | exact wt_T57 | exact hc.2 | exact ⟨_, _, wt_BC (by assumption), by assumption, rfl⟩ | exact ⟨_, _, by assumption, by assumption, rfl⟩ | exact ⟨11, _, Or.inl rfl, by assumption, rfl⟩ | exact ⟨40, _, Or.inr (Or.inl rfl), by assumption, rfl⟩ | exact Or.inr (Or.inl rfl) | exact Or.inr (Or.inr rfl)) h) (fun v36 q19 => ?_)
                      refine ok_rz (by first | assumption | exact hc.2 | exact Or.inl rfl | exact Or.inr rfl) ?_
                      exact ok_some ⟨rfl, (by first | assumption | exact Or.inl rfl | exact Or.inr rfl | exact hc.2 | omega | exact ⟨Or.inl rfl, Or.inl rfl⟩ | exact ⟨Or.inr rfl, Or.inr (by omega)⟩ | exact ⟨by assumption, by assumption⟩)⟩
                    · refine ok_if (fun _ => ?_) (fun _ => ?_)
                      · refine ok_if (fun _ => ?_) (fun _ => ?_)
                        · exact ok_some ⟨rfl, (by first | assumption | exact Or.inl rfl | exact Or.inr rfl | exact hc.2 | omega | exact ⟨Or.inl rfl, Or.inl rfl⟩ | exact ⟨Or.inr rfl, Or.inr (by omega)⟩ | exact ⟨by assumption, by assumption⟩)⟩
                        · refine ok_if (fun _ => ?_) (fun _ => ?_)
                          · exact ok_some ⟨rfl, (by first | assumption | exact Or.inl rfl | exact Or.inr rfl | exact hc.2 | omega | exact ⟨Or.inl rfl, Or.inl rfl⟩ | exact ⟨Or.inr rfl, Or.inr (by omega)⟩ | exact ⟨by assumption, by assumption⟩)⟩
                          · refine ok_if (fun _ => ?_) (fun _ => ?_)
                            · refine ok_cp (oX6_hasNumber (by omega) (by first | assumption | exact Or.inl rfl | exact Or.inr rfl | exact wt_T57 | exact hc.2 | exact ⟨_, _, wt_BC (by assumption), by assumption, rfl⟩ | exact ⟨_, _, by assumption, by assumption, rfl⟩ | exact ⟨11, _, Or.inl rfl, by assumption, rfl⟩ | exact ⟨40, _, Or.inr (Or.inl rfl), by assumption, rfl⟩ | exact Or.inr (Or.inl rfl) | exact Or.inr (Or.inr rfl)) h) (fun v2 q20 => ?_)
                              refine ok_if (fun _ => ?_) (fun _ => ?_)
                              · exact ok_some ⟨rfl, (by first | assumption | exact Or.inl rfl | exact Or.inr rfl | exact hc.2 | omega | exact ⟨Or.inl rfl, Or.inl rfl⟩ | exact ⟨Or.inr rfl, Or.inr (by omega)⟩ | exact ⟨by assumption, by assumption⟩)⟩
                              · exact ok_some ⟨rfl, (by first | assumption | exact Or.inl rfl | exact Or.inr rfl | exact hc.2 | omega | exact ⟨Or.inl rfl, Or.inl rfl⟩ | exact ⟨Or.inr rfl, Or.inr (by omega)⟩ | exact ⟨by assumption, by assumption⟩)⟩
                            · refine ok_cp (oX10_isFunction (by omega)  h) (fun v38 ⟨q21, g21⟩ => ?_)
                              refine ok_if (fun _ => ?_) (fun z22 => ?_)
                              · exact ok_some ⟨rfl, (by first | assumption | exact Or.inl rfl | exact Or.inr rfl | exact hc.2 | omega | exact ⟨Or.inl rfl, Or.inl rfl⟩ | exact ⟨Or.inr rfl, Or.inr (by omega)⟩ | exact ⟨by assumption, by assumption⟩)⟩
                              · have gg22 := g21.resolve_left z22
                                refine ok_cp (oX6_hasNumber (by omega) (by first | assumption | exact Or.inl rfl | exact Or.inr rfl | exact wt_T57 | exact hc.2 | exact ⟨_, _, wt_BC (by assumption), by assumption, rfl⟩ | exact ⟨_, _, by assumption, by assumption, rfl⟩ | exact ⟨11, _, Or.inl rfl, by assumption, rfl⟩ | exact ⟨40, _, Or.inr (Or.inl rfl), by assumption, rfl⟩ | exact Or.inr (Or.inl rfl) | exact Or.inr (Or.inr rfl)) h) (fun v2 q23 => ?_)
                                refine ok_if (fun _ => ?_) (fun _ => ?_)
                                · exact ok_some ⟨rfl, (by first | assumption | exact Or.inl rfl | exact Or.inr rfl | exact hc.2 | omega | exact ⟨Or.inl rfl, Or.inl rfl⟩ | exact ⟨Or.inr rfl, Or.inr (by omega)⟩ | exact ⟨by assumption, by assumption⟩)⟩
                                · exact ok_some ⟨rfl, (by first | assumption | exact Or.inl rfl | exact Or.inr rfl | exact hc.2 | omega | exact ⟨Or.inl rfl, Or.inl rfl⟩ | exact ⟨Or.inr rfl, Or.inr (by omega)⟩ | exact ⟨by assumption, by assumption⟩)⟩
                      · exfalso
                        omega
theorem oX10_isTask {F : Nat} {z : wt_S} (hF : F ≤ 2000000000)  {s : wt_S} (h : CI F z s) {i1 : Int32} : Ok (fun r s' => s' = s ∧ ((r = 0 ∨ r = 1) ∧ (r = 0 ∨ (0 ≤ i1.toInt ∧ i1.toInt ≤ 5)))) (gX10_isTask s i1) := by
  obtain ⟨l_0, l_1, l_2, l_3, l_4, l_5, l_6, l_8, l_9, l_10, l_12, l_16, l_40, l_100, l_160, l_200, l_256, l_640, l_2000, l_2048, l_m1⟩ := lits
  unfold gX10_isTask 
  refine ok_if (fun _ => ?_) (fun _ => ?_)
  · exact ok_some ⟨rfl, (by first | assumption | exact Or.inl rfl | exact Or.inr rfl | exact hc.2 | omega | exact ⟨Or.inl rfl, Or.inl rfl⟩ | exact ⟨Or.inr rfl, Or.inr (by omega)⟩ | exact ⟨by assumption, by assumption⟩)⟩
  · refine ok_if (fun _ => ?_) (fun _ => ?_)
    · exact ok_some ⟨rfl, (by first | assumption | exact Or.inl rfl | exact Or.inr rfl | exact hc.2 | omega | exact ⟨Or.inl rfl, Or.inl rfl⟩ | exact ⟨Or.inr rfl, Or.inr (by omega)⟩ | exact ⟨by assumption, by assumption⟩)⟩
    · exact ok_some ⟨rfl, (by first | assumption | exact Or.inl rfl | exact Or.inr rfl | exact hc.2 | omega | exact ⟨Or.inl rfl, Or.inl rfl⟩ | exact ⟨Or.inr rfl, Or.inr (by omega)⟩ | exact ⟨by assumption, by assumption⟩)⟩
theorem oX7_on {F : Nat} {z : wt_S} (hF : F ≤ 2000000000) {t : Nat} (ht : wt_T t) {s : wt_S} (h : CI F z s) : Ok (fun r s' => s' = s ∧ (r = 0 ∨ r = 1)) (gX7_on t s) := by
  obtain ⟨l_0, l_1, l_2, l_3, l_4, l_5, l_6, l_8, l_9, l_10, l_12, l_16, l_40, l_100, l_160, l_200, l_256, l_640, l_2000, l_2048, l_m1⟩ := lits
  unfold gX7_on 
  refine ok_if (fun _ => ?_) (fun _ => ?_)
  · exact ok_some ⟨rfl, (by first | assumption | exact Or.inl rfl | exact Or.inr rfl | exact hc.2 | omega | exact ⟨Or.inl rfl, Or.inl rfl⟩ | exact ⟨Or.inr rfl, Or.inr (by omega)⟩ | exact ⟨by assumption, by assumption⟩)⟩
  · refine ok_if (fun _ => ?_) (fun _ => ?_)
    · exact ok_some ⟨rfl, (by first | assumption | exact Or.inl rfl | exact Or.inr rfl | exact hc.2 | omega | exact ⟨Or.inl rfl, Or.inl rfl⟩ | exact ⟨Or.inr rfl, Or.inr (by omega)⟩ | exact ⟨by assumption, by assumption⟩)⟩
    · exact ok_some ⟨rfl, (by first | assumption | exact Or.inl rfl | exact Or.inr rfl | exact hc.2 | omega | exact ⟨Or.inl rfl, Or.inl rfl⟩ | exact ⟨Or.inr rfl, Or.inr (by omega)⟩ | exact ⟨by assumption, by assumption⟩)⟩
theorem oX5_idAt {F : Nat} {z : wt_S} (hF : F ≤ 2000000000) {b : Nat} (hb : wt_B b) {s : wt_S} (h : CI F z s) {i1 : Int32} : Ok (fun r s' => s' = s ∧ (True)) (gX5_idAt b s i1) := by
  obtain ⟨l_0, l_1, l_2, l_3, l_4, l_5, l_6, l_8, l_9, l_10, l_12, l_16, l_40, l_100, l_160, l_200, l_256, l_640, l_2000, l_2048, l_m1⟩ := lits
  have hbC : wt_C b := wt_BC hb
  have n2 := h.nm hbC
  unfold gX5_idAt 
  refine ok_if (fun _ => ?_) (fun _ => ?_)
  · exact ok_some ⟨rfl, trivial⟩
  · refine ok_if (fun _ => ?_) (fun _ => ?_)
    · exact ok_some ⟨rfl, trivial⟩
    · refine ok_if (fun _ => ?_) (fun _ => ?_)
      · exact ok_some ⟨rfl, trivial⟩
      · refine ok_ix (by omega) (by omega) (fun k1 kl1 ke1 => ?_)
        exact ok_some ⟨rfl, trivial⟩
theorem oX5_endOf {F : Nat} {z : wt_S} (hF : F ≤ 2000000000) {b : Nat} (hb : wt_B b) {s : wt_S} (h : CI F z s) {i1 : Int32} : Ok (fun r s' => s' = s ∧ (True)) (gX5_endOf b s i1) := by
  obtain ⟨l_0, l_1, l_2, l_3, l_4, l_5, l_6, l_8, l_9, l_10, l_12, l_16, l_40, l_100, l_160, l_200, l_256, l_640, l_2000, l_2048, l_m1⟩ := lits
  have hbC : wt_C b := wt_BC hb
  have n3 := h.nm hbC
  unfold gX5_endOf 
  refine ok_if (fun _ => ?_) (fun _ => ?_)
  · exact ok_some ⟨rfl, trivial⟩
  · refine ok_if (fun _ => ?_) (fun _ => ?_)
    · exact ok_some ⟨rfl, trivial⟩
    · refine ok_ix (by omega) (by omega) (fun k1 kl1 ke1 => ?_)
      refine ok_ix (by omega) (by omega) (fun k2 kl2 ke2 => ?_)
      exact ok_some ⟨rfl, trivial⟩
theorem oX5_gapFrom {F : Nat} {z : wt_S} (hF : F ≤ 2000000000) {b : Nat} (hb : wt_B b) {s : wt_S} (h : CI F z s) {i1 : Int32} : Ok (fun r s' => s' = s ∧ (True)) (gX5_gapFrom b s i1) := by
  obtain ⟨l_0, l_1, l_2, l_3, l_4, l_5, l_6, l_8, l_9, l_10, l_12, l_16, l_40, l_100, l_160, l_200, l_256, l_640, l_2000, l_2048, l_m1⟩ := lits
  have hbC : wt_C b := wt_BC hb
  have n3 := h.nm hbC
  unfold gX5_gapFrom 
  refine ok_cp (oX5_idAt (by omega) (by first | assumption | exact Or.inl rfl | exact Or.inr rfl | exact wt_T57 | exact hc.2 | exact ⟨_, _, wt_BC (by assumption), by assumption, rfl⟩ | exact ⟨_, _, by assumption, by assumption, rfl⟩ | exact ⟨11, _, Or.inl rfl, by assumption, rfl⟩ | exact ⟨40, _, Or.inr (Or.inl rfl), by assumption, rfl⟩ | exact Or.inr (Or.inl rfl) | exact Or.inr (Or.inr rfl)) h) (fun v2 q1 => ?_)
  refine ok_cp (oX5_endOf (by omega) (by first | assumption | exact Or.inl rfl | exact Or.inr rfl | exact wt_T57 | exact hc.2 | exact ⟨_, _, wt_BC (by assumption), by assumption, rfl⟩ | exact ⟨_, _, by assumption, by assumption, rfl⟩ | exact ⟨11, _, Or.inl rfl, by assumption, rfl⟩ | exact ⟨40, _, Or.inr (Or.inl rfl), by assumption, rfl⟩ | exact Or.inr (Or.inl rfl) | exact Or.inr (Or.inr rfl)) h) (fun v4 q2 => ?_)
  exact ok_some ⟨rfl, trivial⟩
theorem oX5_placeOf {F : Nat} {z : wt_S} (hF : F ≤ 2000000000) {b : Nat} (hb : wt_B b) {s : wt_S} (h : CI F z s) {i1 : Int32} : Ok (fun r s' => s' = s ∧ (True)) (gX5_placeOf b s i1) := by
  obtain ⟨l_0, l_1, l_2, l_3, l_4, l_5, l_6, l_8, l_9, l_10, l_12, l_16, l_40, l_100, l_160, l_200, l_256, l_640, l_2000, l_2048, l_m1⟩ := lits
  have hbC : wt_C b := wt_BC hb
  have n2 := h.nm hbC
  unfold gX5_placeOf 
  refine ok_if (fun _ => ?_) (fun _ => ?_)
  · exact ok_some ⟨rfl, trivial⟩
  · refine ok_if (fun _ => ?_) (fun _ => ?_)
    · exact ok_some ⟨rfl, trivial⟩
    · refine ok_ix (by omega) (by omega) (fun k1 kl1 ke1 => ?_)
      exact ok_some ⟨rfl, trivial⟩
theorem oX5_gapTo {F : Nat} {z : wt_S} (hF : F ≤ 2000000000) {b : Nat} (hb : wt_B b) {s : wt_S} (h : CI F z s) {i1 : Int32} : Ok (fun r s' => s' = s ∧ (True)) (gX5_gapTo b s i1) := by
  obtain ⟨l_0, l_1, l_2, l_3, l_4, l_5, l_6, l_8, l_9, l_10, l_12, l_16, l_40, l_100, l_160, l_200, l_256, l_640, l_2000, l_2048, l_m1⟩ := lits
  have hbC : wt_C b := wt_BC hb
  have n3 := h.nm hbC
  unfold gX5_gapTo 
  refine ok_if (fun _ => ?_) (fun _ => ?_)
  · exact ok_some ⟨rfl, trivial⟩
  · refine ok_cp (oX5_idAt (by omega) (by first | assumption | exact Or.inl rfl | exact Or.inr rfl | exact wt_T57 | exact hc.2 | exact ⟨_, _, wt_BC (by assumption), by assumption, rfl⟩ | exact ⟨_, _, by assumption, by assumption, rfl⟩ | exact ⟨11, _, Or.inl rfl, by assumption, rfl⟩ | exact ⟨40, _, Or.inr (Or.inl rfl), by assumption, rfl⟩ | exact Or.inr (Or.inl rfl) | exact Or.inr (Or.inr rfl)) h) (fun v2 q1 => ?_)
    refine ok_cp (oX5_placeOf (by omega) (by first | assumption | exact Or.inl rfl | exact Or.inr rfl | exact wt_T57 | exact hc.2 | exact ⟨_, _, wt_BC (by assumption), by assumption, rfl⟩ | exact ⟨_, _, by assumption, by assumption, rfl⟩ | exact ⟨11, _, Or.inl rfl, by assumption, rfl⟩ | exact ⟨40, _, Or.inr (Or.inl rfl), by assumption, rfl⟩ | exact Or.inr (Or.inl rfl) | exact Or.inr (Or.inr rfl)) h) (fun v4 q2 => ?_)
    exact ok_some ⟨rfl, trivial⟩
end
