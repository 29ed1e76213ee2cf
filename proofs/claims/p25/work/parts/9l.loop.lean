/-! ===== the law's loop: it answers 1 (written by wip/p25/gen/g9l.py) ===== -/
theorem CI.re {F : Nat} {z s s' : wt_S} (h : CI F z s) (he : ∀ c, c < 110 → s' c = s c) : CI F s' s' := by
  obtain ⟨h1, h2, h3, h4, h5, h6, h7⟩ := h
  refine ⟨fun c hc => ?_, fun q hq f hf => ?_, ?_, ?_, ?_, ?_, fun c hc => rfl⟩
  · obtain ⟨a1, a2, a3⟩ := h1 c hc
    have hc' : c = 11 ∨ c = 40 ∨ c = 81 := hc
    exact ⟨by rw [he _ (by omega)]; exact a1, by rw [he _ (by omega)]; exact a2, fun k hk => by rw [he _ (by omega)]; exact a3 k hk⟩
  · have hq' : q = 5 ∨ q = 76 := hq
    rw [he _ (by omega), he _ (by omega)]; exact h2 q hq f hf
  · rw [he _ (by omega)]; exact h3
  · rw [he _ (by omega)]; exact h4
  · rw [he _ (by omega)]; exact h5
  · rw [he _ (by omega)]; exact h6
/-- what holds at the law's loop -/
def LI (F B : Nat) (s : wt_S) : Prop := CI F s s ∧ s 4 6 = s 110 4 ∧ ∃ V Vk, RQ B s V Vk
theorem LI.mono {F F' B B' : Nat} {s : wt_S} (h : LI F B s) (hF : F ≤ F') (hB : B ≤ B') : LI F' B' s := by
  obtain ⟨h1, h2, V, Vk, h3⟩ := h
  exact ⟨h1.mono hF, h2, V, Vk, h3.mk2 h3.1 (h3.2.1.mono hB) hB (RH.of RF.refl)⟩
section
variable {α : Type} {P : Int32 → wt_S → Prop} {F F' B B' : Nat} {s : wt_S} {x : Option (α × wt_S)} {G : α → wt_S → Option (Int32 × wt_S)}
theorem law_c (h : LI F B s) (hx : Ok (fun _ s' => CI F' s s') x) (hG : ∀ r s', LI F' B s' → Ok P (G r s')) : Ok P (wt_cl x G) := by
  refine ok_cl hx (fun r s' h' => hG r s' ?_)
  obtain ⟨h1, h2, V, Vk, h3, h4, h5⟩ := h
  have e : ∀ c, (c = 0 ∨ 110 ≤ c) ∨ c = 4 → s' c = s c := h'.2.2.2.2.2.2
  refine ⟨h'.re (fun _ _ => rfl), by rw [e 4 (Or.inr rfl), e 110 (by omega)]; exact h2, V, Vk, ⟨by rw [e 110 (by omega)]; exact h3.1, by rw [e 111 (by omega)]; exact h3.2⟩, h4, ?_⟩
  rw [e 110 (by omega), e 113 (by omega)]
  exact h5
theorem law_q (h : LI F B s) (hB : B ≤ B') (hx : ∀ V, RS s V → VI 2048 B V → Ok (fun _ s' => ∃ V', RS s' V' ∧ VI 2048 B' V' ∧ RH s s') x) (hG : ∀ r s', LI F B' s' → Ok P (G r s')) : Ok P (wt_cl x G) := by
  obtain ⟨h1, h2, V, Vk, h3⟩ := h
  refine ok_cl (hx V h3.1 h3.2.1) (fun r s' ⟨V', g1, g2, g3⟩ => hG r s' ?_)
  exact ⟨h1.re g3.1, by rw [g3.1 4 (by omega), g3.2.2]; exact h2, V', Vk, h3.mk2 g1 g2 hB g3⟩
theorem rq4 {v : α} {V' : vV} (h : ∃ s', x = some (v, s') ∧ RS s' V' ∧ RF s s' ∧ VI 2048 B' V') : Ok (fun _ s' => ∃ V', RS s' V' ∧ VI 2048 B' V' ∧ RH s s') x := by
  obtain ⟨s', e, h1, h2, h3⟩ := h
  exact ⟨v, s', e, V', h1, h3, RH.of h2⟩
theorem rq3 {v : α} {V' : vV} (h : ∃ s', x = some (v, s') ∧ RS s' V' ∧ RF s s') (hV : VI 2048 B' V') : Ok (fun _ s' => ∃ V', RS s' V' ∧ VI 2048 B' V' ∧ RH s s') x := by
  obtain ⟨s', e, h1, h2⟩ := h
  exact ⟨v, s', e, V', h1, hV, RH.of h2⟩
theorem rqo {V : vV} (h : RS s V) (hV : VI 2048 B V) (hx : Ok (fun _ s' => RO s s') x) : Ok (fun _ s' => ∃ V', RS s' V' ∧ VI 2048 B V' ∧ RH s s') x := by
  obtain ⟨v, s', e, h1⟩ := hx
  exact ⟨v, s', e, V, ⟨by rw [h1.1.2.2.2.2]; exact h.1, by rw [h1.2]; exact h.2⟩, hV, RH.of h1.1⟩
theorem rqf {V : vV} (hV : VI 2048 B V) (hx : Ok (fun _ s' => RS s' V ∧ RF s s') x) : Ok (fun _ s' => ∃ V', RS s' V' ∧ VI 2048 B V' ∧ RH s s') x := by
  obtain ⟨v, s', e, h1, h2⟩ := hx
  exact ⟨v, s', e, V, h1, hV, RH.of h2⟩
theorem rqh {V : vV} (hV : VI 2048 B V) (hx : Ok (fun _ s' => RS s' V ∧ RH s s') x) : Ok (fun _ s' => ∃ V', RS s' V' ∧ VI 2048 B V' ∧ RH s s') x := by
  obtain ⟨v, s', e, h1, h2⟩ := hx
  exact ⟨v, s', e, V, h1, hV, h2⟩
theorem rqg {V : vV} (h : RS s V) (hV : VI 2048 B V) (hx : ∃ v, x = some (v, s)) : Ok (fun _ s' => ∃ V', RS s' V' ∧ VI 2048 B V' ∧ RH s s') x := by
  obtain ⟨v, e⟩ := hx
  exact ⟨v, s, e, V, h, hV, RH.of RF.refl⟩
end
theorem i_addn {x : Int32} (h : 0 ≤ x.toInt ∧ x.toInt ≤ 3072) (j : Nat) (hj : j ≤ 6) : (x + nI j).toInt = x.toInt + j := by
  obtain ⟨a, a1, rfl, a3, a4⟩ := i_nat (x := x) h.1
  rw [nI_add, nI_int (by omega)]
  omega

theorem law_image {L : Nat} {F B : Nat} {s : wt_S} {l3 v : Int32} {K : wt_S → Int32 → Option (Int32 × wt_S)} (h : LI F B s) (hl : 0 ≤ (l3 + 1).toInt ∧ (l3 + 1).toInt < L) (hv : ∀ k, k < L → (l3 + 1).toInt = k → v = if s 0 k = 0 then 0 else 1) (hK : ∀ s', LI F B s' → Ok (fun r _ => r = 1) (K s' (l3 + 6))) : Ok (fun r _ => r = 1) (gL_law_961 L K s l3 v) := by
  unfold gL_law_961 gL_law_978
  obtain ⟨h1, h2, V, Vk, h3⟩ := h
  have hz : s 4 6 = 0 ∨ s 4 6 = 1 := by
    rw [h2]
    rcases h3.2.2 with e | e
    · exact Or.inl e
    · exact Or.inr e.1
  refine ok_cl (oX10_image h1 hz) (fun r s1 ⟨g1, g2⟩ => ?_)
  have e : ∀ c, c = 0 ∨ 110 ≤ c → s1 c = s c := fun c hc => by
    rw [g1.2.2.2.2.2.2 c (Or.inl hc)]
    split
    · rfl
    · exact wt_u_ne (by omega)
  have e4 : s1 4 6 = if v = 0 then s 4 6 else 1 := by
    rw [g1.2.2.2.2.2.2 4 (Or.inr rfl)]
    by_cases c : v = 0
    · rw [if_pos c, if_pos c]
    · rw [if_neg c, if_neg c]; exact wt_u_self
  have q : RQ B s1 V Vk := ⟨⟨by rw [e 110 (by omega)]; exact h3.1.1, by rw [e 111 (by omega)]; exact h3.1.2⟩, h3.2.1, by rw [e 110 (by omega), e 113 (by omega)]; exact h3.2.2⟩
  refine ok_ix hl.1 hl.2 (fun k kl ke => ?_)
  have ev := hv k kl ke
  have main : ∀ x : Int32, x = v → Ok (fun r _ => r = 1) (wt_cl (gX11_image s1 x) fun v2 s2 => if r = v2 then K s2 (l3 + 6) else some (0, s2)) := fun x hx => by
    obtain ⟨s2, V', Vk', p1, p2, p3, p4⟩ := k_image (x := x) q
    have er : r = (if x ≠ 0 then 1 else s1 110 4) := by
      rw [g2, e4, hx, e 110 (by omega), ← h2]
      by_cases c : v = 0
      · rw [if_pos c, if_neg (by simpa using c)]
      · rw [if_neg c, if_pos c]
    rw [p1, cl_some, if_pos er]
    exact hK s2 ⟨g1.re p4, by rw [p4 4 (by omega), p3, ← er, g2], V', Vk', p2⟩
  rw [e 0 (Or.inl rfl)]
  exact ok_if (fun c => main 0 (by rw [ev, if_pos c])) (fun c => main 1 (by rw [ev, if_neg c]))

theorem law_o_set {L F B : Nat} {s : wt_S} {l3 : Int32} {P : Int32 → wt_S → Prop} {K : wt_S → Option (Int32 × wt_S)} (hL : L ≤ 3072) (hl : 0 ≤ l3.toInt ∧ l3.toInt + 6 ≤ L) (hF1 : F + 2401800 ≤ 1999990000) (hB1 : B + 2400 ≤ 2147200000) (h : LI F B s) (go : ∀ s', LI (F + 2401800) (B + 2400) s' → Ok P (K s')) : Ok P (wt_ix (l3 + 1) L fun k1 => (wt_ix (l3 + 2) L fun k2 => (wt_cl (gX10_set s (s 0 k1) (s 0 k2)) fun _ s1 => (wt_ix (l3 + 1) L fun m1 => (wt_ix (l3 + 2) L fun m2 => (wt_cl (gX11_set s1 (s1 0 m1) (s1 0 m2)) fun _ s2 => K s2)))))) := by
  have x1 : (l3 + 1).toInt = l3.toInt + 1 := i_addn (x := l3) (by omega) 1 (by omega)
  have x2 : (l3 + 2).toInt = l3.toInt + 2 := i_addn (x := l3) (by omega) 2 (by omega)
  refine ok_ix (by omega) (by omega) (fun j1 _ _ => ?_)
  refine ok_ix (by omega) (by omega) (fun j2 _ _ => ?_)
  refine law_c h (ok_im (oX10_set (by omega) h.1) (fun _ _ e => e.1)) (fun _ s1 h1 => ?_)
  refine ok_ix (by omega) (by omega) (fun q1 _ _ => ?_)
  refine ok_ix (by omega) (by omega) (fun q2 _ _ => ?_)
  exact law_q (B' := B + 0) h1 (Nat.le_add_right _ _) (fun V a b => rq4 (q_set a b)) (fun _ s2 h2 => go s2 (h2.mono (by first | exact Nat.le_refl _ | exact Nat.le_add_right _ _ | exact Nat.add_le_add_left (by decide) _) (Nat.add_le_add_left (by decide) _)))
theorem law_o_function {L F B : Nat} {s : wt_S} {l3 : Int32} {P : Int32 → wt_S → Prop} {K : wt_S → Option (Int32 × wt_S)} (hL : L ≤ 3072) (hl : 0 ≤ l3.toInt ∧ l3.toInt + 6 ≤ L) (hF1 : F + 2401800 ≤ 1999990000) (hB1 : B + 2400 ≤ 2147200000) (h : LI F B s) (go : ∀ s', LI (F + 2401800) (B + 2400) s' → Ok P (K s')) : Ok P (wt_ix (l3 + 1) L fun k1 => (wt_ix (l3 + 2) L fun k2 => (wt_ix (l3 + 3) L fun k3 => (wt_cl (gX10_function s (s 0 k1) (s 0 k2) (s 0 k3)) fun _ s1 => (wt_ix (l3 + 1) L fun m1 => (wt_ix (l3 + 2) L fun m2 => (wt_ix (l3 + 3) L fun m3 => (wt_cl (gX11_function s1 (s1 0 m1) (s1 0 m2) (s1 0 m3)) fun _ s2 => K s2)))))))) := by
  have x1 : (l3 + 1).toInt = l3.toInt + 1 := i_addn (x := l3) (by omega) 1 (by omega)
  have x2 : (l3 + 2).toInt = l3.toInt + 2 := i_addn (x := l3) (by omega) 2 (by omega)
  have x3 : (l3 + 3).toInt = l3.toInt + 3 := i_addn (x := l3) (by omega) 3 (by omega)
  refine ok_ix (by omega) (by omega) (fun j1 _ _ => ?_)
  refine ok_ix (by omega) (by omega) (fun j2 _ _ => ?_)
  refine ok_ix (by omega) (by omega) (fun j3 _ _ => ?_)
  refine law_c h (ok_im (oX10_function (by omega) h.1) (fun _ _ e => e.1)) (fun _ s1 h1 => ?_)
  refine ok_ix (by omega) (by omega) (fun q1 _ _ => ?_)
  refine ok_ix (by omega) (by omega) (fun q2 _ _ => ?_)
  refine ok_ix (by omega) (by omega) (fun q3 _ _ => ?_)
  exact law_q (B' := B + 0) h1 (Nat.le_add_right _ _) (fun V a b => rq4 (q_function a b)) (fun _ s2 h2 => go s2 (h2.mono (by first | exact Nat.le_refl _ | exact Nat.le_add_right _ _ | exact Nat.add_le_add_left (by decide) _) (Nat.add_le_add_left (by decide) _)))
theorem law_o_line {L F B : Nat} {s : wt_S} {l3 : Int32} {P : Int32 → wt_S → Prop} {K : wt_S → Option (Int32 × wt_S)} (hL : L ≤ 3072) (hl : 0 ≤ l3.toInt ∧ l3.toInt + 6 ≤ L) (hF1 : F + 2401800 ≤ 1999990000) (hB1 : B + 2400 ≤ 2147200000) (h : LI F B s) (go : ∀ s', LI (F + 2401800) (B + 2400) s' → Ok P (K s')) : Ok P (wt_ix (l3 + 1) L fun k1 => (wt_ix (l3 + 2) L fun k2 => (wt_ix (l3 + 3) L fun k3 => (wt_ix (l3 + 4) L fun k4 => (wt_ix (l3 + 5) L fun k5 => (wt_cl (gX10_line s (s 0 k1) (s 0 k2) (s 0 k3) (s 0 k4) (s 0 k5)) fun _ s1 => (wt_ix (l3 + 1) L fun m1 => (wt_ix (l3 + 2) L fun m2 => (wt_ix (l3 + 3) L fun m3 => (wt_ix (l3 + 4) L fun m4 => (wt_ix (l3 + 5) L fun m5 => (wt_cl (gX11_line s1 (s1 0 m1) (s1 0 m2) (s1 0 m3) (s1 0 m4) (s1 0 m5)) fun _ s2 => K s2)))))))))))) := by
  have x1 : (l3 + 1).toInt = l3.toInt + 1 := i_addn (x := l3) (by omega) 1 (by omega)
  have x2 : (l3 + 2).toInt = l3.toInt + 2 := i_addn (x := l3) (by omega) 2 (by omega)
  have x3 : (l3 + 3).toInt = l3.toInt + 3 := i_addn (x := l3) (by omega) 3 (by omega)
  have x4 : (l3 + 4).toInt = l3.toInt + 4 := i_addn (x := l3) (by omega) 4 (by omega)
  have x5 : (l3 + 5).toInt = l3.toInt + 5 := i_addn (x := l3) (by omega) 5 (by omega)
  refine ok_ix (by omega) (by omega) (fun j1 _ _ => ?_)
  refine ok_ix (by omega) (by omega) (fun j2 _ _ => ?_)
  refine ok_ix (by omega) (by omega) (fun j3 _ _ => ?_)
  refine ok_ix (by omega) (by omega) (fun j4 _ _ => ?_)
  refine ok_ix (by omega) (by omega) (fun j5 _ _ => ?_)
  refine law_c h (oX10_line (by omega) h.1) (fun _ s1 h1 => ?_)
  refine ok_ix (by omega) (by omega) (fun q1 _ _ => ?_)
  refine ok_ix (by omega) (by omega) (fun q2 _ _ => ?_)
  refine ok_ix (by omega) (by omega) (fun q3 _ _ => ?_)
  refine ok_ix (by omega) (by omega) (fun q4 _ _ => ?_)
  refine ok_ix (by omega) (by omega) (fun q5 _ _ => ?_)
  exact law_q (B' := B + 0) h1 (Nat.le_add_right _ _) (fun V a b => rq4 (q_line a b)) (fun _ s2 h2 => go s2 (h2.mono (by first | exact Nat.le_refl _ | exact Nat.le_add_right _ _ | exact Nat.add_le_add_left (by decide) _) (Nat.add_le_add_left (by decide) _)))
theorem law_o_start {L F B : Nat} {s : wt_S} {l3 : Int32} {P : Int32 → wt_S → Prop} {K : wt_S → Option (Int32 × wt_S)} (hL : L ≤ 3072) (hl : 0 ≤ l3.toInt ∧ l3.toInt + 6 ≤ L) (hF1 : F + 2401800 ≤ 1999990000) (hB1 : B + 2400 ≤ 2147200000) (h : LI F B s) (go : ∀ s', LI (F + 2401800) (B + 2400) s' → Ok P (K s')) : Ok P (wt_ix (l3 + 1) L fun k1 => (wt_ix (l3 + 2) L fun k2 => (wt_ix (l3 + 3) L fun k3 => (wt_ix (l3 + 4) L fun k4 => (wt_cl (gX10_start s (s 0 k1) (s 0 k2) (s 0 k3) (s 0 k4)) fun _ s1 => (wt_ix (l3 + 1) L fun m1 => (wt_ix (l3 + 2) L fun m2 => (wt_ix (l3 + 3) L fun m3 => (wt_ix (l3 + 4) L fun m4 => (wt_cl (gX11_start s1 (s1 0 m1) (s1 0 m2) (s1 0 m3) (s1 0 m4)) fun _ s2 => K s2)))))))))) := by
  have x1 : (l3 + 1).toInt = l3.toInt + 1 := i_addn (x := l3) (by omega) 1 (by omega)
  have x2 : (l3 + 2).toInt = l3.toInt + 2 := i_addn (x := l3) (by omega) 2 (by omega)
  have x3 : (l3 + 3).toInt = l3.toInt + 3 := i_addn (x := l3) (by omega) 3 (by omega)
  have x4 : (l3 + 4).toInt = l3.toInt + 4 := i_addn (x := l3) (by omega) 4 (by omega)
  refine ok_ix (by omega) (by omega) (fun j1 _ _ => ?_)
  refine ok_ix (by omega) (by omega) (fun j2 _ _ => ?_)
  refine ok_ix (by omega) (by omega) (fun j3 _ _ => ?_)
  refine ok_ix (by omega) (by omega) (fun j4 _ _ => ?_)
  refine law_c h (ok_im (oX10_start (by omega) h.1) (fun _ _ e => e.1)) (fun _ s1 h1 => ?_)
  refine ok_ix (by omega) (by omega) (fun q1 _ _ => ?_)
  refine ok_ix (by omega) (by omega) (fun q2 _ _ => ?_)
  refine ok_ix (by omega) (by omega) (fun q3 _ _ => ?_)
  refine ok_ix (by omega) (by omega) (fun q4 _ _ => ?_)
  exact law_q (B' := B + 3) h1 (Nat.le_add_right _ _) (fun V a b => rq4 (q_start a b (by omega))) (fun _ s2 h2 => go s2 (h2.mono (by first | exact Nat.le_refl _ | exact Nat.le_add_right _ _ | exact Nat.add_le_add_left (by decide) _) (Nat.add_le_add_left (by decide) _)))
theorem law_o_step {L F B : Nat} {s : wt_S} {l3 : Int32} {P : Int32 → wt_S → Prop} {K : wt_S → Option (Int32 × wt_S)} (hL : L ≤ 3072) (hl : 0 ≤ l3.toInt ∧ l3.toInt + 6 ≤ L) (hF1 : F + 2401800 ≤ 1999990000) (hB1 : B + 2400 ≤ 2147200000) (h : LI F B s) (go : ∀ s', LI (F + 2401800) (B + 2400) s' → Ok P (K s')) : Ok P (wt_ix (l3 + 1) L fun k1 => (wt_ix (l3 + 2) L fun k2 => (wt_cl (gX10_step s (s 0 k1) (s 0 k2)) fun _ s1 => (wt_ix (l3 + 1) L fun m1 => (wt_ix (l3 + 2) L fun m2 => (wt_cl (gX11_step s1 (s1 0 m1) (s1 0 m2)) fun _ s2 => K s2)))))) := by
  have x1 : (l3 + 1).toInt = l3.toInt + 1 := i_addn (x := l3) (by omega) 1 (by omega)
  have x2 : (l3 + 2).toInt = l3.toInt + 2 := i_addn (x := l3) (by omega) 2 (by omega)
  refine ok_ix (by omega) (by omega) (fun j1 _ _ => ?_)
  refine ok_ix (by omega) (by omega) (fun j2 _ _ => ?_)
  refine law_c h (oX10_step (Nat.le_trans (Nat.add_le_add_left (by decide) F) hF1) h.1) (fun _ s1 h1 => ?_)
  refine ok_ix (by omega) (by omega) (fun q1 _ _ => ?_)
  refine ok_ix (by omega) (by omega) (fun q2 _ _ => ?_)
  exact law_q (B' := B + 800) h1 (Nat.le_add_right _ _) (fun V a b => rq4 (q_step hd_all a b (by omega))) (fun _ s2 h2 => go s2 (h2.mono (by first | exact Nat.le_refl _ | exact Nat.le_add_right _ _ | exact Nat.add_le_add_left (by decide) _) (Nat.add_le_add_left (by decide) _)))
theorem law_o_round {L F B : Nat} {s : wt_S} {l3 : Int32} {P : Int32 → wt_S → Prop} {K : wt_S → Option (Int32 × wt_S)} (hL : L ≤ 3072) (hl : 0 ≤ l3.toInt ∧ l3.toInt + 6 ≤ L) (hF1 : F + 2401800 ≤ 1999990000) (hB1 : B + 2400 ≤ 2147200000) (h : LI F B s) (go : ∀ s', LI (F + 2401800) (B + 2400) s' → Ok P (K s')) : Ok P (wt_ix (l3 + 1) L fun k1 => (wt_cl (gX10_round s (s 0 k1)) fun _ s1 => (wt_ix (l3 + 1) L fun m1 => (wt_cl (gX11_round s1 (s1 0 m1)) fun _ s2 => K s2)))) := by
  have x1 : (l3 + 1).toInt = l3.toInt + 1 := i_addn (x := l3) (by omega) 1 (by omega)
  refine ok_ix (by omega) (by omega) (fun j1 _ _ => ?_)
  refine law_c h (oX10_round hF1 h.1) (fun _ s1 h1 => ?_)
  refine ok_ix (by omega) (by omega) (fun q1 _ _ => ?_)
  exact law_q (B' := B + 2400) h1 (Nat.le_add_right _ _) (fun V a b => rq4 (q_round hd_all a b (by omega))) (fun _ s2 h2 => go s2 (h2.mono (by first | exact Nat.le_refl _ | exact Nat.le_add_right _ _ | exact Nat.add_le_add_left (by decide) _) (Nat.add_le_add_left (by decide) _)))
theorem law_o_stop {L F B : Nat} {s : wt_S} {l3 : Int32} {P : Int32 → wt_S → Prop} {K : wt_S → Option (Int32 × wt_S)} (hL : L ≤ 3072) (hl : 0 ≤ l3.toInt ∧ l3.toInt + 6 ≤ L) (hF1 : F + 2401800 ≤ 1999990000) (hB1 : B + 2400 ≤ 2147200000) (h : LI F B s) (go : ∀ s', LI (F + 2401800) (B + 2400) s' → Ok P (K s')) : Ok P (wt_ix (l3 + 1) L fun k1 => (wt_cl (gX10_stop s (s 0 k1)) fun _ s1 => (wt_ix (l3 + 1) L fun m1 => (wt_cl (gX11_stop s1 (s1 0 m1)) fun _ s2 => K s2)))) := by
  have x1 : (l3 + 1).toInt = l3.toInt + 1 := i_addn (x := l3) (by omega) 1 (by omega)
  refine ok_ix (by omega) (by omega) (fun j1 _ _ => ?_)
  refine law_c h (ok_im (oX10_stop (by omega) h.1) (fun _ _ e => e.1)) (fun _ s1 h1 => ?_)
  refine ok_ix (by omega) (by omega) (fun q1 _ _ => ?_)
  exact law_q (B' := B + 0) h1 (Nat.le_add_right _ _) (fun V a b => rq3 (q_stop a b) b.stop) (fun _ s2 h2 => go s2 (h2.mono (by first | exact Nat.le_refl _ | exact Nat.le_add_right _ _ | exact Nat.add_le_add_left (by decide) _) (Nat.add_le_add_left (by decide) _)))
theorem law_o_quiet {L F B : Nat} {s : wt_S} {l3 : Int32} {P : Int32 → wt_S → Prop} {K : wt_S → Option (Int32 × wt_S)} (hL : L ≤ 3072) (hl : 0 ≤ l3.toInt ∧ l3.toInt + 6 ≤ L) (hF1 : F + 2401800 ≤ 1999990000) (hB1 : B + 2400 ≤ 2147200000) (h : LI F B s) (go : ∀ s', LI (F + 2401800) (B + 2400) s' → Ok P (K s')) : Ok P (wt_ix (l3 + 1) L fun k1 => (wt_cl (gX10_quiet s (s 0 k1)) fun _ s1 => (wt_ix (l3 + 1) L fun m1 => (wt_cl (gX11_quiet s1 (s1 0 m1)) fun _ s2 => K s2)))) := by
  have x1 : (l3 + 1).toInt = l3.toInt + 1 := i_addn (x := l3) (by omega) 1 (by omega)
  refine ok_ix (by omega) (by omega) (fun j1 _ _ => ?_)
  refine law_c h (ok_im (oX10_quiet (by omega) h.1) (fun _ _ e => e.1)) (fun _ s1 h1 => ?_)
  refine ok_ix (by omega) (by omega) (fun q1 _ _ => ?_)
  exact law_q (B' := B + 1) h1 (Nat.le_add_right _ _) (fun V a b => rq4 (q_quiet a b (by omega))) (fun _ s2 h2 => go s2 (h2.mono (by first | exact Nat.le_refl _ | exact Nat.le_add_right _ _ | exact Nat.add_le_add_left (by decide) _) (Nat.add_le_add_left (by decide) _)))
theorem law_o_join {L F B : Nat} {s : wt_S} {l3 : Int32} {P : Int32 → wt_S → Prop} {K : wt_S → Option (Int32 × wt_S)} (hL : L ≤ 3072) (hl : 0 ≤ l3.toInt ∧ l3.toInt + 6 ≤ L) (hF1 : F + 2401800 ≤ 1999990000) (hB1 : B + 2400 ≤ 2147200000) (h : LI F B s) (go : ∀ s', LI (F + 2401800) (B + 2400) s' → Ok P (K s')) : Ok P (wt_ix (l3 + 1) L fun k1 => (wt_cl (gX10_join s (s 0 k1)) fun _ s1 => (wt_ix (l3 + 1) L fun m1 => (wt_cl (gX11_join s1 (s1 0 m1)) fun _ s2 => K s2)))) := by
  have x1 : (l3 + 1).toInt = l3.toInt + 1 := i_addn (x := l3) (by omega) 1 (by omega)
  refine ok_ix (by omega) (by omega) (fun j1 _ _ => ?_)
  refine law_c h (ok_im (oX10_join (by omega) h.1) (fun _ _ e => e.1)) (fun _ s1 h1 => ?_)
  refine ok_ix (by omega) (by omega) (fun q1 _ _ => ?_)
  exact law_q (B' := B + 1) h1 (Nat.le_add_right _ _) (fun V a b => rq4 (q_join a b (by omega))) (fun _ s2 h2 => go s2 (h2.mono (by first | exact Nat.le_refl _ | exact Nat.le_add_right _ _ | exact Nat.add_le_add_left (by decide) _) (Nat.add_le_add_left (by decide) _)))
theorem law_o_compact {L F B : Nat} {s : wt_S} {l3 : Int32} {P : Int32 → wt_S → Prop} {K : wt_S → Option (Int32 × wt_S)} (hL : L ≤ 3072) (hl : 0 ≤ l3.toInt ∧ l3.toInt + 6 ≤ L) (hF1 : F + 2401800 ≤ 1999990000) (hB1 : B + 2400 ≤ 2147200000) (h : LI F B s) (go : ∀ s', LI (F + 2401800) (B + 2400) s' → Ok P (K s')) : Ok P (wt_cl (gX10_compact s) fun _ s1 => (wt_cl (gX11_compact s1) fun _ s2 => K s2)) := by
  refine law_c h (oX10_compact (by omega) h.1) (fun _ s1 h1 => ?_)
  exact law_q (B' := B + 256) h1 (Nat.le_add_right _ _) (fun V a b => rq3 (q_compact a b (by omega)) (vi_cm b)) (fun _ s2 h2 => go s2 (h2.mono (by first | exact Nat.le_refl _ | exact Nat.le_add_right _ _ | exact Nat.add_le_add_left (by decide) _) (Nat.add_le_add_left (by decide) _)))
theorem law_o_deep {L F B : Nat} {s : wt_S} {l3 : Int32} {P : Int32 → wt_S → Prop} {K : wt_S → Option (Int32 × wt_S)} (hL : L ≤ 3072) (hl : 0 ≤ l3.toInt ∧ l3.toInt + 6 ≤ L) (hF1 : F + 2401800 ≤ 1999990000) (hB1 : B + 2400 ≤ 2147200000) (h : LI F B s) (go : ∀ s', LI (F + 2401800) (B + 2400) s' → Ok P (K s')) : Ok P (wt_ix (l3 + 1) L fun k1 => (wt_cl (gX10_deep s (s 0 k1)) fun _ s1 => (wt_ix (l3 + 1) L fun m1 => (wt_cl (gX11_deep s1 (s1 0 m1)) fun _ s2 => K s2)))) := by
  have x1 : (l3 + 1).toInt = l3.toInt + 1 := i_addn (x := l3) (by omega) 1 (by omega)
  refine ok_ix (by omega) (by omega) (fun j1 _ _ => ?_)
  refine ok_cp (oX10_deep (by omega) h.1) (fun _ _ => ?_)
  refine ok_ix (by omega) (by omega) (fun q1 _ _ => ?_)
  exact law_q (B' := B + 0) h (Nat.le_add_right _ _) (fun V a b => rqo a b (k_deep a b)) (fun _ s2 h2 => go s2 (h2.mono (by first | exact Nat.le_refl _ | exact Nat.le_add_right _ _ | exact Nat.add_le_add_left (by decide) _) (Nat.add_le_add_left (by decide) _)))
theorem law_o_need {L F B : Nat} {s : wt_S} {l3 : Int32} {P : Int32 → wt_S → Prop} {K : wt_S → Option (Int32 × wt_S)} (hL : L ≤ 3072) (hl : 0 ≤ l3.toInt ∧ l3.toInt + 6 ≤ L) (hF1 : F + 2401800 ≤ 1999990000) (hB1 : B + 2400 ≤ 2147200000) (h : LI F B s) (go : ∀ s', LI (F + 2401800) (B + 2400) s' → Ok P (K s')) : Ok P (wt_ix (l3 + 1) L fun k1 => (wt_cl (gX10_need s (s 0 k1)) fun _ s1 => (wt_ix (l3 + 1) L fun m1 => (wt_cl (gX11_need s1 (s1 0 m1)) fun _ s2 => K s2)))) := by
  have x1 : (l3 + 1).toInt = l3.toInt + 1 := i_addn (x := l3) (by omega) 1 (by omega)
  refine ok_ix (by omega) (by omega) (fun j1 _ _ => ?_)
  refine ok_cp (oX10_need (by omega) h.1) (fun _ _ => ?_)
  refine ok_ix (by omega) (by omega) (fun q1 _ _ => ?_)
  exact law_q (B' := B + 0) h (Nat.le_add_right _ _) (fun V a b => rqo a b (k_need a b)) (fun _ s2 h2 => go s2 (h2.mono (by first | exact Nat.le_refl _ | exact Nat.le_add_right _ _ | exact Nat.add_le_add_left (by decide) _) (Nat.add_le_add_left (by decide) _)))
theorem law_o_task {L F B : Nat} {s : wt_S} {l3 : Int32} {P : Int32 → wt_S → Prop} {K : wt_S → Option (Int32 × wt_S)} (hL : L ≤ 3072) (hl : 0 ≤ l3.toInt ∧ l3.toInt + 6 ≤ L) (hF1 : F + 2401800 ≤ 1999990000) (hB1 : B + 2400 ≤ 2147200000) (h : LI F B s) (go : ∀ s', LI (F + 2401800) (B + 2400) s' → Ok P (K s')) : Ok P (wt_ix (l3 + 1) L fun k1 => (wt_ix (l3 + 2) L fun k2 => (wt_cl (gX10_task s (s 0 k1) (s 0 k2)) fun _ s1 => (wt_ix (l3 + 1) L fun m1 => (wt_ix (l3 + 2) L fun m2 => (wt_cl (gX11_task s1 (s1 0 m1) (s1 0 m2)) fun _ s2 => K s2)))))) := by
  have x1 : (l3 + 1).toInt = l3.toInt + 1 := i_addn (x := l3) (by omega) 1 (by omega)
  have x2 : (l3 + 2).toInt = l3.toInt + 2 := i_addn (x := l3) (by omega) 2 (by omega)
  refine ok_ix (by omega) (by omega) (fun j1 _ _ => ?_)
  refine ok_ix (by omega) (by omega) (fun j2 _ _ => ?_)
  refine ok_cp (oX10_task (by omega) h.1) (fun _ _ => ?_)
  refine ok_ix (by omega) (by omega) (fun q1 _ _ => ?_)
  refine ok_ix (by omega) (by omega) (fun q2 _ _ => ?_)
  exact law_q (B' := B + 0) h (Nat.le_add_right _ _) (fun V a b => rqo a b (k_task a b)) (fun _ s2 h2 => go s2 (h2.mono (by first | exact Nat.le_refl _ | exact Nat.le_add_right _ _ | exact Nat.add_le_add_left (by decide) _) (Nat.add_le_add_left (by decide) _)))
theorem law_o_frame {L F B : Nat} {s : wt_S} {l3 : Int32} {P : Int32 → wt_S → Prop} {K : wt_S → Option (Int32 × wt_S)} (hL : L ≤ 3072) (hl : 0 ≤ l3.toInt ∧ l3.toInt + 6 ≤ L) (hF1 : F + 2401800 ≤ 1999990000) (hB1 : B + 2400 ≤ 2147200000) (h : LI F B s) (go : ∀ s', LI (F + 2401800) (B + 2400) s' → Ok P (K s')) : Ok P (wt_ix (l3 + 1) L fun k1 => (wt_ix (l3 + 2) L fun k2 => (wt_ix (l3 + 3) L fun k3 => (wt_cl (gX10_frame s (s 0 k1) (s 0 k2) (s 0 k3)) fun _ s1 => (wt_ix (l3 + 1) L fun m1 => (wt_ix (l3 + 2) L fun m2 => (wt_ix (l3 + 3) L fun m3 => (wt_cl (gX11_frame s1 (s1 0 m1) (s1 0 m2) (s1 0 m3)) fun _ s2 => K s2)))))))) := by
  have x1 : (l3 + 1).toInt = l3.toInt + 1 := i_addn (x := l3) (by omega) 1 (by omega)
  have x2 : (l3 + 2).toInt = l3.toInt + 2 := i_addn (x := l3) (by omega) 2 (by omega)
  have x3 : (l3 + 3).toInt = l3.toInt + 3 := i_addn (x := l3) (by omega) 3 (by omega)
  refine ok_ix (by omega) (by omega) (fun j1 _ _ => ?_)
  refine ok_ix (by omega) (by omega) (fun j2 _ _ => ?_)
  refine ok_ix (by omega) (by omega) (fun j3 _ _ => ?_)
  refine law_c h (oX10_frame (by omega) h.1) (fun _ s1 h1 => ?_)
  refine ok_ix (by omega) (by omega) (fun q1 _ _ => ?_)
  refine ok_ix (by omega) (by omega) (fun q2 _ _ => ?_)
  refine ok_ix (by omega) (by omega) (fun q3 _ _ => ?_)
  exact law_q (B' := B + 0) h1 (Nat.le_add_right _ _) (fun V a b => rqo a b (k_frame a b)) (fun _ s2 h2 => go s2 (h2.mono (by first | exact Nat.le_refl _ | exact Nat.le_add_right _ _ | exact Nat.add_le_add_left (by decide) _) (Nat.add_le_add_left (by decide) _)))
theorem law_o_slot {L F B : Nat} {s : wt_S} {l3 : Int32} {P : Int32 → wt_S → Prop} {K : wt_S → Option (Int32 × wt_S)} (hL : L ≤ 3072) (hl : 0 ≤ l3.toInt ∧ l3.toInt + 6 ≤ L) (hF1 : F + 2401800 ≤ 1999990000) (hB1 : B + 2400 ≤ 2147200000) (h : LI F B s) (go : ∀ s', LI (F + 2401800) (B + 2400) s' → Ok P (K s')) : Ok P (wt_ix (l3 + 1) L fun k1 => (wt_ix (l3 + 2) L fun k2 => (wt_ix (l3 + 3) L fun k3 => (wt_ix (l3 + 4) L fun k4 => (wt_cl (gX10_slot s (s 0 k1) (s 0 k2) (s 0 k3) (s 0 k4)) fun _ s1 => (wt_ix (l3 + 1) L fun m1 => (wt_ix (l3 + 2) L fun m2 => (wt_ix (l3 + 3) L fun m3 => (wt_ix (l3 + 4) L fun m4 => (wt_cl (gX11_slot s1 (s1 0 m1) (s1 0 m2) (s1 0 m3) (s1 0 m4)) fun _ s2 => K s2)))))))))) := by
  have x1 : (l3 + 1).toInt = l3.toInt + 1 := i_addn (x := l3) (by omega) 1 (by omega)
  have x2 : (l3 + 2).toInt = l3.toInt + 2 := i_addn (x := l3) (by omega) 2 (by omega)
  have x3 : (l3 + 3).toInt = l3.toInt + 3 := i_addn (x := l3) (by omega) 3 (by omega)
  have x4 : (l3 + 4).toInt = l3.toInt + 4 := i_addn (x := l3) (by omega) 4 (by omega)
  refine ok_ix (by omega) (by omega) (fun j1 _ _ => ?_)
  refine ok_ix (by omega) (by omega) (fun j2 _ _ => ?_)
  refine ok_ix (by omega) (by omega) (fun j3 _ _ => ?_)
  refine ok_ix (by omega) (by omega) (fun j4 _ _ => ?_)
  refine law_c h (oX10_slot (by omega) h.1) (fun _ s1 h1 => ?_)
  refine ok_ix (by omega) (by omega) (fun q1 _ _ => ?_)
  refine ok_ix (by omega) (by omega) (fun q2 _ _ => ?_)
  refine ok_ix (by omega) (by omega) (fun q3 _ _ => ?_)
  refine ok_ix (by omega) (by omega) (fun q4 _ _ => ?_)
  exact law_q (B' := B + 0) h1 (Nat.le_add_right _ _) (fun V a b => rqo a b (k_slot a b)) (fun _ s2 h2 => go s2 (h2.mono (by first | exact Nat.le_refl _ | exact Nat.le_add_right _ _ | exact Nat.add_le_add_left (by decide) _) (Nat.add_le_add_left (by decide) _)))
theorem law_o_piece {L F B : Nat} {s : wt_S} {l3 : Int32} {P : Int32 → wt_S → Prop} {K : wt_S → Option (Int32 × wt_S)} (hL : L ≤ 3072) (hl : 0 ≤ l3.toInt ∧ l3.toInt + 6 ≤ L) (hF1 : F + 2401800 ≤ 1999990000) (hB1 : B + 2400 ≤ 2147200000) (h : LI F B s) (go : ∀ s', LI (F + 2401800) (B + 2400) s' → Ok P (K s')) : Ok P (wt_ix (l3 + 1) L fun k1 => (wt_ix (l3 + 2) L fun k2 => (wt_ix (l3 + 3) L fun k3 => (wt_cl (gX10_piece s (s 0 k1) (s 0 k2) (s 0 k3)) fun _ s1 => (wt_ix (l3 + 1) L fun m1 => (wt_ix (l3 + 2) L fun m2 => (wt_ix (l3 + 3) L fun m3 => (wt_cl (gX11_piece s1 (s1 0 m1) (s1 0 m2) (s1 0 m3)) fun _ s2 => K s2)))))))) := by
  have x1 : (l3 + 1).toInt = l3.toInt + 1 := i_addn (x := l3) (by omega) 1 (by omega)
  have x2 : (l3 + 2).toInt = l3.toInt + 2 := i_addn (x := l3) (by omega) 2 (by omega)
  have x3 : (l3 + 3).toInt = l3.toInt + 3 := i_addn (x := l3) (by omega) 3 (by omega)
  refine ok_ix (by omega) (by omega) (fun j1 _ _ => ?_)
  refine ok_ix (by omega) (by omega) (fun j2 _ _ => ?_)
  refine ok_ix (by omega) (by omega) (fun j3 _ _ => ?_)
  refine ok_cp (oX10_piece (by omega) h.1) (fun _ _ => ?_)
  refine ok_ix (by omega) (by omega) (fun q1 _ _ => ?_)
  refine ok_ix (by omega) (by omega) (fun q2 _ _ => ?_)
  refine ok_ix (by omega) (by omega) (fun q3 _ _ => ?_)
  exact law_q (B' := B + 0) h (Nat.le_add_right _ _) (fun V a b => rqo a b (k_piece a b)) (fun _ s2 h2 => go s2 (h2.mono (by first | exact Nat.le_refl _ | exact Nat.le_add_right _ _ | exact Nat.add_le_add_left (by decide) _) (Nat.add_le_add_left (by decide) _)))
theorem law_o_gap {L F B : Nat} {s : wt_S} {l3 : Int32} {P : Int32 → wt_S → Prop} {K : wt_S → Option (Int32 × wt_S)} (hL : L ≤ 3072) (hl : 0 ≤ l3.toInt ∧ l3.toInt + 6 ≤ L) (hF1 : F + 2401800 ≤ 1999990000) (hB1 : B + 2400 ≤ 2147200000) (h : LI F B s) (go : ∀ s', LI (F + 2401800) (B + 2400) s' → Ok P (K s')) : Ok P (wt_ix (l3 + 1) L fun k1 => (wt_ix (l3 + 2) L fun k2 => (wt_cl (gX10_gap s (s 0 k1) (s 0 k2)) fun _ s1 => (wt_ix (l3 + 1) L fun m1 => (wt_ix (l3 + 2) L fun m2 => (wt_cl (gX11_gap s1 (s1 0 m1) (s1 0 m2)) fun _ s2 => K s2)))))) := by
  have x1 : (l3 + 1).toInt = l3.toInt + 1 := i_addn (x := l3) (by omega) 1 (by omega)
  have x2 : (l3 + 2).toInt = l3.toInt + 2 := i_addn (x := l3) (by omega) 2 (by omega)
  refine ok_ix (by omega) (by omega) (fun j1 _ _ => ?_)
  refine ok_ix (by omega) (by omega) (fun j2 _ _ => ?_)
  refine ok_cp (oX10_gap (by omega) h.1) (fun _ _ => ?_)
  refine ok_ix (by omega) (by omega) (fun q1 _ _ => ?_)
  refine ok_ix (by omega) (by omega) (fun q2 _ _ => ?_)
  exact law_q (B' := B + 0) h (Nat.le_add_right _ _) (fun V a b => rqg a b (k_gap a.2.2.1)) (fun _ s2 h2 => go s2 (h2.mono (by first | exact Nat.le_refl _ | exact Nat.le_add_right _ _ | exact Nat.add_le_add_left (by decide) _) (Nat.add_le_add_left (by decide) _)))
theorem law_o_endless {L F B : Nat} {s : wt_S} {l3 : Int32} {P : Int32 → wt_S → Prop} {K : wt_S → Option (Int32 × wt_S)} (hL : L ≤ 3072) (hl : 0 ≤ l3.toInt ∧ l3.toInt + 6 ≤ L) (hF1 : F + 2401800 ≤ 1999990000) (hB1 : B + 2400 ≤ 2147200000) (h : LI F B s) (go : ∀ s', LI (F + 2401800) (B + 2400) s' → Ok P (K s')) : Ok P (wt_ix (l3 + 1) L fun k1 => (wt_ix (l3 + 2) L fun k2 => (wt_ix (l3 + 3) L fun k3 => (wt_cl (gX10_endless s (s 0 k1) (s 0 k2) (s 0 k3)) fun _ s1 => (wt_ix (l3 + 1) L fun m1 => (wt_ix (l3 + 2) L fun m2 => (wt_ix (l3 + 3) L fun m3 => (wt_cl (gX11_endless s1 (s1 0 m1) (s1 0 m2) (s1 0 m3)) fun _ s2 => K s2)))))))) := by
  have x1 : (l3 + 1).toInt = l3.toInt + 1 := i_addn (x := l3) (by omega) 1 (by omega)
  have x2 : (l3 + 2).toInt = l3.toInt + 2 := i_addn (x := l3) (by omega) 2 (by omega)
  have x3 : (l3 + 3).toInt = l3.toInt + 3 := i_addn (x := l3) (by omega) 3 (by omega)
  refine ok_ix (by omega) (by omega) (fun j1 _ _ => ?_)
  refine ok_ix (by omega) (by omega) (fun j2 _ _ => ?_)
  refine ok_ix (by omega) (by omega) (fun j3 _ _ => ?_)
  refine law_c h (oX10_endless (Nat.le_trans (Nat.add_le_add_left (by decide) F) hF1) h.1) (fun _ s1 h1 => ?_)
  refine ok_ix (by omega) (by omega) (fun q1 _ _ => ?_)
  refine ok_ix (by omega) (by omega) (fun q2 _ _ => ?_)
  refine ok_ix (by omega) (by omega) (fun q3 _ _ => ?_)
  exact law_q (B' := B + 0) h1 (Nat.le_add_right _ _) (fun V a b => rqf b (k_endless a b)) (fun _ s2 h2 => go s2 (h2.mono (by first | exact Nat.le_refl _ | exact Nat.le_add_right _ _ | exact Nat.add_le_add_left (by decide) _) (Nat.add_le_add_left (by decide) _)))
theorem law_o_land {L F B : Nat} {s : wt_S} {l3 : Int32} {P : Int32 → wt_S → Prop} {K : wt_S → Option (Int32 × wt_S)} (hL : L ≤ 3072) (hl : 0 ≤ l3.toInt ∧ l3.toInt + 6 ≤ L) (hF1 : F + 2401800 ≤ 1999990000) (hB1 : B + 2400 ≤ 2147200000) (h : LI F B s) (go : ∀ s', LI (F + 2401800) (B + 2400) s' → Ok P (K s')) : Ok P (wt_ix (l3 + 1) L fun k1 => (wt_ix (l3 + 2) L fun k2 => (wt_ix (l3 + 3) L fun k3 => (wt_cl (gX10_land s (s 0 k1) (s 0 k2) (s 0 k3)) fun _ s1 => (wt_ix (l3 + 1) L fun m1 => (wt_ix (l3 + 2) L fun m2 => (wt_ix (l3 + 3) L fun m3 => (wt_cl (gX11_land s1 (s1 0 m1) (s1 0 m2) (s1 0 m3)) fun _ s2 => K s2)))))))) := by
  have x1 : (l3 + 1).toInt = l3.toInt + 1 := i_addn (x := l3) (by omega) 1 (by omega)
  have x2 : (l3 + 2).toInt = l3.toInt + 2 := i_addn (x := l3) (by omega) 2 (by omega)
  have x3 : (l3 + 3).toInt = l3.toInt + 3 := i_addn (x := l3) (by omega) 3 (by omega)
  refine ok_ix (by omega) (by omega) (fun j1 _ _ => ?_)
  refine ok_ix (by omega) (by omega) (fun j2 _ _ => ?_)
  refine ok_ix (by omega) (by omega) (fun j3 _ _ => ?_)
  refine law_c h (oX10_land (Nat.le_trans (Nat.add_le_add_left (by decide) F) hF1) h.1) (fun _ s1 h1 => ?_)
  refine ok_ix (by omega) (by omega) (fun q1 _ _ => ?_)
  refine ok_ix (by omega) (by omega) (fun q2 _ _ => ?_)
  refine ok_ix (by omega) (by omega) (fun q3 _ _ => ?_)
  exact law_q (B' := B + 0) h1 (Nat.le_add_right _ _) (fun V a b => rqh b (k_land a b (by omega))) (fun _ s2 h2 => go s2 (h2.mono (by first | exact Nat.le_refl _ | exact Nat.le_add_right _ _ | exact Nat.add_le_add_left (by decide) _) (Nat.add_le_add_left (by decide) _)))
theorem law_o_alone {L F B : Nat} {s : wt_S} {l3 : Int32} {P : Int32 → wt_S → Prop} {K : wt_S → Option (Int32 × wt_S)} (hL : L ≤ 3072) (hl : 0 ≤ l3.toInt ∧ l3.toInt + 6 ≤ L) (hF1 : F + 2401800 ≤ 1999990000) (hB1 : B + 2400 ≤ 2147200000) (h : LI F B s) (go : ∀ s', LI (F + 2401800) (B + 2400) s' → Ok P (K s')) : Ok P (wt_ix (l3 + 1) L fun k1 => (wt_ix (l3 + 2) L fun k2 => (wt_ix (l3 + 3) L fun k3 => (wt_ix (l3 + 4) L fun k4 => (wt_cl (gX10_alone s (s 0 k1) (s 0 k2) (s 0 k3) (s 0 k4)) fun _ s1 => (wt_ix (l3 + 1) L fun m1 => (wt_ix (l3 + 2) L fun m2 => (wt_ix (l3 + 3) L fun m3 => (wt_ix (l3 + 4) L fun m4 => (wt_cl (gX11_alone s1 (s1 0 m1) (s1 0 m2) (s1 0 m3) (s1 0 m4)) fun _ s2 => K s2)))))))))) := by
  have x1 : (l3 + 1).toInt = l3.toInt + 1 := i_addn (x := l3) (by omega) 1 (by omega)
  have x2 : (l3 + 2).toInt = l3.toInt + 2 := i_addn (x := l3) (by omega) 2 (by omega)
  have x3 : (l3 + 3).toInt = l3.toInt + 3 := i_addn (x := l3) (by omega) 3 (by omega)
  have x4 : (l3 + 4).toInt = l3.toInt + 4 := i_addn (x := l3) (by omega) 4 (by omega)
  refine ok_ix (by omega) (by omega) (fun j1 _ _ => ?_)
  refine ok_ix (by omega) (by omega) (fun j2 _ _ => ?_)
  refine ok_ix (by omega) (by omega) (fun j3 _ _ => ?_)
  refine ok_ix (by omega) (by omega) (fun j4 _ _ => ?_)
  refine law_c h (oX10_alone (Nat.le_trans (Nat.add_le_add_left (by decide) F) hF1) h.1) (fun _ s1 h1 => ?_)
  refine ok_ix (by omega) (by omega) (fun q1 _ _ => ?_)
  refine ok_ix (by omega) (by omega) (fun q2 _ _ => ?_)
  refine ok_ix (by omega) (by omega) (fun q3 _ _ => ?_)
  refine ok_ix (by omega) (by omega) (fun q4 _ _ => ?_)
  exact law_q (B' := B + 0) h1 (Nat.le_add_right _ _) (fun V a b => rqh b (k_alone a b (by omega))) (fun _ s2 h2 => go s2 (h2.mono (by first | exact Nat.le_refl _ | exact Nat.le_add_right _ _ | exact Nat.add_le_add_left (by decide) _) (Nat.add_le_add_left (by decide) _)))
theorem law_o_log {L F B : Nat} {s : wt_S} {l3 : Int32} {P : Int32 → wt_S → Prop} {K : wt_S → Option (Int32 × wt_S)} (hL : L ≤ 3072) (hl : 0 ≤ l3.toInt ∧ l3.toInt + 6 ≤ L) (hF1 : F + 2401800 ≤ 1999990000) (hB1 : B + 2400 ≤ 2147200000) (h : LI F B s) (go : ∀ s', LI (F + 2401800) (B + 2400) s' → Ok P (K s')) : Ok P (wt_ix (l3 + 1) L fun k1 => (wt_ix (l3 + 2) L fun k2 => (wt_cl (gX10_log s (s 0 k1) (s 0 k2)) fun _ s1 => (wt_ix (l3 + 1) L fun m1 => (wt_ix (l3 + 2) L fun m2 => (wt_cl (gX11_log s1 (s1 0 m1) (s1 0 m2)) fun _ s2 => K s2)))))) := by
  have x1 : (l3 + 1).toInt = l3.toInt + 1 := i_addn (x := l3) (by omega) 1 (by omega)
  have x2 : (l3 + 2).toInt = l3.toInt + 2 := i_addn (x := l3) (by omega) 2 (by omega)
  refine ok_ix (by omega) (by omega) (fun j1 _ _ => ?_)
  refine ok_ix (by omega) (by omega) (fun j2 _ _ => ?_)
  refine ok_cp (oX10_log h.1) (fun _ _ => ?_)
  refine ok_ix (by omega) (by omega) (fun q1 _ _ => ?_)
  refine ok_ix (by omega) (by omega) (fun q2 _ _ => ?_)
  exact law_q (B' := B + 0) h (Nat.le_add_right _ _) (fun V a b => rqo a b (k_log a b (by omega))) (fun _ s2 h2 => go s2 (h2.mono (by first | exact Nat.le_refl _ | exact Nat.le_add_right _ _ | exact Nat.add_le_add_left (by decide) _) (Nat.add_le_add_left (by decide) _)))
theorem law_o_never {L F B : Nat} {s : wt_S} {l3 : Int32} {P : Int32 → wt_S → Prop} {K : wt_S → Option (Int32 × wt_S)} (hL : L ≤ 3072) (hl : 0 ≤ l3.toInt ∧ l3.toInt + 6 ≤ L) (hF1 : F + 2401800 ≤ 1999990000) (hB1 : B + 2400 ≤ 2147200000) (h : LI F B s) (go : ∀ s', LI (F + 2401800) (B + 2400) s' → Ok P (K s')) : Ok P (wt_ix (l3 + 1) L fun k1 => (wt_cl (gX10_never s (s 0 k1)) fun _ s1 => (wt_ix (l3 + 1) L fun m1 => (wt_cl (gX11_never s1 (s1 0 m1)) fun _ s2 => K s2)))) := by
  have x1 : (l3 + 1).toInt = l3.toInt + 1 := i_addn (x := l3) (by omega) 1 (by omega)
  refine ok_ix (by omega) (by omega) (fun j1 _ _ => ?_)
  refine law_c h (oX10_never (by omega) h.1) (fun _ s1 h1 => ?_)
  refine ok_ix (by omega) (by omega) (fun q1 _ _ => ?_)
  exact law_q (B' := B + 0) h1 (Nat.le_add_right _ _) (fun V a b => rqo a b (k_never a b)) (fun _ s2 h2 => go s2 (h2.mono (by first | exact Nat.le_refl _ | exact Nat.le_add_right _ _ | exact Nat.add_le_add_left (by decide) _) (Nat.add_le_add_left (by decide) _)))
theorem law_o_count {L F B : Nat} {s : wt_S} {l3 : Int32} {P : Int32 → wt_S → Prop} {K : wt_S → Option (Int32 × wt_S)} (hL : L ≤ 3072) (hl : 0 ≤ l3.toInt ∧ l3.toInt + 6 ≤ L) (hF1 : F + 2401800 ≤ 1999990000) (hB1 : B + 2400 ≤ 2147200000) (h : LI F B s) (go : ∀ s', LI (F + 2401800) (B + 2400) s' → Ok P (K s')) : Ok P (wt_ix (l3 + 1) L fun k1 => (wt_cl (gX10_count s (s 0 k1)) fun _ s1 => (wt_ix (l3 + 1) L fun m1 => (wt_cl (gX11_count s1 (s1 0 m1)) fun _ s2 => K s2)))) := by
  have x1 : (l3 + 1).toInt = l3.toInt + 1 := i_addn (x := l3) (by omega) 1 (by omega)
  refine ok_ix (by omega) (by omega) (fun j1 _ _ => ?_)
  refine ok_cp (oX10_count (by omega) h.1) (fun _ _ => ?_)
  refine ok_ix (by omega) (by omega) (fun q1 _ _ => ?_)
  exact law_q (B' := B + 0) h (Nat.le_add_right _ _) (fun V a b => rqo a b k_count) (fun _ s2 h2 => go s2 (h2.mono (by first | exact Nat.le_refl _ | exact Nat.le_add_right _ _ | exact Nat.add_le_add_left (by decide) _) (Nat.add_le_add_left (by decide) _)))
theorem law_o_image {L n F B : Nat} {s : wt_S} {l3 : Int32} (hL : L ≤ 3072) (hl : 0 ≤ l3.toInt ∧ l3.toInt + 6 ≤ L) (h : LI F B s) (go : ∀ s', LI (F + 2401800) (B + 2400) s' → Ok (fun r _ => r = 1) (gL_law_18 L n s' (l3 + 6))) : Ok (fun r _ => r = 1) (wt_ix (l3 + 1) L fun k194 => (if (s 0 k194) = (0 : Int32) then gL_law_961 L (gL_law_18 L n) s l3 0 else gL_law_961 L (gL_law_18 L n) s l3 1)) := by
  have x1 : (l3 + 1).toInt = l3.toInt + 1 := i_addn (x := l3) (by omega) 1 (by omega)
  refine ok_ix (by omega) (by omega) (fun j1 j1l j1e => ?_)
  have gi : ∀ s', LI F B s' → Ok (fun r _ => r = 1) (gL_law_18 L n s' (l3 + 6)) := fun s' h' => go s' (h'.mono (Nat.le_add_right _ _) (Nat.le_add_right _ _))
  exact ok_if (fun c => law_image h (by omega) (fun k _ ke => by rw [show k = j1 by omega, if_pos c]) gi) (fun c => law_image h (by omega) (fun k _ ke => by rw [show k = j1 by omega, if_neg c]) gi)

theorem law_o_look {L F B : Nat} {s : wt_S} {l3 : Int32} {P : Int32 → wt_S → Prop} {K : wt_S → Option (Int32 × wt_S)} (hL : L ≤ 3072) (hl : 0 ≤ l3.toInt ∧ l3.toInt + 6 ≤ L) (hF1 : F + 2401800 ≤ 1999990000) (hB1 : B + 2400 ≤ 2147200000) (h : LI F B s) (go : ∀ s', LI (F + 2401800) (B + 2400) s' → Ok P (K s')) : Ok P (wt_ix (l3 + 1) L fun k1 => (wt_cl (gX10_look s (s 0 k1)) fun _ s1 => (wt_ix (l3 + 1) L fun m1 => (wt_cl (gX11_look s1 (s1 0 m1)) fun _ s2 => K s2)))) := by
  have x1 : (l3 + 1).toInt = l3.toInt + 1 := i_addn (x := l3) (by omega) 1 (by omega)
  refine ok_ix (by omega) (by omega) (fun j1 _ _ => ?_)
  refine ok_cp (oX10_look (by omega) h.1) (fun _ _ => ?_)
  refine ok_ix (by omega) (by omega) (fun q1 _ _ => ?_)
  exact law_q (B' := B + 0) h (Nat.le_add_right _ _) (fun V a b => rqo a b (k_look a)) (fun _ s2 h2 => go s2 (h2.mono (by first | exact Nat.le_refl _ | exact Nat.le_add_right _ _ | exact Nat.add_le_add_left (by decide) _) (Nat.add_le_add_left (by decide) _)))
theorem law_loop {L : Nat} (hL : L ≤ 3072) : ∀ (m fu F B : Nat) (s : wt_S) (l3 : Int32), m < fu → 0 ≤ l3.toInt → (L : Int) ≤ l3.toInt + 6 * m + 5 → LI F B s → F + 2401800 * m ≤ 1999990000 → B + 2400 * m ≤ 2147200000 → Ok (fun r _ => r = 1) (gL_law_18 L fu s l3) := by
  have l6 : ((Int32.ofInt (Int.ofNat L)) - 6).toInt = (L : Int) - 6 := by
    rw [Int32.toInt_sub, show Int32.ofInt (Int.ofNat L) = nI L from Int32.ofInt_eq_ofNat, nI_int (by omega)]
    show ((L : Int) - 6).bmod _ = _
    rw [Int.bmod_eq_of_le]
    · simp; omega
    · simp; omega
  intro m
  induction m with
  | zero =>
    intro fu F B s l3 hf h0 hl h hF hB
    cases fu with
    | zero => omega
    | succ n =>
      rw [gL_law_18]
      exact ok_if (fun _ => ok_some rfl) (fun c => by exfalso; omega)
  | succ m ih =>
    intro fu F B s l3 hf h0 hl h hF hB
    cases fu with
    | zero => omega
    | succ n =>
      rw [gL_law_18]
      refine ok_if (fun _ => ok_some rfl) (fun c => ?_)
      rw [Nat.mul_succ] at hF hB
      generalize 2401800 * m = M at *
      generalize 2400 * m = M2 at *
      have hF1 : F + 2401800 ≤ 1999990000 := Nat.le_trans (Nat.add_le_add_left (Nat.le_add_left 2401800 M) F) hF
      have hF0 : F ≤ 1999990000 := Nat.le_trans (Nat.le_add_right F 2401800) hF1
      have hF2 : F + 2401800 + M ≤ 1999990000 := by rw [Nat.add_assoc, Nat.add_comm 2401800 M]; exact hF
      have hB2 : B + 2400 + M2 ≤ 2147200000 := by rw [Nat.add_assoc, Nat.add_comm 2400 M2]; exact hB
      have hB1 : B + 2400 ≤ 2147200000 := Nat.le_trans (Nat.le_add_right _ M2) hB2
      have x6 : (l3 + 6).toInt = l3.toInt + 6 := i_addn (x := l3) (by omega) 6 (by omega)
      have hl6 : 0 ≤ l3.toInt ∧ l3.toInt + 6 ≤ L := by omega
      have go : ∀ s', LI (F + 2401800) (B + 2400) s' → Ok (fun r _ => r = 1) (gL_law_18 L n s' (l3 + 6)) := fun s' h' => ih n _ _ s' _ (by omega) (by omega) (by omega) h' hF2 hB2
      refine ok_ix (by omega) (by omega) (fun k1 _ _ => ?_)
      generalize s 0 k1 &&& 31 = cd
      refine ok_if (fun _ => go s (h.mono (Nat.le_add_right _ _) (Nat.le_add_right _ _))) (fun c0 => ?_)
      refine ok_if (fun _ => ?_) (fun _ => ?_)
      · exact law_o_set hL hl6 hF1 hB1 h go
      refine ok_if (fun _ => ?_) (fun _ => ?_)
      · exact law_o_function hL hl6 hF1 hB1 h go
      refine ok_if (fun _ => ?_) (fun _ => ?_)
      · exact law_o_line hL hl6 hF1 hB1 h go
      refine ok_if (fun _ => ?_) (fun _ => ?_)
      · exact law_o_start hL hl6 hF1 hB1 h go
      refine ok_if (fun _ => ?_) (fun _ => ?_)
      · exact law_o_step hL hl6 hF1 hB1 h go
      refine ok_if (fun _ => ?_) (fun _ => ?_)
      · exact law_o_round hL hl6 hF1 hB1 h go
      refine ok_if (fun _ => ?_) (fun _ => ?_)
      · exact law_o_stop hL hl6 hF1 hB1 h go
      refine ok_if (fun _ => ?_) (fun _ => ?_)
      · exact law_o_quiet hL hl6 hF1 hB1 h go
      refine ok_if (fun _ => ?_) (fun _ => ?_)
      · exact law_o_join hL hl6 hF1 hB1 h go
      refine ok_if (fun _ => ?_) (fun _ => ?_)
      · exact law_o_compact hL hl6 hF1 hB1 h go
      refine ok_if (fun _ => ?_) (fun _ => ?_)
      · exact law_o_deep hL hl6 hF1 hB1 h go
      refine ok_if (fun _ => ?_) (fun _ => ?_)
      · exact law_o_need hL hl6 hF1 hB1 h go
      refine ok_if (fun _ => ?_) (fun _ => ?_)
      · exact law_o_task hL hl6 hF1 hB1 h go
      refine ok_if (fun _ => ?_) (fun _ => ?_)
      · exact law_o_frame hL hl6 hF1 hB1 h go
      refine ok_if (fun _ => ?_) (fun _ => ?_)
      · exact law_o_slot hL hl6 hF1 hB1 h go
      refine ok_if (fun _ => ?_) (fun _ => ?_)
      · exact law_o_piece hL hl6 hF1 hB1 h go
      refine ok_if (fun _ => ?_) (fun _ => ?_)
      · exact law_o_gap hL hl6 hF1 hB1 h go
      refine ok_if (fun _ => ?_) (fun _ => ?_)
      · exact law_o_endless hL hl6 hF1 hB1 h go
      refine ok_if (fun _ => ?_) (fun _ => ?_)
      · exact law_o_land hL hl6 hF1 hB1 h go
      refine ok_if (fun _ => ?_) (fun _ => ?_)
      · exact law_o_alone hL hl6 hF1 hB1 h go
      refine ok_if (fun _ => ?_) (fun _ => ?_)
      · exact law_o_log hL hl6 hF1 hB1 h go
      refine ok_if (fun _ => ?_) (fun _ => ?_)
      · exact law_o_never hL hl6 hF1 hB1 h go
      refine ok_if (fun _ => ?_) (fun _ => ?_)
      · exact law_o_count hL hl6 hF1 hB1 h go
      refine ok_if (fun _ => ?_) (fun _ => ?_)
      · exact law_o_image hL hl6 h go
      refine ok_if (fun _ => ?_) (fun _ => ?_)
      · exact law_o_look hL hl6 hF1 hB1 h go
      exfalso; omega
