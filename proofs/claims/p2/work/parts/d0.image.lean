/-! ===== the class: image ===== -/
section
variable {b b2 q q2 lim B B' : Nat} {s s' s0 s1 s2 : wt_S} {V Vk : vV} {zs : List (vP × Nat)} {fr : List Nat} {x : Int32}
theorem RC.eq3 (h : RC b lim s V zs fr) (hx : CX b lim) (he : ∀ c, 6 ≤ c → c ≠ b → c ≠ b + 11 → c ≠ b + 12 → c ≠ b + 9 → c ≠ b + 16 → c < b + 29 → s' c = s c) : RC b lim s' V zs fr := by
  have hb := hx.b
  obtain ⟨h1, h2, ⟨h3, h3'⟩, h4, h5, ⟨h6, h6'⟩⟩ := h
  refine ⟨h1, h2.eq (fun c hc => he c (by omega) (by omega) (by omega) (by omega) (by omega) (by omega) (by omega)), ⟨?_, ?_⟩, fun k hk => ?_, ?_, ?_, ?_⟩
  · rw [he _ (by omega) (by omega) (by omega) (by omega) (by omega) (by omega) (by omega)]; exact h3
  · rw [he _ (by omega) (by omega) (by omega) (by omega) (by omega) (by omega) (by omega)]; exact h3'
  · have := h4 k hk
    unfold RCk Ks Kl Ka Kr Kg Kz at this ⊢
    rw [he (b + 17 + 2 * k) (by omega) (by omega) (by omega) (by omega) (by omega) (by omega) (by omega), he (b + 17 + 2 * k + 1) (by omega) (by omega) (by omega) (by omega) (by omega) (by omega) (by omega), he (b + 5) (by omega) (by omega) (by omega) (by omega) (by omega) (by omega) (by omega), he (b + 6) (by omega) (by omega) (by omega) (by omega) (by omega) (by omega) (by omega)]
    exact this
  · rw [he _ (by omega) (by omega) (by omega) (by omega) (by omega) (by omega) (by omega)]; exact h5
  · rw [he (5 + 1) (by omega) (by omega) (by omega) (by omega) (by omega) (by omega) (by omega), he (5 + 2) (by omega) (by omega) (by omega) (by omega) (by omega) (by omega) (by omega), he (5 + 3) (by omega) (by omega) (by omega) (by omega) (by omega) (by omega) (by omega), he (5 + 5) (by omega) (by omega) (by omega) (by omega) (by omega) (by omega) (by omega)]; exact h6
  · rw [he (5 + 4) (by omega) (by omega) (by omega) (by omega) (by omega) (by omega) (by omega)]; exact h6'
theorem WC.id (hc : ∀ c, b < c → c ≤ b + 28 → s' c = s c) (h8 : s' (wt_wo b) 8 = s (wt_wo b) 8) : WC b b s s' := ⟨fun j _ => by rw [hc _ (by omega) (by omega)], fun p _ => by rw [hc _ (by omega) (by omega)], fun c c1 c2 i _ => by rw [hc _ (by omega) (by omega)], fun j _ _ => by rw [hc _ (by omega) (by omega)], fun k hk => ⟨fun j _ _ => by rw [hc _ (by omega) (by omega)], fun j _ => by rw [hc _ (by omega) (by omega)]⟩, fun j _ => by rw [hc _ (by omega) (by omega)], h8⟩
theorem QC.id (hc : ∀ c, q < c → c ≤ q + 5 → s' c = s c) : QC q q s s' := ⟨fun i _ => ⟨by rw [hc _ (by omega) (by omega)], by rw [hc _ (by omega) (by omega)], by rw [hc _ (by omega) (by omega)], by rw [hc _ (by omega) (by omega)]⟩, fun i _ => by rw [hc _ (by omega) (by omega)]⟩
/-- the image that is kept -/
def KP (s : wt_S) (V : vV) : Prop := ∃ s0 zs fr, RC 11 2048 s0 V zs fr ∧ WC 81 11 s0 s ∧ QC 76 5 s0 s
def KI (B : Nat) (s : wt_S) (Vk : vV) : Prop := s 4 6 = 0 ∨ (s 4 6 = 1 ∧ KP s Vk ∧ VI 2048 B Vk ∧ ∀ t, t < 6 → WL Vk t)
theorem KP.keep (h : KP s V) (hc : ∀ c, c = 75 ∨ (77 ≤ c ∧ c ≤ 109) → s' c = s c) : KP s' V := by
  obtain ⟨s0, zs, fr, h1, h2, h3⟩ := h
  exact ⟨s0, zs, fr, h1, h2.keep (fun c c1 c2 => hc c (by omega)) (congrFun (hc 75 (Or.inl rfl)) 8), h3.keep (fun c c1 c2 => hc c (by omega))⟩
theorem KI.keep (h : KI B s Vk) (hB : B ≤ B') (hc : ∀ c, c = 4 ∨ c = 75 ∨ (77 ≤ c ∧ c ≤ 109) → s' c = s c) : KI B' s' Vk := by
  unfold KI
  rw [hc 4 (Or.inl rfl)]
  rcases h with e | ⟨e, h1, h2, h3⟩
  · exact Or.inl e
  · exact Or.inr ⟨e, h1.keep (fun c hc' => hc c (Or.inr hc')), h2.mono hB, h3⟩
theorem c_imageop (h : NW B s V) (hk : KI B s Vk) : ∃ s', gX10_image s x = some ((if x ≠ 0 then 1 else s 4 6), s') ∧ NW B s' (if x ≠ 0 then V else if s 4 6 = 0 then V else Vk) ∧ KI B s' (if x ≠ 0 then V else Vk) ∧ s' 4 6 = (if x ≠ 0 then 1 else s 4 6) ∧ ∀ c, 110 ≤ c ∨ c = 0 → s' c = s c := by
  obtain ⟨⟨zs, fr, hR⟩, hI, hW, hK, hT⟩ := id h
  unfold gX10_image gX10_image_75
  by_cases cx : x ≠ 0
  · rw [if_pos cx, if_pos cx, if_pos cx, if_neg (fun e => cx e)]
    obtain ⟨_, s1, e1, q1, f1⟩ := c_qtake (q := 76) (q2 := 5) (s := s) (by omega)
    obtain ⟨_, s2, e2, w1, f2, f3, f4⟩ := c_over (b := 81) (b2 := 11) (s := s1) (Or.inr (Or.inl ⟨rfl, rfl⟩))
    have f2 : ∀ c, c ≤ 81 ∨ 81 + 28 < c → c ≠ 75 → s2 c = s1 c := f2
    rw [e1, cl_some, e2, cl_some, wr_eq, show wt_u s2 4 6 1 4 6 = 1 from wt_u_self, show wt_rz (1 : Int32) (some ((1 : Int32), wt_u s2 4 6 1)) = some (1, wt_u s2 4 6 1) from if_pos (Or.inr rfl)]
    have fs : ∀ c, c ≠ 4 → c < 75 ∨ 109 < c → wt_u s2 4 6 1 c = s c := fun c c1 c2 => by rw [wt_u_ne c1, f2 c (by omega) (by omega), f1 c (by omega)]
    have hR' : RC 11 2048 (wt_u s2 4 6 1) V zs fr := hR.eq3 cx11 (fun c c1 _ _ _ _ _ c2 => fs c (by omega) (by omega))
    refine ⟨_, rfl, ⟨⟨zs, fr, hR'⟩, hI, hW, fun j hj => by rw [fs 1 (by omega) (by omega), fs 2 (by omega) (by omega), fs 3 (by omega) (by omega)]; exact hK j hj, fun k hk => by rw [fs _ (by omega) (by omega)]; exact hT k hk⟩, Or.inr ⟨wt_u_self, ⟨s, zs, fr, hR, ?_, ?_⟩, hI, hW⟩, wt_u_self, fun c hc => fs c (by omega) (by omega)⟩
    · have w2 : WC 81 11 s s2 := WC.trans (WC.id (fun c c1 c2 => f1 c (by omega)) (by rw [f1 _ (Or.inl (by decide))])) w1
      exact w2.keep (fun c c1 c2 => wt_u_ne (by omega)) (by rw [wt_u_ne (by decide)])
    · exact (q1.keep (fun c c1 c2 => f2 c (by omega) (by omega))).keep (fun c c1 c2 => wt_u_ne (by omega))
  · have cx0 : x = 0 := by simpa using cx
    rw [if_neg cx, if_neg cx, if_neg cx, if_pos cx0]
    by_cases c0 : s 4 6 = 0
    · rw [if_pos c0, if_pos c0, c0, show wt_rz (0 : Int32) (some ((0 : Int32), s)) = some (0, s) from if_pos (Or.inl rfl)]
      exact ⟨s, rfl, h, hk, c0, fun _ _ => rfl⟩
    · rw [if_neg c0, if_neg c0]
      rcases hk with e | ⟨ek, ⟨s0, zs0, fr0, k1, k2, k3⟩, kI, kW⟩
      · exact absurd e c0
      obtain ⟨_, s1, e1, q1, f1⟩ := c_qtake (q := 5) (q2 := 76) (s := s) (by omega)
      obtain ⟨_, s2, e2, w1, f2, f3, f4⟩ := c_over (b := 11) (b2 := 81) (s := s1) (Or.inl ⟨rfl, rfl⟩)
      have f2 : ∀ c, c ≤ 11 ∨ 11 + 28 < c → c ≠ 11 → s2 c = s1 c := f2
      have fs : ∀ c, c < 6 ∨ 39 < c → s2 c = s c := fun c hc => by rw [f2 c (by omega) (by omega), f1 c (by omega)]
      have e4 : s2 4 6 = 1 := by rw [fs 4 (by omega)]; exact ek
      rw [e1, cl_some, e2, cl_some, e4, ek, show wt_rz (1 : Int32) (some ((1 : Int32), s2)) = some (1, s2) from if_pos (Or.inr rfl)]
      have w2 : WC 11 11 s0 s2 := WC.trans (WC.trans k2 (WC.id (fun c c1 c2 => f1 c (by omega)) (by rw [f1 _ (Or.inr (by decide))]))) w1
      have q2 : QC 5 5 s0 s2 := (QC.trans k3 q1).keep (fun c c1 c2 => f2 c (by omega) (by omega))
      have hR' : RC 11 2048 s2 Vk zs0 fr0 := k1.wc (Nat.le_refl _) kI.J w2 (fun k hk => by rw [f4 k hk, f1 _ (by omega)]; exact (hR.2.2.2.1 k hk).1.1) (k1.2.2.2.2.2.qc q2)
      refine ⟨_, rfl, ⟨⟨zs0, fr0, hR'⟩, kI, kW, fun j hj => by rw [fs 1 (by omega), fs 2 (by omega), fs 3 (by omega)]; exact hK j hj, fun k hk => by rw [fs _ (by omega)]; exact hT k hk⟩, KI.keep (Or.inr ⟨ek, ⟨s0, zs0, fr0, k1, k2, k3⟩, kI, kW⟩) (Nat.le_refl _) (fun c hc => fs c (by omega)), e4, fun c hc => fs c (by omega)⟩
end
