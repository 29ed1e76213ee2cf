section
/-! ===== the endless stack: a step ===== -/
theorem bk_e {g l : Nat} (hg : g < 10) (hl : l < 16) : (32 * g + l + 1 < 1024 ∧ (32 * g + l + 1) % 1024 / 32 = g ∧ (32 * g + l + 1) % 32 = l + 1) ∧ (2048 ≤ 32 * g + l + 1 + 2048 ∧ 32 * g + l + 1 + 2048 < 3072) ∧ (32 * g + l + 1 + 2048) % 1024 / 32 = g ∧ (32 * g + l + 1 + 2048) % 32 = l + 1 := by omega
section
variable {s0 s : wt_S} {V : vV} {w : Nat → Int32} {S : eS} {f l k0 : Nat} {D : wt_S → Int32 → Int32 → Option (Int32 × wt_S)}
/-- a call of a line -/
theorem e_call (h : RE s0 s V w S) (hE : EI w S) (hf : f < 10) (hs1 : 1 ≤ vsz w f) (hn : S.1 ≤ 2000) (hmo : S.2.2.2.1 ≤ 1000000) (hl : l < vli w (elf S).1) (hk0 : k0 < vsz w (elf S).1) {bk : Nat}
    (hb : (bk = 32 * (elf S).1 + l + 1 ∧ w (vco (elf S).1 l) = 6 ∧ w (vco (elf S).1 l + 1) = nI f) ∨ (bk = 32 * (elf S).1 + l + 1 + 2048 ∧ w (vco (elf S).1 l) = 9 ∧ w (vco (elf S).1 l + 2) = nI f)) :
    ∃ s', gX11_calls s (nI 6) (nI f) (nI bk) (nI k0) 0 = some ((), s') ∧ EQ s0 s' V w S (.inl (epu w S f bk (vha w f (elf S) k0))) := by
  have hn1 := hE.1
  have hip := h.2.2.2.2.1
  have hft : (elf S).1 < 10 := (hE.2.1 (S.1 - 1) (by omega)).1
  have hl16 : l < 16 := by have := (hip.li hft).2; omega
  obtain ⟨⟨b1, b2, b3⟩, ⟨b4, b5⟩, b6, b7⟩ := bk_e hft hl16
  obtain ⟨s', e1, e2⟩ := e_calls (bk := bk) (slot := nI k0) (a := 0) (hh := vha w f (elf S) k0) h (fun _ => hE) hf hs1 hn hmo (Or.inr ⟨k0, rfl, by omega, hk0, rfl⟩)
  have hBb : bk < 1024 ∨ (2048 ≤ bk ∧ bk < 3072) := by
    rcases hb with ⟨e, -⟩ | ⟨e, -⟩
    · left; omega
    · right; omega
  refine ⟨s', e1, e2, hE.push hf hs1 hBb ?_ (fun hb0 p hp => ?_) hip, Nat.le_refl _, ?_, rfl⟩
  · show bk < 4096 ∧ bk % 1024 / 32 = (elf S).1 ∧ 1 ≤ bk % 32 ∧ bk % 32 - 1 < vli w (elf S).1 ∧ ((bk < 2048 ∧ w (vco (elf S).1 (bk % 32 - 1)) = 6 ∧ w (vco (elf S).1 (bk % 32 - 1) + 1) = nI f) ∨ (2048 ≤ bk ∧ w (vco (elf S).1 (bk % 32 - 1)) = 9 ∧ w (vco (elf S).1 (bk % 32 - 1) + 2) = nI f))
    rcases hb with ⟨e, g1, g2⟩ | ⟨e, g1, g2⟩
    · subst e
      rw [b3, Nat.add_sub_cancel]
      exact ⟨by omega, b2, by omega, hl, Or.inl ⟨by omega, g1, g2⟩⟩
    · subst e
      rw [b7, Nat.add_sub_cancel]
      exact ⟨by omega, b6, by omega, hl, Or.inr ⟨b4, g1, g2⟩⟩
  · unfold vha at hp
    by_cases cb : bt (w (2238 + (elf S).1)) k0
    · rw [if_pos cb] at hp
      have hp : (if bt (w (2238 + f)) 0 then (elf S).2.2.2.2.2 k0 else none) = some p := hp
      rw [if_pos hb0] at hp
      obtain ⟨x1, x2, x3⟩ := hE.2.2.2.2.1 (S.1 - 1) (by omega) k0 hk0 cb p hp
      exact ⟨by omega, x2, x3⟩
    · rw [if_neg cb] at hp
      cases hp
  · show max S.2.2.2.1 (vus w S.2.1 S.1 + vwd w f) ≤ _
    have := (hip.wd hf).2
    omega
theorem e_steps (h : RE s0 s V w S) (hE : EI w S) (hn : S.1 ≤ 2000) (hst : S.2.2.2.2 < 100000) (hmo : S.2.2.2.1 ≤ 1000000) : ∃ s', gX11_steps D s (nI 6) = some ((), s') ∧ EQ s0 s' V w (S.1, S.2.1, S.2.2.1, S.2.2.2.1, S.2.2.2.2 + 1) (est w S) := by
  have hn1 := hE.1
  have hip := h.2.2.2.2.1
  have h7 := h.2.2.2.2.2.2.1
  have h9 := h.2.2.2.2.2.2.2.2.1
  have h11 := h.2.2.2.2.2.2.2.2.2.2.1
  obtain ⟨k1, k2⟩ := h.2.2.2.2.2.2.2.2.2.2.2.2.1 (by omega)
  have hft : (elf S).1 < 10 := (hE.2.1 (S.1 - 1) (by omega)).1
  have hli := hip.li hft
  have hl16 := hE.2.2.2.2.2
  have hA := h.st
  unfold gX11_steps
  rw [li_add, ix_nI (by omega) (by omega), li_add, ix_nI (by omega) (by omega), li_add, ix_nI (by omega) (by omega), ix_nI (by omega) (by omega), wr_eq, h11, nI_1, k2, h9]
  generalize hsA : wt_u s 111 (3947 + 6) (nI (S.2.2.2.2 + 1)) = sA at *
  have hwA := hA.pr
  have h5A : sA 110 5 ≠ 0 := by rw [hA.1]; decide
  have hEA : EI w (S.1, S.2.1, S.2.2.1, S.2.2.2.1, S.2.2.2.2 + 1) := hE
  rw [q_counts1 h5A, cl_some, li_add, ix_nI (by omega) (by omega), hwA (2248 + (elf S).1) (Or.inl (by omega)), hli.1, nI_int (by omega), nI_int (by omega)]
  unfold est
  dsimp only
  have hlfA : elf ((S.1, S.2.1, S.2.2.1, S.2.2.2.1, S.2.2.2.2 + 1) : eS) = elf S := rfl
  by_cases cl : S.2.2.1 < vli w (elf S).1
  · rw [if_pos (by omega), if_pos cl]
    generalize hS1 : ((S.1, S.2.1, S.2.2.1, S.2.2.2.1, S.2.2.2.2 + 1) : eS) = S1 at *
    have hvb := (hip _ hft).2.2 _ cl
    unfold vlin vcan at hvb
    have hvc : vco (elf S).1 S.2.2.1 = 2258 + 4 * (16 * (elf S).1 + S.2.2.1) := rfl
    have hB := hA.li (l := S.2.2.1 + 1)
    have hEB : EI w (eli S1 (S.2.2.1 + 1)) := hEA.li (by omega)
    have hA88 : sA 111 (3982 + 6) = nI (vus w S.2.1 (S.1 - 1)) := by rw [← hsA, wt_u_nk (by omega)]; exact k1
    have hA74 : sA 111 (3968 + 6) = nI S.2.2.1 := by rw [← hsA, wt_u_nk (by omega)]; exact h9
    rw [q_codeAt, cl_some, ← hvc, li_add2, ix_nI (by omega) (by omega), li_add2, ix_nI (by omega) (by omega), li_add2, ix_nI (by omega) (by omega), li_add, ix_nI (by omega) (by omega), ix_nI (by omega) (by omega), ix_nI (by omega) (by omega), wr_eq, hA74, nI_1, ix_nI (by omega) (by omega), hA88, hwA (vco (elf S).1 S.2.2.1 + 1) (Or.inl (by omega)), hwA (vco (elf S).1 S.2.2.1 + 2) (Or.inl (by omega)), hwA (vco (elf S).1 S.2.2.1 + 3) (Or.inl (by omega))]
    generalize hsB : wt_u sA 111 (3968 + 6) (nI (S.2.2.1 + 1)) = sB at *
    have hwB := hB.pr
    have h5B : sB 110 5 ≠ 0 := by rw [hB.1]; decide
    rw [hwB (vco (elf S).1 S.2.2.1) (Or.inl (by omega))]
    have hSB1 : (eli S1 (S.2.2.1 + 1)).1 = S.1 := by rw [← hS1]; rfl
    have hSB2 : (eli S1 (S.2.2.1 + 1)).2.1 = S.2.1 := by rw [← hS1]; rfl
    have hSBm : (eli S1 (S.2.2.1 + 1)).2.2.2.1 = S.2.2.2.1 := by rw [← hS1]; rfl
    have hS11 : S1.1 = S.1 := by rw [← hS1]
    have hS12 : S1.2.1 = S.2.1 := by rw [← hS1]
    have hEQ : ∀ s' r, EQ s0 s' V w (eli S1 (S.2.2.1 + 1)) r → EQ s0 s' V w S1 r := fun s' r g => by cases r <;> exact g
    have hlfB : elf (eli S1 (S.2.2.1 + 1)) = elf S := by unfold elf; rw [hSB1, hSB2]
    generalize hS2 : eli S1 (S.2.2.1 + 1) = S2 at *
    generalize hKK : w (vco (elf S).1 S.2.2.1) = K at *
    generalize hAA : w (vco (elf S).1 S.2.2.1 + 1) = A at *
    generalize hBB : w (vco (elf S).1 S.2.2.1 + 2) = Bb at *
    generalize hCC : w (vco (elf S).1 S.2.2.1 + 3) = C at *
    obtain ⟨pk, p0, p1, p3, p4, p5, p6, p7, p8, p9⟩ := hvb
    have hz8 := (hip.sz hft).2
    have hvu := hE.vw hip S.1 (Nat.le_refl _)
    have hvlt := vus_lt (w := w) (fr := S.2.1) (show S.1 - 1 < S.1 by omega)
    have hvlt : vus w S.2.1 (S.1 - 1) + (vsz w (elf S).1 + 2) ≤ vus w S.2.1 S.1 := hvlt
    have hMR := hB.2.2.2.2.2.2.2.2.2.2.2.2.2
    rw [hSB1, hSB2] at hMR
    have hMl := (hMR (S.1 - 1) (by omega)).2.2.2
    -- a number's word; a number is set
    have hnw : ∀ a, a < vsz w (elf S).1 → ¬ bt (w (2238 + (elf S).1)) a → gX11_word sB (nI (vus w S.2.1 (S.1 - 1)) + 2 + nI a) = some (vnm (elf S) (nI a), sB) := fun a a1 a2 => by
      rw [li_add2, nI_add, q_word1 h5B (by omega), hMl a a1]
      unfold vsw vnm
      rw [if_neg (show ¬ bt (w (2238 + (S.2.1 (S.1 - 1)).1)) a from a2), nI_int (by omega)]
      rfl
    have hly : ∀ a v, a < vsz w (elf S).1 → ¬ bt (w (2238 + (elf S).1)) a → ∃ s', gX11_lays sB (nI (vus w S.2.1 (S.1 - 1)) + 2 + nI a) v = some ((), s') ∧ EQ s0 s' V w S1 (.inl (enu S2 (S.1 - 1) a v)) := fun a v a1 a2 => by
      have := hB.nu (i := S.1 - 1) (k := a) (v := v) (by rw [hSB1]; omega) (by rw [hSB2]; exact a1) (by rw [hSB2]; exact a2)
      rw [hSB2] at this
      refine ⟨_, by rw [li_add2, nI_add, q_lays1 h5B (by omega)], hEQ _ _ ⟨this, hEB.nu, by show S2.1 ≤ _; omega, by show S2.2.2.2.1 ≤ _; omega, rfl⟩⟩
    have hpw : ∀ a, a < vsz w (elf S).1 → bt (w (2238 + (elf S).1)) a → gX11_word sB (nI (vus w S.2.1 (S.1 - 1)) + 2 + nI a) = some (match (elf S).2.2.2.2.2 a with | none => -1 | some q => nI (vus w S.2.1 q.1 + 2 + q.2), sB) := fun a a1 a2 => by
      rw [li_add2, nI_add, q_word1 h5B (by omega), hMl a a1]
      unfold vsw
      rw [if_pos (show bt (w (2238 + (S.2.1 (S.1 - 1)).1)) a from a2)]
      rfl
    have hqq : ∀ a q, a < vsz w (elf S).1 → bt (w (2238 + (elf S).1)) a → (elf S).2.2.2.2.2 a = some q → q.1 < S.1 ∧ q.2 < vsz w (S.2.1 q.1).1 ∧ ¬ bt (w (2238 + (S.2.1 q.1).1)) q.2 ∧ vus w S.2.1 q.1 + 2 + q.2 < 20200 := fun a q a1 a2 a3 => by
      obtain ⟨x1, x2, x3⟩ := hE.2.2.2.2.1 (S.1 - 1) (by omega) a a1 a2 q a3
      have h1 := vus_lt (w := w) (fr := S.2.1) (show q.1 < q.1 + 1 by omega)
      have h2 := hE.vw hip (q.1 + 1) (by omega)
      unfold vwd at h1
      exact ⟨by omega, x2, x3, by omega⟩
    unfold eln
    dsimp only
    rw [hlfB, hSB1]
    have hk10 : K = 10 ∨ (0 ≤ K.toInt ∧ K.toInt ≤ 9) := by
      by_cases e : K.toInt ≤ 9
      · exact Or.inr ⟨pk.1, e⟩
      · left
        obtain ⟨n, n1, n2, n3, n4⟩ := i_nat (x := K) pk.1
        have : n = 10 := by have := pk.2; omega
        rw [n2, this]
        rfl
    rcases hk10 with hk10 | hk9
    · subst hk10
      rw [if_pos (show ((10 : Int32).toInt < 0 ∨ 9 < (10 : Int32).toInt) by decide), if_neg (show ¬ (10 : Int32) = 0 by decide), if_neg (show ¬ (10 : Int32) = 1 by decide), if_neg (show ¬ (10 : Int32) = 2 by decide), if_neg (show ¬ (10 : Int32) = 3 by decide), if_neg (show ¬ (10 : Int32) = 4 by decide), if_neg (show ¬ (10 : Int32) = 5 by decide), if_neg (show ¬ (10 : Int32) = 6 by decide), if_neg (show ¬ (10 : Int32) = 7 by decide), if_neg (show ¬ (10 : Int32) = 8 by decide), if_neg (show ¬ (10 : Int32) = 9 by decide)]
      unfold gX11_quiets
      rw [if_neg h5B, cl_some]
      exact ⟨sB, rfl, hEQ _ _ ⟨hB, hEB, by omega, by omega, rfl⟩⟩
    rcases i10 hk9 with rfl | rfl | rfl | rfl | rfl | rfl | rfl | rfl | rfl | rfl
    · rw [if_neg (show ¬ ((0 : Int32).toInt < 0 ∨ 9 < (0 : Int32).toInt) by decide), if_pos (show (0 : Int32).toInt = 0 by decide), if_pos rfl]
      obtain ⟨a, rfl, a2, a3, a4, a5⟩ := vnum_nat hip hft (p0 rfl)
      obtain ⟨s', f1, f2⟩ := hly a Bb a3 a5
      rw [f1, cl_some, a2]
      exact ⟨s', rfl, f2⟩
    · rw [if_neg (show ¬ ((1 : Int32).toInt < 0 ∨ 9 < (1 : Int32).toInt) by decide), if_neg (show ¬ (1 : Int32).toInt = 0 by decide), if_pos (show (1 : Int32).toInt = 1 by decide), if_neg (show ¬ (1 : Int32) = 0 by decide), if_pos rfl]
      obtain ⟨q1, q2, q3⟩ := p1 (Or.inl rfl)
      obtain ⟨a, rfl, a2, a3, a4, a5⟩ := vnum_nat hip hft q1
      obtain ⟨b, rfl, b2, b3, b4, b5⟩ := vnum_nat hip hft q2
      obtain ⟨c, rfl, c2, c3, c4, c5⟩ := vnum_nat hip hft q3
      obtain ⟨s', f1, f2⟩ := hly a (vnm (elf S) (nI b) + vnm (elf S) (nI c)) a3 a5
      rw [hnw b b3 b5, cl_some, hnw c c3 c5, cl_some, f1, cl_some, a2]
      exact ⟨s', rfl, f2⟩
    · rw [if_neg (show ¬ ((2 : Int32).toInt < 0 ∨ 9 < (2 : Int32).toInt) by decide), if_neg (show ¬ (2 : Int32).toInt = 0 by decide), if_neg (show ¬ (2 : Int32).toInt = 1 by decide), if_pos (show (2 : Int32).toInt = 2 by decide), if_neg (show ¬ (2 : Int32) = 0 by decide), if_neg (show ¬ (2 : Int32) = 1 by decide), if_pos rfl]
      obtain ⟨q1, q2, q3⟩ := p1 (Or.inr rfl)
      obtain ⟨a, rfl, a2, a3, a4, a5⟩ := vnum_nat hip hft q1
      obtain ⟨b, rfl, b2, b3, b4, b5⟩ := vnum_nat hip hft q2
      obtain ⟨c, rfl, c2, c3, c4, c5⟩ := vnum_nat hip hft q3
      obtain ⟨s', f1, f2⟩ := hly a (if (vnm (elf S) (nI c)).toInt ≤ (vnm (elf S) (nI b)).toInt then 0 else 1) a3 a5
      rw [hnw b b3 b5, cl_some, hnw c c3 c5, cl_some, a2]
      refine ⟨s', ?_, f2⟩
      unfold gX11_steps_269
      by_cases cc : (vnm (elf S) (nI c)).toInt ≤ (vnm (elf S) (nI b)).toInt
      · rw [if_pos cc] at f1 ⊢
        rw [f1, cl_some]
      · rw [if_neg cc] at f1 ⊢
        rw [f1, cl_some]
    · rw [if_neg (show ¬ ((3 : Int32).toInt < 0 ∨ 9 < (3 : Int32).toInt) by decide), if_neg (show ¬ (3 : Int32).toInt = 0 by decide), if_neg (show ¬ (3 : Int32).toInt = 1 by decide), if_neg (show ¬ (3 : Int32).toInt = 2 by decide), if_pos (show (3 : Int32).toInt = 3 by decide), if_neg (show ¬ (3 : Int32) = 0 by decide), if_neg (show ¬ (3 : Int32) = 1 by decide), if_neg (show ¬ (3 : Int32) = 2 by decide), if_pos rfl]
      obtain ⟨q1, q2⟩ := p3 rfl
      obtain ⟨a, rfl, a2, a3, a4, a5⟩ := vptr_nat hip hft q1
      obtain ⟨b, rfl, b2, b3, b4, b5⟩ := vnum_nat hip hft q2
      have g := hB.po (i := S.1 - 1) (k := a) (q := some (S.1 - 1, b)) (by rw [hSB1]; omega) (by rw [hSB2]; exact a3) (by rw [hSB2]; exact a5)
      rw [hSB2] at g
      rw [a2, b2]
      refine ⟨_, by rw [li_add2, nI_add, nI_add, q_lays1 h5B (by omega), cl_some], hEQ _ _ ⟨g, hEB.po (Nat.le_refl _) (by rw [hSB2]; exact b3) (by rw [hSB2]; exact b5), by show S2.1 ≤ _; omega, by show S2.2.2.2.1 ≤ _; omega, rfl⟩⟩
    · rw [if_neg (show ¬ ((4 : Int32).toInt < 0 ∨ 9 < (4 : Int32).toInt) by decide), if_neg (show ¬ (4 : Int32).toInt = 0 by decide), if_neg (show ¬ (4 : Int32).toInt = 1 by decide), if_neg (show ¬ (4 : Int32).toInt = 2 by decide), if_neg (show ¬ (4 : Int32).toInt = 3 by decide), if_pos (show (4 : Int32).toInt = 4 by decide), if_neg (show ¬ (4 : Int32) = 0 by decide), if_neg (show ¬ (4 : Int32) = 1 by decide), if_neg (show ¬ (4 : Int32) = 2 by decide), if_neg (show ¬ (4 : Int32) = 3 by decide), if_pos rfl]
      obtain ⟨q1, q2⟩ := p4 rfl
      obtain ⟨a, rfl, a2, a3, a4, a5⟩ := vnum_nat hip hft q1
      obtain ⟨b, rfl, b2, b3, b4, b5⟩ := vptr_nat hip hft q2
      rw [hpw b b3 b5, cl_some, a2, b2]
      unfold gX11_steps_328
      cases e : (elf S).2.2.2.2.2 b with
      | none =>
        obtain ⟨s', f1, f2⟩ := hly a 0 a3 a5
        dsimp only
        rw [if_neg (by simp), f1, cl_some]
        exact ⟨s', rfl, f2⟩
      | some q =>
        obtain ⟨x1, x2, x3, x4⟩ := hqq b q b3 b5 e
        obtain ⟨s', f1, f2⟩ := hly a ((S.2.1 q.1).2.2.2.2.1 q.2) a3 a5
        have hv : sB 114 (vus w S.2.1 q.1 + 2 + q.2) = (S.2.1 q.1).2.2.2.2.1 q.2 := by
          rw [(hMR q.1 x1).2.2.2 q.2 x2]
          unfold vsw
          rw [if_neg x3]
        dsimp only
        rw [if_pos (nI_m1 (by omega)), hpw b b3 b5, cl_some, e]
        dsimp only
        rw [q_word1 h5B x4, cl_some, hv, f1, cl_some, hSB2]
        exact ⟨s', rfl, f2⟩
    · rw [if_neg (show ¬ ((5 : Int32).toInt < 0 ∨ 9 < (5 : Int32).toInt) by decide), if_neg (show ¬ (5 : Int32).toInt = 0 by decide), if_neg (show ¬ (5 : Int32).toInt = 1 by decide), if_neg (show ¬ (5 : Int32).toInt = 2 by decide), if_neg (show ¬ (5 : Int32).toInt = 3 by decide), if_neg (show ¬ (5 : Int32).toInt = 4 by decide), if_pos (show (5 : Int32).toInt = 5 by decide), if_neg (show ¬ (5 : Int32) = 0 by decide), if_neg (show ¬ (5 : Int32) = 1 by decide), if_neg (show ¬ (5 : Int32) = 2 by decide), if_neg (show ¬ (5 : Int32) = 3 by decide), if_neg (show ¬ (5 : Int32) = 4 by decide), if_pos rfl]
      obtain ⟨q1, q2⟩ := p5 rfl
      obtain ⟨a, rfl, a2, a3, a4, a5⟩ := vptr_nat hip hft q1
      obtain ⟨b, rfl, b2, b3, b4, b5⟩ := vnum_nat hip hft q2
      rw [hpw a a3 a5, cl_some, a2]
      cases e : (elf S).2.2.2.2.2 a with
      | none =>
        dsimp only
        rw [if_pos rfl]
        exact ⟨sB, rfl, hEQ _ _ ⟨hB, hEB, by omega, by omega, rfl⟩⟩
      | some q =>
        obtain ⟨x1, x2, x3, x4⟩ := hqq a q a3 a5 e
        have g := hB.nu (i := q.1) (k := q.2) (v := vnm (elf S) (nI b)) (by rw [hSB1]; omega) (by rw [hSB2]; exact x2) (by rw [hSB2]; exact x3)
        rw [hSB2] at g
        dsimp only
        rw [if_neg (nI_m1 (by omega)), hpw a a3 a5, cl_some, e, hnw b b3 b5, cl_some]
        dsimp only
        rw [q_lays1 h5B x4, cl_some]
        exact ⟨_, rfl, hEQ _ _ ⟨g, hEB.nu, by show S2.1 ≤ _; omega, by show S2.2.2.2.1 ≤ _; omega, rfl⟩⟩
    · rw [if_neg (show ¬ ((6 : Int32).toInt < 0 ∨ 9 < (6 : Int32).toInt) by decide), if_neg (show ¬ (6 : Int32).toInt = 0 by decide), if_neg (show ¬ (6 : Int32).toInt = 1 by decide), if_neg (show ¬ (6 : Int32).toInt = 2 by decide), if_neg (show ¬ (6 : Int32).toInt = 3 by decide), if_neg (show ¬ (6 : Int32).toInt = 4 by decide), if_neg (show ¬ (6 : Int32).toInt = 5 by decide), if_pos (show (6 : Int32).toInt = 6 by decide), if_neg (show ¬ (6 : Int32) = 0 by decide), if_neg (show ¬ (6 : Int32) = 1 by decide), if_neg (show ¬ (6 : Int32) = 2 by decide), if_neg (show ¬ (6 : Int32) = 3 by decide), if_neg (show ¬ (6 : Int32) = 4 by decide), if_neg (show ¬ (6 : Int32) = 5 by decide), if_pos rfl]
      obtain ⟨⟨f, rfl, f10⟩, ⟨b, rfl, b3⟩, q3⟩ := p6 rfl
      obtain ⟨c, rfl, c2, c3, c4, c5⟩ := vnum_nat hip hft q3
      have htl : tld (sB 111) (nI f) ↔ tld w (nI f) := hwB.tl
      have hfn : (nI f).toInt.toNat = f := by rw [nI_int (by omega)]; rfl
      have hbn : (nI b).toInt.toNat = b := by rw [nI_int (by omega)]; rfl
      rw [q_isTold, cl_some, if_rb, c2]
      by_cases ct : tld w (nI f)
      · obtain ⟨s', f1, f2⟩ := e_call (l := S.2.2.1) (k0 := b) (f := f) hB hEB f10 (by have := ct.2; rw [hfn] at this; unfold vsz; omega) (by omega) (by omega) (by rw [hlfB]; exact cl) (by rw [hlfB]; exact b3) (Or.inl ⟨rfl, by rw [hlfB]; exact hKK, by rw [hlfB]; exact hAA⟩)
        rw [hlfB] at f1 f2
        rw [if_pos (htl.mpr ct), if_pos ct, hfn, hbn, li_mul, nI_add, li_add2, f1, cl_some]
        exact ⟨s', rfl, hEQ _ _ f2⟩
      · obtain ⟨s', f1, f2⟩ := hly c 0 c3 c5
        rw [if_neg (fun q => ct (htl.mp q)), if_neg ct, f1, cl_some]
        exact ⟨s', rfl, f2⟩
    · rw [if_neg (show ¬ ((7 : Int32).toInt < 0 ∨ 9 < (7 : Int32).toInt) by decide), if_neg (show ¬ (7 : Int32).toInt = 0 by decide), if_neg (show ¬ (7 : Int32).toInt = 1 by decide), if_neg (show ¬ (7 : Int32).toInt = 2 by decide), if_neg (show ¬ (7 : Int32).toInt = 3 by decide), if_neg (show ¬ (7 : Int32).toInt = 4 by decide), if_neg (show ¬ (7 : Int32).toInt = 5 by decide), if_neg (show ¬ (7 : Int32).toInt = 6 by decide), if_pos (show (7 : Int32).toInt = 7 by decide), if_neg (show ¬ (7 : Int32) = 0 by decide), if_neg (show ¬ (7 : Int32) = 1 by decide), if_neg (show ¬ (7 : Int32) = 2 by decide), if_neg (show ¬ (7 : Int32) = 3 by decide), if_neg (show ¬ (7 : Int32) = 4 by decide), if_neg (show ¬ (7 : Int32) = 5 by decide), if_neg (show ¬ (7 : Int32) = 6 by decide), if_pos rfl]
      obtain ⟨q1, ⟨l9, rfl, l91⟩⟩ := p7 rfl
      obtain ⟨a, rfl, a2, a3, a4, a5⟩ := vnum_nat hip hft q1
      rw [hnw a a3 a5, cl_some]
      by_cases cq : (vnm (elf S) (nI a)).toInt ≤ 0
      · rw [if_pos (show (vnm (elf S) (nI a)).toInt ≤ (0 : Int32).toInt from cq), if_pos cq]
        exact ⟨sB, rfl, hEQ _ _ ⟨hB, hEB, by omega, by omega, rfl⟩⟩
      · rw [if_neg (show ¬ (vnm (elf S) (nI a)).toInt ≤ (0 : Int32).toInt from cq), if_neg cq, ix_nI (by omega) (by omega), wr_eq, show (nI l9).toInt.toNat = l9 by rw [nI_int (by omega)]; rfl]
        exact ⟨_, rfl, hEQ _ _ ⟨hB.li, hEB.li (by omega), by show S2.1 ≤ _; omega, by show S2.2.2.2.1 ≤ _; omega, rfl⟩⟩
    · rw [if_neg (show ¬ ((8 : Int32).toInt < 0 ∨ 9 < (8 : Int32).toInt) by decide), if_neg (show ¬ (8 : Int32).toInt = 0 by decide), if_neg (show ¬ (8 : Int32).toInt = 1 by decide), if_neg (show ¬ (8 : Int32).toInt = 2 by decide), if_neg (show ¬ (8 : Int32).toInt = 3 by decide), if_neg (show ¬ (8 : Int32).toInt = 4 by decide), if_neg (show ¬ (8 : Int32).toInt = 5 by decide), if_neg (show ¬ (8 : Int32).toInt = 6 by decide), if_neg (show ¬ (8 : Int32).toInt = 7 by decide), if_pos (show (8 : Int32).toInt = 8 by decide), if_neg (show ¬ (8 : Int32) = 0 by decide), if_neg (show ¬ (8 : Int32) = 1 by decide), if_neg (show ¬ (8 : Int32) = 2 by decide), if_neg (show ¬ (8 : Int32) = 3 by decide), if_neg (show ¬ (8 : Int32) = 4 by decide), if_neg (show ¬ (8 : Int32) = 5 by decide), if_neg (show ¬ (8 : Int32) = 6 by decide), if_neg (show ¬ (8 : Int32) = 7 by decide), if_pos rfl]
      obtain ⟨a, rfl, a2, a3, a4, a5⟩ := vnum_nat hip hft (p8 rfl)
      obtain ⟨s', f1, f2⟩ := e_returns (D := D) (v := vnm (elf S) (nI a)) hB hEB (by omega)
      rw [hnw a a3 a5, cl_some, f1, cl_some]
      exact ⟨s', rfl, hEQ _ _ f2⟩
    · rw [if_neg (show ¬ ((9 : Int32).toInt < 0 ∨ 9 < (9 : Int32).toInt) by decide), if_neg (show ¬ (9 : Int32).toInt = 0 by decide), if_neg (show ¬ (9 : Int32).toInt = 1 by decide), if_neg (show ¬ (9 : Int32).toInt = 2 by decide), if_neg (show ¬ (9 : Int32).toInt = 3 by decide), if_neg (show ¬ (9 : Int32).toInt = 4 by decide), if_neg (show ¬ (9 : Int32).toInt = 5 by decide), if_neg (show ¬ (9 : Int32).toInt = 6 by decide), if_neg (show ¬ (9 : Int32).toInt = 7 by decide), if_neg (show ¬ (9 : Int32).toInt = 8 by decide), if_pos (show (9 : Int32).toInt = 9 by decide), if_neg (show ¬ (9 : Int32) = 0 by decide), if_neg (show ¬ (9 : Int32) = 1 by decide), if_neg (show ¬ (9 : Int32) = 2 by decide), if_neg (show ¬ (9 : Int32) = 3 by decide), if_neg (show ¬ (9 : Int32) = 4 by decide), if_neg (show ¬ (9 : Int32) = 5 by decide), if_neg (show ¬ (9 : Int32) = 6 by decide), if_neg (show ¬ (9 : Int32) = 7 by decide), if_neg (show ¬ (9 : Int32) = 8 by decide), if_pos rfl]
      obtain ⟨⟨wa, rfl, wa1, wa2⟩, hbf, q3⟩ := p9 rfl
      obtain ⟨c, rfl, c2, c3, c4, c5⟩ := vnum_nat hip hft q3
      have htl : tld (sB 111) Bb ↔ tld w Bb := hwB.tl
      have hB88 : sB 111 (3982 + 6) = nI (vus w S.2.1 (S.1 - 1)) := by rw [← hsB, wt_u_nk (by omega)]; exact hA88
      have hB81 : sB 111 (3975 + 6) = nI (elf S).1 := by
        have := (hB.2.2.2.2.2.2.2.2.2.2.2.2.1 (by omega)).2
        rw [hlfB] at this
        exact this
      have hB74 : sB 111 (3968 + 6) = nI (S.2.2.1 + 1) := by rw [← hsB, wt_u_self]
      unfold gX11_foreign gX11_hasSide
      rw [if_neg h5B, cl_some, if_pos (by decide), li_add, ix_nI (by omega) (by omega), hB88, q_isTold, cl_some, if_rb, c2]
      by_cases ct : tld w Bb
      · obtain ⟨f, f10, rfl, hfn, hs1⟩ := tld_nat ct
        obtain ⟨s', f1, f2⟩ := e_call (l := S.2.2.1) (k0 := c) (f := f) hB hEB f10 hs1 (by omega) (by omega) (by rw [hlfB]; exact cl) (by rw [hlfB]; exact c3) (Or.inr ⟨rfl, by rw [hlfB]; exact hKK, by rw [hlfB]; exact hBB⟩)
        rw [hlfB] at f1 f2
        rw [if_pos (htl.mpr ct), if_pos ct, hfn, li_add, ix_nI (by omega) (by omega), li_add, ix_nI (by omega) (by omega), hB81, hB74, li_mul, nI_add, li_add2, show 32 * (elf S).1 + (S.2.2.1 + 1) + 2048 = 32 * (elf S).1 + S.2.2.1 + 1 + 2048 by omega, f1, cl_some, cl_some]
        exact ⟨s', rfl, hEQ _ _ f2⟩
      · obtain ⟨s', f1, f2⟩ := hly c (3 * vnm (elf S) (nI c) + 1) c3 c5
        have h5' : s' 110 5 ≠ 0 := by rw [f2.1.1]; decide
        rw [if_neg (fun q => ct (htl.mp q)), if_neg ct, hnw c c3 c5, cl_some, f1, cl_some]
        unfold gX11_foreignOver
        rw [q_counts1 h5', cl_some, if_neg h5', cl_some, cl_some]
        exact ⟨s', rfl, f2⟩
  · rw [if_neg (by omega), if_neg cl]
    obtain ⟨s', f1, f2⟩ := e_returns (D := D) (v := 0) hA hEA (by show S.1 ≤ 2001; omega)
    rw [f1, cl_some]
    exact ⟨s', rfl, f2⟩
end
end
section
/-! ===== the endless stack: the whole run ===== -/
def ecw (w : Nat → Int32) : Nat → Int32 := fun i => if (2228 ≤ i ∧ i < 2898) ∨ i = 2050 ∨ i = 2051 then w i else 0
theorem ecw_pe {w : Nat → Int32} : vpe (ecw w) w := fun i hi => by unfold ecw; rw [if_pos hi]
theorem ecw_eq {w w' : Nat → Int32} (h : vpe w w') : ecw w' = ecw w := by
  funext i
  unfold ecw
  by_cases c : (2228 ≤ i ∧ i < 2898) ∨ i = 2050 ∨ i = 2051
  · rw [if_pos c, if_pos c, h i c]
  · rw [if_neg c, if_neg c]
def e00 : eS := (0, (fun _ => (0, 0, 0, 0, (fun _ => 0), (fun _ => none))), 0, 0, 0)
def ein (w : Nat → Int32) (f : Nat) (a : Int32) : eS := epu w e00 f 0 (if bt (w (2238 + f)) 0 then 0 else a, none)
def eru (w : Nat → Int32) : Nat → eS → Option (Int32 × Nat × Nat)
  | 0, _ => none
  | m + 1, S => match est w S with
    | .inr v => some (v, S.2.2.2.2 + 1, S.2.2.2.1)
    | .inl S' => eru w m S'
/-- result, steps, most words on an endless stack -/
def eend (w : Nat → Int32) (f a : Int32) : Option (Int32 × Nat × Nat) := eru (ecw w) 2000 (ein (ecw w) f.toInt.toNat a)
def vZ (w : Nat → Int32) (f a v : Int32) : Bool := match eend w f a with
  | some r => decide (r.1 ≠ v)
  | none => false
/-- behind the run -/
def EZ (s0 s : wt_S) (V : vV) : Option (Int32 × Nat × Nat) → Prop
  | some r => RD s0 s V r.1 r.2.1 r.2.2
  | none => s 110 5 = 1 ∧ RR (s 111) V ∧ RG s0 s ∧ s 111 (3926 + 6) = 1
section
variable {s0 s : wt_S} {V : vV} {w : Nat → Int32}
theorem e_loop {l3 : Int32} : ∀ (m k fu : Nat) (s : wt_S) (S : eS), k + m = 2000 → m < fu → RE s0 s V w S → EI w S → S.1 ≤ k + 1 → S.2.2.2.2 = k → S.2.2.2.1 ≤ 20010 → ∃ s', gX11_runsEndless_38 fu s l3 (nI k) = gX11_runsEndless_67 s' l3 ∧ EZ s0 s' V (eru w m S) := by
  intro m
  induction m with
  | zero =>
    intro k fu s S hk hfu h hE hn hst hmo
    obtain ⟨fu, rfl⟩ : ∃ m, fu = m + 1 := ⟨fu - 1, by omega⟩
    rw [gX11_runsEndless_38, nI_int (by omega), if_pos (by show (2000 : Int) ≤ _; omega)]
    exact ⟨s, rfl, h.1, h.2.1, h.2.2.1, h.2.2.2.2.2.2.2.2.2.2.2.1⟩
  | succ m ih =>
    intro k fu s S hk hfu h hE hn hst hmo
    obtain ⟨fu, rfl⟩ : ∃ m, fu = m + 1 := ⟨fu - 1, by omega⟩
    have h12 := h.2.2.2.2.2.2.2.2.2.2.2.1
    have hvu := hE.vw h.2.2.2.2.1 S.1 (Nat.le_refl _)
    obtain ⟨s1, e1, e2⟩ := e_steps (D := fun _ _ _ => none) h hE (by omega) (by omega) (by omega)
    rw [gX11_runsEndless_38, nI_int (by omega), if_neg (by show ¬ (2000 : Int) ≤ _; omega), show (6 : Int32) = nI 6 from rfl, q_isBusy (by omega), cl_some, if_rb, if_pos (Or.inl h12), e1, cl_some, nI_1]
    rw [eru]
    cases hes : est w S with
    | inl S' =>
      rw [hes] at e2
      obtain ⟨g1, g2, g3, g4, g5⟩ := e2
      exact ih (k + 1) fu s1 S' (by omega) (by omega) g1 g2 (by have g3 : S'.1 ≤ S.1 + 1 := g3; omega) (by have g5 : S'.2.2.2.2 = S.2.2.2.2 + 1 := g5; omega) (by have g4 : S'.2.2.2.1 ≤ max S.2.2.2.1 (vus w S.2.1 S.1 + 10) := g4; omega)
    | inr v =>
      rw [hes] at e2
      have e2 : RD s0 s1 V v (S.2.2.2.2 + 1) S.2.2.2.1 := e2
      obtain ⟨fu, rfl⟩ : ∃ m, fu = m + 1 := ⟨fu - 1, by omega⟩
      refine ⟨s1, ?_, e2⟩
      rw [gX11_runsEndless_38, nI_int (by omega)]
      by_cases c : (2000 : Int32).toInt ≤ ((k + 1 : Nat) : Int)
      · rw [if_pos c]
      · rw [if_neg c, show (6 : Int32) = nI 6 from rfl, q_isBusy (by omega), cl_some, if_rb, if_neg (by rw [e2.2.2.2.1]; decide)]
theorem vck_s7 {t : Nat} {w : Nat → Int32} {k : Nat} (ht : t < 7) (hk : k < 21) : vck (mj_upd w (3926 + 7 * k + t) 0) t (k + 1) = vck w t k := by
  funext i
  unfold vck
  by_cases e : i = 3926 + 7 * k + t
  · subst e
    rw [if_neg (by omega), if_pos (by omega), mj_upd_self]
  · rw [mj_upd_ne e]
    by_cases c : 3926 + 7 * (k + 1) ≤ i ∧ i < 4073 ∧ (i - 3926) % 7 = t
    · rw [if_pos c, if_pos (by omega)]
    · rw [if_neg c, if_neg (by omega)]
theorem q_clears7 : ∀ (r k n : Nat) (s : wt_S), k + r = 21 → r < n → gX11_clears_4 n s (nI 6) (nI (3926 + 7 * k)) = some ((), wt_u (wt_u (wt_uf s 111 (vck (s 111) 6 k)) 111 (3989 + 6) (-1)) 111 (3975 + 6) (-1)) := by
  intro r
  induction r with
  | zero =>
    intro k n s hk hn
    obtain ⟨m, rfl⟩ : ∃ m, n = m + 1 := ⟨n - 1, by omega⟩
    have : k = 21 := by omega
    subst this
    unfold gX11_clears_4
    rw [if_pos (by rw [nI_int (by omega)]; decide), li_add, ix_nI (by omega) (by omega), wr_eq, li_add, ix_nI (by omega) (by omega), wr_eq, vck_21, wt_uf_id]
  | succ r ih =>
    intro k n s hk hn
    obtain ⟨m, rfl⟩ : ∃ m, n = m + 1 := ⟨n - 1, by omega⟩
    unfold gX11_clears_4
    rw [if_neg (by rw [nI_int (by omega)]; show ¬ (4073 : Int) ≤ _; omega), nI_add, ix_nI (by omega) (by omega), wr_eq, li_add2, show 3926 + 7 * k + 7 = 3926 + 7 * (k + 1) by omega, ih (k + 1) m _ (by omega) (by omega)]
    simp only [u_uf, wt_uf_at, uf_uf, vck_s7 (show 6 < 7 by omega) (show k < 21 by omega)]
/-- as it begins, before the first call -/
theorem e_begin (h : RS s V) (hp : Ipr V.1) (hr : ∃ z, V.1 2051 = nI z ∧ z ≤ 80) : RE s (wt_u (wt_u (wt_u (wt_uf (wt_u s 110 5 1) 111 (vck (s 111) 6 0)) 111 (3989 + 6) (-1)) 111 (3975 + 6) (-1)) 111 (3926 + 6) 1) V (ecw V.1) e00 := by
  have hRR : RR (vck (s 111) 6 0) V := by
    refine h.2.mk' (fun i hi => ?_) (vr_P_eq (fun i h1 h2 => ?_) h.2.2.1) (fun p hp => ?_) (fun mm hm => hm)
    · unfold vck
      unfold vtr at hi
      rw [if_neg (by omega)]
      exact h.2.at hi
    · unfold vck
      rw [if_neg (by omega)]
    · unfold vck
      rw [if_neg (by omega)]
  have h0 : ∀ i, 3926 ≤ i → i < 4073 → (i - 3926) % 7 = 6 → i ≠ 3989 + 6 → i ≠ 3975 + 6 → i ≠ 3926 + 6 → (wt_u (wt_u (wt_u (wt_uf (wt_u s 110 5 1) 111 (vck (s 111) 6 0)) 111 (3989 + 6) (-1)) 111 (3975 + 6) (-1)) 111 (3926 + 6) 1) 111 i = 0 := fun i g1 g2 g3 g4 g5 g6 => by
    rw [wt_u_nk g6, wt_u_nk g5, wt_u_nk g4, wt_uf_at]
    unfold vck
    rw [if_pos (by omega)]
  obtain ⟨z, z1, z2⟩ := hr
  refine ⟨?_, ?_, ?_, ecw_pe, hp.ww ecw_pe.symm, ⟨z, ?_, z2⟩, ?_, ?_, ?_, ?_, ?_, ?_, fun e => absurd e (by decide), fun i hi => absurd hi (Nat.not_lt_zero _)⟩
  · rw [wt_u_ne (by omega), wt_u_ne (by omega), wt_u_ne (by omega), wt_uf_ne (by omega), wt_u_self]
  · rw [wt_u_at, wt_u_at, wt_u_at, wt_uf_at]
    exact ((hRR.w6 (by omega)).w6 (by omega)).w6 (by omega)
  · exact RG.trans (RG.uo (by omega)) (RG.trans (RG.uf (Or.inl rfl)) (RG.trans (RG.uf (Or.inl rfl)) (RG.trans (RG.uf (Or.inl rfl)) (RG.uf (Or.inl rfl)))))
  · rw [← ecw_pe 2051 (Or.inr (Or.inr rfl))]
    exact z1
  · exact h0 _ (by omega) (by omega) (by omega) (by omega) (by omega) (by omega)
  · exact h0 _ (by omega) (by omega) (by omega) (by omega) (by omega) (by omega)
  · exact h0 _ (by omega) (by omega) (by omega) (by omega) (by omega) (by omega)
  · exact h0 _ (by omega) (by omega) (by omega) (by omega) (by omega) (by omega)
  · exact h0 _ (by omega) (by omega) (by omega) (by omega) (by omega) (by omega)
  · rw [wt_u_self]
/-- the whole of it -/
theorem e_run {f a : Int32} (h : RS s V) (hp : Ipr V.1) (hr : ∃ z, V.1 2051 = nI z ∧ z ≤ 80) (hf : tld V.1 f) : ∃ s', gX11_runsEndless s f a = some (rb ((eend V.1 f a).isSome = true), s') ∧ RS s' V ∧ RF s s' ∧ ∀ r, eend V.1 f a = some r → s' 111 (3940 + 6) = r.1 ∧ s' 111 (3947 + 6) = nI r.2.1 ∧ s' 111 (4045 + 6) = nI r.2.2 := by
  obtain ⟨f', f10, rfl, f3, f4⟩ := tld_nat hf
  have hB := e_begin h hp hr
  have hs1 : 1 ≤ vsz (ecw V.1) f' := by rw [← (ecw_pe.sz f10).1]; exact f4
  obtain ⟨s4, c1, c2⟩ := e_calls (bk := 0) (slot := -1) (a := a) (hh := (if bt (ecw V.1 (2238 + f')) 0 then 0 else a, none)) (f := f') hB (fun e => absurd e (by decide)) f10 hs1 (Nat.zero_le _) (Nat.zero_le _) (Or.inl ⟨rfl, rfl, rfl⟩)
  have hE : EI (ecw V.1) (ein (ecw V.1) f' a) := by
    have hfr : (ein (ecw V.1) f' a).2.1 0 = eFr f' (ebk (ecw V.1) e00 f' 0) (if bt (ecw V.1 (2238 + f')) 0 then 0 else a, none) := mj_upd_self (f := e00.2.1) (k := 0)
    refine ⟨by show 1 ≤ 0 + 1; omega, fun i hi => ?_, ?_, fun i hi => ?_, fun i hi k hk hb q hq => ?_, Nat.zero_le _⟩
    · have hi : i < 0 + 1 := hi
      have : i = 0 := by omega
      subst this
      rw [hfr]
      exact ⟨f10, hs1⟩
    · rw [hfr]
      show ebk (ecw V.1) e00 f' 0 = 0 ∨ ebk (ecw V.1) e00 f' 0 = 1024
      unfold ebk
      split
      · exact Or.inr rfl
      · exact Or.inl rfl
    · have hi : i + 1 < 0 + 1 := hi
      omega
    · have hi : i < 0 + 1 := hi
      have : i = 0 := by omega
      subst this
      rw [hfr] at hq
      have hq : (if k = 0 then (none : Option (Nat × Nat)) else none) = some q := hq
      split at hq <;> cases hq
  have hmo : (ein (ecw V.1) f' a).2.2.2.1 ≤ 20010 := by
    show max 0 (vus (ecw V.1) e00.2.1 0 + vwd (ecw V.1) f') ≤ 20010
    have := (hB.2.2.2.2.1.wd f10).2
    have h0 : vus (ecw V.1) e00.2.1 0 = 0 := rfl
    omega
  obtain ⟨s5, d1, d2⟩ := e_loop (l3 := s 110 5) 2000 0 wt_N s4 (ein (ecw V.1) f' a) (by omega) (by unfold wt_N; omega) c2 hE (by show 0 + 1 ≤ 0 + 1; omega) rfl hmo
  have d2 : EZ s s5 V (eend V.1 (nI f') a) := by unfold eend; rw [f3]; exact d2
  have hcl : gX11_clears (wt_u s 110 5 1) 6 = some ((), wt_u (wt_u (wt_uf (wt_u s 110 5 1) 111 (vck (s 111) 6 0)) 111 (3989 + 6) (-1)) 111 (3975 + 6) (-1)) := by
    have := q_clears7 21 0 wt_N (wt_u s 110 5 1) rfl (by unfold wt_N; omega)
    rw [wt_u_ne (show (111 : Nat) ≠ 110 by omega)] at this
    exact this
  have h5 : s 110 5 = 0 := h.1
  unfold gX11_runsEndless
  rw [wr_eq, hcl, cl_some, wr_eq]
  have c1 : gX11_calls (wt_u (wt_u (wt_u (wt_uf (wt_u s 110 5 1) 111 (vck (s 111) 6 0)) 111 (3989 + 6) (-1)) 111 (3975 + 6) (-1)) 111 3932 1) 6 (nI f') 0 (-1) a = some ((), s4) := c1
  have d1 : gX11_runsEndless_38 wt_N s4 (s 110 5) 0 = gX11_runsEndless_67 s5 (s 110 5) := d1
  rw [c1, cl_some, d1, h5]
  unfold gX11_runsEndless_67 wt_rz
  rw [if_pos (Or.inl rfl), wr_eq]
  have hst : ∀ X, (wt_u s5 110 5 0) 111 X = s5 111 X := fun X => by rw [wt_u_ne (by omega)]
  have hfin : RR (s5 111) V → RG s s5 → RS (wt_u s5 110 5 0) V ∧ RF s (wt_u s5 110 5 0) := fun g1 g2 => by
    refine ⟨⟨wt_u_self, by rw [wt_u_ne (by omega)]; exact g1⟩, ⟨fun c hc => (wt_u_ne (by omega)).trans (g2.1 c hc), (wt_u_ne (by omega)).trans g2.2.1, (wt_u_ne (by omega)).trans g2.2.2.1, ?_, ?_⟩⟩
    · rw [wt_u_nk (by omega)]; exact g2.2.2.2
    · rw [wt_u_self, h5]
  cases hr2 : eend V.1 (nI f') a with
  | none =>
    rw [hr2] at d2
    obtain ⟨g1, g2, g3, g4⟩ := d2
    obtain ⟨r1, r2⟩ := hfin g2 g3
    refine ⟨_, ?_, r1, r2, fun r e => by cases e⟩
    rw [if_pos (by rw [hst]; show s5 111 (3926 + 6) ≠ 3; rw [g4]; decide), rb_neg (by simp)]
  | some r =>
    rw [hr2] at d2
    obtain ⟨g1, g2, g3, g4, g5, g6, g7⟩ := d2
    obtain ⟨r1, r2⟩ := hfin g2 g3
    refine ⟨_, ?_, r1, r2, fun r' e => ?_⟩
    · rw [if_neg (by rw [hst]; show ¬ s5 111 (3926 + 6) ≠ 3; rw [g4]; simp), rb_pos (by simp)]
    · cases e
      rw [hst, hst, hst]
      exact ⟨g5, g6, g7⟩
end
theorem hd_all : HD gX11_runsEndless vZ := by
  refine ⟨fun s V f a h hp hr hf => ?_, fun w w' f a v _ hpe => ?_⟩
  · obtain ⟨s', e1, e2, e3, e4⟩ := e_run (a := a) h hp hr hf
    refine ⟨_, s', e1, e2, e3, fun v => ?_⟩
    unfold vZ
    cases hr2 : eend V.1 f a with
    | none =>
      rw [rb_neg (by simp)]
      simp
    | some r =>
      have := (e4 r hr2).1
      rw [rb_pos (by simp), show (3946 : Nat) = 3940 + 6 from rfl, this]
      simp
  · unfold vZ eend
    rw [ecw_eq hpe]
end
section
/-! ===== questions to the reference: they answer, and nothing that is changes ===== -/
def Ok {α : Type} (P : α → wt_S → Prop) (x : Option (α × wt_S)) : Prop := ∃ r s', x = some (r, s') ∧ P r s'
theorem ok_some {α : Type} {P : α → wt_S → Prop} {r : α} {s : wt_S} (h : P r s) : Ok P (some (r, s)) := ⟨r, s, rfl, h⟩
theorem ok_if {α : Type} {P : α → wt_S → Prop} {c : Prop} [Decidable c] {x y : Option (α × wt_S)} (h1 : c → Ok P x) (h2 : ¬ c → Ok P y) : Ok P (if c then x else y) := by
  by_cases h : c
  · rw [if_pos h]; exact h1 h
  · rw [if_neg h]; exact h2 h
theorem ok_ix {α : Type} {P : α → wt_S → Prop} {i : Int32} {n : Nat} {F : Nat → Option (α × wt_S)} (h1 : 0 ≤ i.toInt) (h2 : i.toInt < n) (h : ∀ k, k < n → i.toInt = k → Ok P (F k)) : Ok P (wt_ix i n F) := by
  unfold wt_ix
  rw [if_pos ⟨h1, h2⟩]
  exact h _ (by omega) (by omega)
theorem ok_cl {α β : Type} {P : α → wt_S → Prop} {Q : β → wt_S → Prop} {x : Option (β × wt_S)} {F : β → wt_S → Option (α × wt_S)} (h1 : Ok Q x) (h2 : ∀ r s, Q r s → Ok P (F r s)) : Ok P (wt_cl x F) := by
  obtain ⟨r, s, e, hq⟩ := h1
  rw [e]
  exact h2 r s hq
theorem ok_wr {α : Type} {P : α → wt_S → Prop} {s : wt_S} {a k : Nat} {v : Int32} {F : wt_S → Option (α × wt_S)} (h : Ok P (F (wt_u s a k v))) : Ok P (wt_wr s a k v F) := h
theorem ok_im {α : Type} {P Q : α → wt_S → Prop} {x : Option (α × wt_S)} (h : Ok P x) (hi : ∀ r s, P r s → Q r s) : Ok Q x := by
  obtain ⟨r, s, e, hp⟩ := h
  exact ⟨r, s, e, hi r s hp⟩
def RO (s s' : wt_S) : Prop := RF s s' ∧ s' 111 = s 111
theorem RO.refl {s : wt_S} : RO s s := ⟨RF.refl, rfl⟩
theorem RO.trans {s s1 s2 : wt_S} (h : RO s s1) (h' : RO s1 s2) : RO s s2 := ⟨h.1.trans h'.1, h'.2.trans h.2⟩
theorem RO.uo {s : wt_S} {k : Nat} {v : Int32} (hk : k ≠ 4) (hk5 : k ≠ 5) : RO s (wt_u s 110 k v) := ⟨RF.uo hk hk5, wt_u_ne (by omega)⟩
theorem RO.u8 {s : wt_S} {k : Nat} {v : Int32} : RO s (wt_u s 118 k v) := ⟨RF.uf (Or.inr (by omega)), wt_u_ne (by omega)⟩
theorem RS.ro {s s' : wt_S} {V : vV} (h : RS s V) (h' : RO s s') : RS s' V := h.of h'.1 h'.2
section
variable {s : wt_S} {V : vV} {t B : Nat}
/-- how many pieces, how many words a task has -/
def vcp (t : Nat) (ps : List vP) : Nat := (ps.filter (fun q => decide (q.2.2.1 = t))).length
def vcw (t : Nat) : List vP → Nat
  | [] => 0
  | q :: ps => (if q.2.2.1 = t then q.2.1 else 0) + vcw t ps
theorem q_piecesOf (h : vr_P (s 111) V.2.1) (ho : vo 2048 V.2.1) (ht : t < 6) : gX11_piecesOf s (nI t) = some (nI (vcp t V.2.1), s) := by
  have loop : ∀ (qs : List vP) (k fu c : Nat), V.2.1.drop k = qs → qs.length < fu → k + qs.length = V.2.1.length → gX11_piecesOf_4 fu s (nI t) (nI c) (nI k) = some (nI (c + vcp t qs), s) := by
    intro qs
    have hl := h.2.1
    induction qs with
    | nil =>
      intro k fu c hd hfu hk
      have hk : k + 0 = V.2.1.length := hk
      obtain ⟨fu, rfl⟩ : ∃ m, fu = m + 1 := ⟨fu - 1, by omega⟩
      rw [gX11_piecesOf_4, h.1, nI_int (by omega), nI_int (by omega), if_pos (by omega)]
      rfl
    | cons q qs ih =>
      intro k fu c hd hfu hk
      have hk : k + (qs.length + 1) = V.2.1.length := hk
      obtain ⟨fu, rfl⟩ : ∃ m, fu = m + 1 := ⟨fu - 1, by omega⟩
      obtain ⟨d1, d2, d3⟩ := drop_cons hd
      have hq : q ∈ V.2.1 := List.mem_of_getElem? d1
      have hq6 := (ho.2 q hq).2.2.1
      have hfu : qs.length + 1 < fu + 1 := hfu
      rw [gX11_piecesOf_4, h.1, nI_int (by omega), nI_int (by omega), if_neg (by omega), li_add, ix_nI (by omega) (by omega), (h.2.2 k q d1).2.2.1]
      unfold gX11_piecesOf_36
      by_cases e : q.2.2.1 = t
      · have hc : vcp t (q :: qs) = 1 + vcp t qs := by unfold vcp; rw [List.filter_cons_of_pos (by simp [e]), List.length_cons, Nat.add_comm]
        rw [if_neg (by rw [e]; simp), nI_1, nI_1, ih (k + 1) fu (c + 1) d2 (by omega) (by omega), hc, Nat.add_assoc]
      · have hc : vcp t (q :: qs) = vcp t qs := by unfold vcp; rw [List.filter_cons_of_neg (by simp [e])]
        rw [if_pos (fun x => e ((nI_inj (by omega) (by omega)).mp x)), Int32.add_zero, nI_1, ih (k + 1) fu c d2 (by omega) (by omega), hc]
  have := loop V.2.1 0 wt_N 0 rfl (by have := h.2.1; unfold wt_N; omega) (by omega)
  rw [Nat.zero_add] at this
  exact this
theorem vcw_le : ∀ {ps : List vP}, vcw t ps ≤ vall ps := by
  intro ps
  induction ps with
  | nil => exact Nat.le_refl _
  | cons q ps ih =>
    show (if q.2.2.1 = t then q.2.1 else 0) + vcw t ps ≤ q.2.1 + vall ps
    split <;> omega
theorem q_wordsOf (h : vr_P (s 111) V.2.1) (ho : vo 2048 V.2.1) (ht : t < 6) : gX11_wordsOf s (nI t) = some (nI (vcw t V.2.1), s) := by
  have loop : ∀ (qs : List vP) (k fu c : Nat), V.2.1.drop k = qs → qs.length < fu → k + qs.length = V.2.1.length → gX11_wordsOf_4 fu s (nI t) (nI c) (nI k) = some (nI (c + vcw t qs), s) := by
    intro qs
    have hl := h.2.1
    induction qs with
    | nil =>
      intro k fu c hd hfu hk
      have hk : k + 0 = V.2.1.length := hk
      obtain ⟨fu, rfl⟩ : ∃ m, fu = m + 1 := ⟨fu - 1, by omega⟩
      rw [gX11_wordsOf_4, h.1, nI_int (by omega), nI_int (by omega), if_pos (by omega)]
      rfl
    | cons q qs ih =>
      intro k fu c hd hfu hk
      have hk : k + (qs.length + 1) = V.2.1.length := hk
      obtain ⟨fu, rfl⟩ : ∃ m, fu = m + 1 := ⟨fu - 1, by omega⟩
      obtain ⟨d1, d2, d3⟩ := drop_cons hd
      have hq : q ∈ V.2.1 := List.mem_of_getElem? d1
      have hq6 := (ho.2 q hq).2.2.1
      have hfu : qs.length + 1 < fu + 1 := hfu
      rw [gX11_wordsOf_4, h.1, nI_int (by omega), nI_int (by omega), if_neg (by omega), li_add, ix_nI (by omega) (by omega), (h.2.2 k q d1).2.2.1, li_add, ix_nI (by omega) (by omega), (h.2.2 k q d1).2.1]
      unfold gX11_wordsOf_45
      by_cases e : q.2.2.1 = t
      · have hc : vcw t (q :: qs) = q.2.1 + vcw t qs := by rw [vcw, if_pos e]
        rw [if_neg (by rw [e]; simp), nI_add, nI_1, ih (k + 1) fu (c + q.2.1) d2 (by omega) (by omega), hc, Nat.add_assoc]
      · have hc : vcw t (q :: qs) = vcw t qs := by rw [vcw, if_neg e, Nat.zero_add]
        rw [if_pos (fun x => e ((nI_inj (by omega) (by omega)).mp x)), Int32.add_zero, nI_1, ih (k + 1) fu c d2 (by omega) (by omega), hc]
  have := loop V.2.1 0 wt_N 0 rfl (by have := h.2.1; unfold wt_N; omega) (by omega)
  rw [Nat.zero_add] at this
  exact this
theorem ok_rd {c : Nat} (ht : t < 7) (hc : (@OfNat.ofNat Nat c (instOfNatNat c)) ≤ 4066) : Ok (fun _ s' => RO s s') (wt_ix ((@OfNat.ofNat Int32 c Int32.instOfNat) + nI t) 4073 fun k => some (s 111 k, s)) := by
  rw [li_add, ix_nI (by omega) (by omega)]
  exact ok_some RO.refl
theorem k_task {x what : Int32} (h : RS s V) (hI : VI 2048 B V) : Ok (fun _ s' => RO s s') (gX11_task s x what) := by
  have ho := hI.J.2.1
  unfold gX11_task
  rw [q_isTask, cl_some, if_rbn]
  refine ok_if (fun c1 => ?_) (fun _ => ok_some RO.refl)
  obtain ⟨t, ht, rfl, etn⟩ := i_task c1
  refine ok_if (fun _ => ok_some RO.refl) (fun c2 => ?_)
  refine ok_if (fun _ => ok_rd (by omega) (by omega)) (fun _ => ?_)
  refine ok_if (fun _ => ok_rd (by omega) (by omega)) (fun _ => ?_)
  refine ok_if (fun _ => ok_rd (by omega) (by omega)) (fun _ => ?_)
  refine ok_if (fun _ => ok_rd (by omega) (by omega)) (fun _ => ?_)
  refine ok_if (fun _ => ok_rd (by omega) (by omega)) (fun _ => ?_)
  refine ok_if (fun _ => ok_rd (by omega) (by omega)) (fun _ => ?_)
  refine ok_if (fun _ => by rw [q_piecesOf h.2.2.1 ho ht, cl_some]; exact ok_some RO.refl) (fun _ => ?_)
  refine ok_if (fun _ => by rw [q_wordsOf h.2.2.1 ho ht, cl_some]; exact ok_some RO.refl) (fun _ => ?_)
  refine ok_if (fun _ => ok_rd (by omega) (by omega)) (fun _ => ?_)
  refine ok_if (fun _ => ok_rd (by omega) (by omega)) (fun _ => ?_)
  refine ok_if (fun _ => ok_rd (by omega) (by omega)) (fun _ => ?_)
  refine ok_if (fun _ => by
    rw [q_busy h ht, cl_some]
    exact ok_if (fun _ => ok_some RO.refl) (fun _ => ok_rd (by omega) (by omega))) (fun _ => ?_)
  refine ok_if (fun _ => ok_rd (by omega) (by omega)) (fun _ => ?_)
  refine ok_if (fun _ => ok_rd (by omega) (by omega)) (fun _ => ?_)
  refine ok_if (fun _ => ok_rd (by omega) (by omega)) (fun _ => ?_)
  refine ok_if (fun _ => ok_rd (by omega) (by omega)) (fun _ => ?_)
  refine ok_if (fun _ => ok_rd (by omega) (by omega)) (fun _ => ?_)
  refine ok_if (fun _ => ok_rd (by omega) (by omega)) (fun _ => ?_)
  refine ok_if (fun _ => ok_rd (by omega) (by omega)) (fun _ => ?_)
  exfalso
  omega
theorem k_count {x : Int32} : Ok (fun _ s' => RO s s') (gX11_count s x) := by
  unfold gX11_count
  rw [q_isIn, cl_some, if_rb]
  refine ok_if (fun c1 => ?_) (fun _ => ok_some RO.refl)
  obtain ⟨n, n1, rfl, n3, n4⟩ := i_nat (x := x) c1.1
  have c2 : (nI n).toInt ≤ 11 := c1.2
  rw [li_add, ix_nI (by omega) (by omega)]
  exact ok_some RO.refl
theorem k_deep {x : Int32} (h : RS s V) (hI : VI 2048 B V) : Ok (fun _ s' => RO s s') (gX11_deep s x) := by
  unfold gX11_deep
  rw [q_isTold, cl_some, if_rb]
  refine ok_if (fun c1 => ?_) (fun _ => ok_some RO.refl)
  obtain ⟨f, f10, rfl, f3, f4⟩ := tld_nat c1
  rw [q_deepOf (hI.2.1.ww h.prog) f10, cl_some]
  exact ok_some RO.refl
theorem k_need {x : Int32} (h : RS s V) (hI : VI 2048 B V) : Ok (fun _ s' => RO s s') (gX11_need s x) := by
  unfold gX11_need
  rw [q_isTold, cl_some, if_rb]
  refine ok_if (fun c1 => ?_) (fun _ => ok_some RO.refl)
  obtain ⟨f, f10, rfl, f3, f4⟩ := tld_nat c1
  obtain ⟨z, z1, z2, z3⟩ := hI.1.2.2.2.1
  rw [(q_need h hI.2.1 f10 z1 (by omega)).1, cl_some]
  exact ok_some RO.refl
theorem k_log {i what : Int32} (h : RS s V) (hI : VI 2048 B V) (hB : B < 2147483000) : Ok (fun _ s' => RO s s') (gX11_log s i what) := by
  obtain ⟨k, k1, k2⟩ := hI.2.2.2.2.1
  have h67 : s 111 2067 = nI k := by rw [h.se (by omega)]; exact k2
  have h26 : ∀ z, z ≤ 40 → Ok (fun _ s' => RO s s') (gX11_log_26 s i what (nI z)) := fun z hz => by
    unfold gX11_log_26
    rw [q_isIn, cl_some, if_rb]
    refine ok_if (fun c1 => ?_) (fun _ => ok_some RO.refl)
    rw [q_isIn, cl_some, if_rb]
    refine ok_if (fun c2 => ?_) (fun _ => ok_some RO.refl)
    obtain ⟨n, n1, rfl, n3, n4⟩ := i_nat (x := i) c1.1
    obtain ⟨m, m1, rfl, m3, m4⟩ := i_nat (x := what) c2.1
    have d2 : (nI m).toInt ≤ 3 := c2.2
    have d1 := c1.2
    by_cases e : z = 0
    · subst e
      have : (nI 0 - 1).toInt = -1 := by decide
      omega
    · rw [li_sub (by omega), n4] at d1
      rw [nI_int (by omega)] at d1
      rw [li_sub (by omega), nI_sub (by omega), li_mul, li_add, nI_add, ix_nI (by omega) (by omega)]
      exact ok_some RO.refl
  unfold gX11_log
  rw [h67, nI_int (by omega)]
  refine ok_if (fun _ => h26 40 (by omega)) (fun c => ?_)
  have c : ¬ (40 : Int) ≤ (k : Int) := c
  exact h26 k (by omega)
theorem k_gap_8 {l1 l2 : Int32} (h : vr_P (s 111) V.2.1) : ∀ (m k fu : Nat) (l3 l4 : Int32), k + m = V.2.1.length + 1 → m < fu → ∃ v, gX11_gap_8 fu s l1 l2 l3 l4 (nI k) = some (v, s) := by
  have hl := h.2.1
  intro m
  induction m with
  | zero =>
    intro k fu l3 l4 hk hfu
    obtain ⟨fu, rfl⟩ : ∃ m, fu = m + 1 := ⟨fu - 1, by omega⟩
    rw [gX11_gap_8, h.1, nI_int (by omega), nI_int (by omega), if_pos (by omega)]
    split
    · exact ⟨_, rfl⟩
    · exact ⟨_, rfl⟩
  | succ m ih =>
    intro k fu l3 l4 hk hfu
    obtain ⟨fu, rfl⟩ : ∃ m, fu = m + 1 := ⟨fu - 1, by omega⟩
    have h92 : ∀ l3 l4 l6 : Int32, ∃ v, gX11_gap_92 (gX11_gap_8 fu) s l1 l2 l3 l4 (nI k) l6 = some (v, s) := by
      intro l3 l4 l6
      unfold gX11_gap_92
      rw [h.1, nI_int (by omega), nI_int (by omega), nI_1]
      split
      · exact ih (k + 1) fu _ _ (by omega) (by omega)
      · rw [li_add, ix_nI (by omega) (by omega)]
        exact ih (k + 1) fu _ _ (by omega) (by omega)
    have h51 : ∀ z0 : Int32, ∃ v, gX11_gap_51 (gX11_gap_8 fu) s l1 l2 l3 l4 (nI k) z0 = some (v, s) := by
      intro z0
      unfold gX11_gap_51
      split
      · exact h92 _ _ _
      split
      · exact h92 _ _ _
      split
      · split
        · exact ⟨_, rfl⟩
        · exact ⟨_, rfl⟩
      · exact ⟨_, rfl⟩
    rw [gX11_gap_8, h.1, nI_int (by omega), nI_int (by omega), if_neg (by omega)]
    split
    · exact h51 _
    · rw [li_add, ix_nI (by omega) (by omega)]
      exact h51 _
theorem k_gap {i what : Int32} (h : vr_P (s 111) V.2.1) : ∃ v, gX11_gap s i what = some (v, s) := k_gap_8 h (V.2.1.length + 1) 0 wt_N 0 0 (by omega) (by have := h.2.1; unfold wt_N; omega)
/-- how many there are -/
theorem k_gapN_8 {l2 : Int32} (h : vr_P (s 111) V.2.1) : ∀ (m k fu j : Nat) (l4 : Int32), k + m = V.2.1.length + 1 → m < fu → j ≤ k → ∃ j', j' ≤ 257 ∧ gX11_gap_8 fu s (-1) l2 (nI j) l4 (nI k) = some (nI j', s) := by
  have hl := h.2.1
  intro m
  induction m with
  | zero =>
    intro k fu j l4 hk hfu hj
    obtain ⟨fu, rfl⟩ : ∃ m, fu = m + 1 := ⟨fu - 1, by omega⟩
    rw [gX11_gap_8, h.1, nI_int (by omega), nI_int (by omega), if_pos (by omega), if_neg (by simp)]
    exact ⟨j, by omega, rfl⟩
  | succ m ih =>
    intro k fu j l4 hk hfu hj
    obtain ⟨fu, rfl⟩ : ∃ m, fu = m + 1 := ⟨fu - 1, by omega⟩
    have h92 : ∀ (j : Nat) (l4 l6 : Int32), j ≤ k + 1 → ∃ j', j' ≤ 257 ∧ gX11_gap_92 (gX11_gap_8 fu) s (-1) l2 (nI j) l4 (nI k) l6 = some (nI j', s) := by
      intro j l4 l6 hj
      unfold gX11_gap_92
      rw [h.1, nI_int (by omega), nI_int (by omega), nI_1]
      split
      · exact ih (k + 1) fu j _ (by omega) (by omega) hj
      · rw [li_add, ix_nI (by omega) (by omega)]
        exact ih (k + 1) fu j _ (by omega) (by omega) hj
    have h51 : ∀ z0 : Int32, ∃ j', j' ≤ 257 ∧ gX11_gap_51 (gX11_gap_8 fu) s (-1) l2 (nI j) l4 (nI k) z0 = some (nI j', s) := by
      intro z0
      unfold gX11_gap_51
      split
      · exact h92 _ _ _ (by omega)
      · rw [if_pos (nI_m1 (by omega)), nI_1]
        exact h92 _ _ _ (by omega)
    rw [gX11_gap_8, h.1, nI_int (by omega), nI_int (by omega), if_neg (by omega)]
    split
    · exact h51 _
    · rw [li_add, ix_nI (by omega) (by omega)]
      exact h51 _
theorem k_greatest (h : vr_P (s 111) V.2.1) : ∃ v, gX11_greatestGap s = some (v, s) := by
  obtain ⟨j', hj, e⟩ := k_gapN_8 (l2 := 0) h (V.2.1.length + 1) 0 wt_N 0 0 (by omega) (by have := h.2.1; unfold wt_N; omega) (by omega)
  have e : gX11_gap s (-1) 0 = some (nI j', s) := e
  have loop : ∀ (m k fu : Nat) (l1 : Int32), (k + m = j' ∨ m = 0 ∧ j' ≤ k) → m < fu → k ≤ 1000 → ∃ v, gX11_greatestGap_4 fu s l1 (nI k) = some (v, s) := by
    intro m
    induction m with
    | zero =>
      intro k fu l1 hk hfu hkb
      obtain ⟨fu, rfl⟩ : ∃ m, fu = m + 1 := ⟨fu - 1, by omega⟩
      rw [gX11_greatestGap_4, e, cl_some, nI_int (by omega), nI_int (by omega), if_pos (by omega)]
      exact ⟨_, rfl⟩
    | succ m ih =>
      intro k fu l1 hk hfu hkb
      obtain ⟨fu, rfl⟩ : ∃ m, fu = m + 1 := ⟨fu - 1, by omega⟩
      obtain ⟨v, ev⟩ := k_gap (i := nI k) (what := 1) h
      rw [gX11_greatestGap_4, e, cl_some, nI_int (by omega), nI_int (by omega), if_neg (by omega), ev, cl_some, ev, cl_some]
      unfold gX11_greatestGap_34
      rw [nI_1]
      split
      · exact ih (k + 1) fu _ (by omega) (by omega) (by omega)
      · exact ih (k + 1) fu _ (by omega) (by omega) (by omega)
  exact loop j' 0 wt_N 0 (by omega) (by unfold wt_N; omega) (by omega)
theorem k_look {what : Int32} (h : RS s V) : Ok (fun _ s' => RO s s') (gX11_look s what) := by
  have hP := h.2.2.1
  have hl := hP.2.1
  have h74 : ∀ (m k fu : Nat) (l2 : Int32), k + m = V.2.1.length → m < fu → ∃ v, gX11_look_74 fu s l2 (nI k) = some (v, s) := by
    intro m
    induction m with
    | zero =>
      intro k fu l2 hk hfu
      obtain ⟨fu, rfl⟩ : ∃ m, fu = m + 1 := ⟨fu - 1, by omega⟩
      rw [gX11_look_74, hP.1, nI_int (by omega), nI_int (by omega), if_pos (by omega)]
      exact ⟨_, rfl⟩
    | succ m ih =>
      intro k fu l2 hk hfu
      obtain ⟨fu, rfl⟩ : ∃ m, fu = m + 1 := ⟨fu - 1, by omega⟩
      rw [gX11_look_74, hP.1, nI_int (by omega), nI_int (by omega), if_neg (by omega), li_add, ix_nI (by omega) (by omega), nI_1]
      exact ih (k + 1) fu _ (by omega) (by omega)
  have h123 : ∀ (m k fu : Nat) (l2 : Int32), k + m = 3 → m < fu → ∃ v, gX11_look_123 fu s l2 (nI k) = some (v, s) := by
    intro m
    induction m with
    | zero =>
      intro k fu l2 hk hfu
      obtain ⟨fu, rfl⟩ : ∃ m, fu = m + 1 := ⟨fu - 1, by omega⟩
      rw [gX11_look_123, nI_int (by omega), if_pos (by show (3 : Int) ≤ _; omega)]
      exact ⟨_, rfl⟩
    | succ m ih =>
      intro k fu l2 hk hfu
      obtain ⟨fu, rfl⟩ : ∃ m, fu = m + 1 := ⟨fu - 1, by omega⟩
      rw [gX11_look_123, nI_int (by omega), if_neg (by show ¬ (3 : Int) ≤ _; omega), li_add, ix_nI (by omega) (by omega)]
      unfold gX11_look_148
      rw [nI_1]
      split
      · exact ih (k + 1) fu _ (by omega) (by omega)
      · exact ih (k + 1) fu _ (by omega) (by omega)
  have hst : ∀ x : Int32, ∃ v, gX11_statesOf s x = some (v, s) := by
    intro x
    have loop : ∀ (m k fu : Nat) (l2 : Int32), k + m = 6 → m < fu → ∃ v, gX11_statesOf_4 fu s x l2 (nI k) = some (v, s) := by
      intro m
      induction m with
      | zero =>
        intro k fu l2 hk hfu
        obtain ⟨fu, rfl⟩ : ∃ m, fu = m + 1 := ⟨fu - 1, by omega⟩
        rw [gX11_statesOf_4, nI_int (by omega), if_pos (by show (6 : Int) ≤ _; omega)]
        exact ⟨_, rfl⟩
      | succ m ih =>
        intro k fu l2 hk hfu
        obtain ⟨fu, rfl⟩ : ∃ m, fu = m + 1 := ⟨fu - 1, by omega⟩
        rw [gX11_statesOf_4, nI_int (by omega), if_neg (by show ¬ (6 : Int) ≤ _; omega), li_add, ix_nI (by omega) (by omega)]
        unfold gX11_statesOf_30
        rw [nI_1]
        split
        · exact ih (k + 1) fu _ (by omega) (by omega)
        · exact ih (k + 1) fu _ (by omega) (by omega)
    exact loop 6 0 wt_N 0 (by omega) (by unfold wt_N; omega)
  have htd : ∀ x : Int32, ∃ v, gX11_told s x = some (v, s) := by
    intro x
    have loop : ∀ (m k fu : Nat) (l2 : Int32), k + m = 10 → m < fu → ∃ v, gX11_told_4 fu s x l2 (nI k) = some (v, s) := by
      intro m
      induction m with
      | zero =>
        intro k fu l2 hk hfu
        obtain ⟨fu, rfl⟩ : ∃ m, fu = m + 1 := ⟨fu - 1, by omega⟩
        rw [gX11_told_4, nI_int (by omega), if_pos (by show (10 : Int) ≤ _; omega)]
        exact ⟨_, rfl⟩
      | succ m ih =>
        intro k fu l2 hk hfu
        obtain ⟨fu, rfl⟩ : ∃ m, fu = m + 1 := ⟨fu - 1, by omega⟩
        rw [gX11_told_4, nI_int (by omega), if_neg (by show ¬ (10 : Int) ≤ _; omega), q_isTold, cl_some]
        unfold gX11_told_37
        rw [nI_1]
        split
        · exact ih (k + 1) fu _ (by omega) (by omega)
        split
        · exact ih (k + 1) fu _ (by omega) (by omega)
        · rw [li_add, ix_nI (by omega) (by omega)]
          exact ih (k + 1) fu _ (by omega) (by omega)
    exact loop 10 0 wt_N 0 (by omega) (by unfold wt_N; omega)
  have hw : ∀ x : Option (Int32 × wt_S), (∃ v, x = some (v, s)) → Ok (fun _ s' => RO s s') x := fun x ⟨v, e⟩ => ⟨v, s, e, RO.refl⟩
  have hw2 : ∀ x : Option (Int32 × wt_S), (∃ v, x = some (v, s)) → Ok (fun _ s' => RO s s') (wt_cl x fun v s' => some (v, s')) := fun x ⟨v, e⟩ => by rw [e, cl_some]; exact ok_some RO.refl
  unfold gX11_look
  rw [q_isIn, cl_some, if_rb]
  refine ok_if (fun c1 => ?_) (fun c1 => ?_)
  · obtain ⟨n, n1, rfl, n3, n4⟩ := i_nat (x := what) c1.1
    have c2 : (nI n).toInt ≤ 5 := c1.2
    rw [li_add, ix_nI (by omega) (by omega)]
    exact ok_some RO.refl
  refine ok_if (fun _ => ok_some RO.refl) (fun c2 => ?_)
  refine ok_if (fun _ => hw _ (h74 V.2.1.length 0 wt_N 0 (by omega) (by unfold wt_N; omega))) (fun _ => ?_)
  refine ok_if (fun _ => ok_some RO.refl) (fun _ => ?_)
  refine ok_if (fun _ => hw2 _ (k_greatest hP)) (fun _ => ?_)
  refine ok_if (fun _ => hw _ (h123 3 0 wt_N 0 (by omega) (by unfold wt_N; omega))) (fun _ => ?_)
  refine ok_if (fun _ => hw2 _ (hst 1)) (fun _ => ?_)
  refine ok_if (fun _ => hw2 _ (hst 2)) (fun _ => ?_)
  refine ok_if (fun _ => hw2 _ (htd 0)) (fun _ => ?_)
  refine ok_if (fun _ => hw2 _ (htd 1)) (fun _ => ?_)
  refine ok_if (fun _ => ok_some RO.refl) (fun _ => ?_)
  exfalso
  omega
theorem k_endless {f a what : Int32} (h : RS s V) (hI : VI 2048 B V) : Ok (fun _ s' => RS s' V ∧ RF s s') (gX11_endless s f a what) := by
  unfold gX11_endless gX11_endless_26
  rw [q_isTold, cl_some, if_rb]
  refine ok_if (fun c1 => ?_) (fun _ => ok_some ⟨h, RF.refl⟩)
  rw [q_isIn, cl_some, if_rb]
  refine ok_if (fun c2 => ?_) (fun _ => ok_some ⟨h, RF.refl⟩)
  obtain ⟨z, z1, z2, z3⟩ := hI.1.2.2.2.1
  obtain ⟨s', e1, e2, e3, -⟩ := e_run (a := a) h hI.2.1 ⟨z, z1, z3⟩ (h.prog.tl.mp c1)
  rw [e1, cl_some]
  refine ok_if (fun _ => ok_if (fun _ => ok_if (fun _ => ok_some ⟨e2, e3⟩) (fun _ => ok_some ⟨e2, e3⟩)) (fun _ => ok_some ⟨e2, e3⟩)) (fun _ => ok_some ⟨e2, e3⟩)
end
end
section
/-! ===== the reference: over the frames of a task ===== -/
theorem vidx {lim : Nat} {ps : List vP} (ho : vo lim ps) {x y : Nat} {q : vP} (hx : ps[x]? = some q) (hy : ps[y]? = some q) : x = y := by
  obtain ⟨x1, x2⟩ := List.getElem?_eq_some_iff.mp hx
  obtain ⟨y1, y2⟩ := List.getElem?_eq_some_iff.mp hy
  have hq := (ho.2 q (List.mem_of_getElem? hx)).1
  rcases Nat.lt_trichotomy x y with c | c | c
  · have := List.pairwise_iff_getElem.mp ho.1 x y x1 y1 c
    rw [x2, y2] at this
    omega
  · exact c
  · have := List.pairwise_iff_getElem.mp ho.1 y x y1 x1 c
    rw [x2, y2] at this
    omega
theorem vdisj2 {lim : Nat} {ps : List vP} (ho : vo lim ps) {p q : vP} (hp : p ∈ ps) (hq : q ∈ ps) : p = q ∨ p.1 + p.2.1 ≤ q.1 ∨ q.1 + q.2.1 ≤ p.1 := by
  obtain ⟨x, x1, x2⟩ := List.getElem_of_mem hp
  obtain ⟨y, y1, y2⟩ := List.getElem_of_mem hq
  rcases Nat.lt_trichotomy x y with c | c | c
  · have := List.pairwise_iff_getElem.mp ho.1 x y x1 y1 c
    rw [x2, y2] at this
    exact Or.inr (Or.inl this)
  · subst c
    exact Or.inl (x2.symm.trans y2)
  · have := List.pairwise_iff_getElem.mp ho.1 y x y1 x1 c
    rw [x2, y2] at this
    exact Or.inr (Or.inr this)
theorem vfi_in {lim : Nat} {ps : List vP} (ho : vo lim ps) {q : vP} (hq : q ∈ ps) {p : Nat} (h1 : q.1 ≤ p) (h2 : p < q.1 + q.2.1) : ∃ x, vfi (vhas p) ps 0 = some x ∧ ps[x]? = some q ∧ x < ps.length := by
  cases e : vfi (vhas p) ps 0 with
  | none =>
    have := vfi_none e q hq
    unfold vhas at this
    rw [decide_eq_false_iff_not] at this
    exact absurd ⟨h1, h2⟩ this
  | some x =>
    obtain ⟨q', a1, a2, a3⟩ := vfi_spec e
    rw [Nat.sub_zero] at a2
    unfold vhas at a3
    rw [decide_eq_true_iff] at a3
    have hq' : q' ∈ ps := List.mem_of_getElem? a2
    have : q' = q := by
      rcases vdisj2 ho hq' hq with c | c | c
      · exact c
      · omega
      · omega
    subst this
    exact ⟨x, rfl, a2, (List.getElem?_eq_some_iff.mp a2).1⟩
section
variable {s : wt_S} {V : vV} {t B : Nat}
theorem q_goesBack {j : Nat} (h : RS s V) (hj : VJ 2048 V) (ht : t < 6) (hi : j + 1 < V.2.2.1 t) (h1 : s 110 11 = nI (vpl V t (j + 1))) : ∃ s', gX11_goesBack s = some ((), s') ∧ RO s s' ∧ s' 110 11 = nI (vpl V t j) ∧ s' 110 12 = nI (V.2.2.2 t j).1 ∧ s' 110 13 = nI ((V.2.2.2 t (j + 1)).2.2.2.1 % 32) := by
  obtain ⟨np, -, -, a3⟩ := hj.geo ht (by omega)
  have hfit := (hj.fit ht hi).2.2
  unfold vwd at hfit
  obtain ⟨w1, w2, -⟩ := h.wd hj rfl ht hi
  rw [if_neg (by omega), Nat.add_sub_cancel] at w1
  obtain ⟨b1, b2, -⟩ := a3.2.2.1 j hi
  obtain ⟨-, -, bb3, bb4, -⟩ := bk_at b1
  unfold gX11_goesBack
  rw [h1, li_add2, ix_nI (by omega) (by omega), w2, wr_eq, wr_eq, bb3, bb4, wt_u_nk (show (11 : Nat) ≠ 13 by omega), wt_u_nk (show (11 : Nat) ≠ 12 by omega), h1, ix_nI (by omega) (by omega), wr_eq, wt_u_ne (show (111 : Nat) ≠ 110 by omega), wt_u_ne (show (111 : Nat) ≠ 110 by omega), w1, b2]
  refine ⟨_, rfl, (RO.uo (by omega) (by omega)).trans ((RO.uo (by omega) (by omega)).trans (RO.uo (by omega) (by omega))), wt_u_self, ?_, ?_⟩
  · rw [wt_u_nk (by omega), wt_u_nk (by omega), wt_u_self]
  · rw [wt_u_nk (by omega), wt_u_self]
/-- the line that comes next in a frame -/
def vnl (V : vV) (t i : Nat) : Int32 := if i + 1 = V.2.2.1 t then V.1 (3968 + t) else nI ((V.2.2.2 t (i + 1)).2.2.2.1 % 32)
theorem q_looksAt_55 {i : Nat} (hj : VJ 2048 V) (ht : t < 6) (hN : V.2.2.1 t ≤ 3334) : ∀ (m fu : Nat) (s : wt_S), m < fu → i + m < V.2.2.1 t → RS s V → s 110 11 = nI (vpl V t (i + m)) → s 110 12 = nI (V.2.2.2 t (i + m)).1 → s 110 13 = vnl V t (i + m) → ∃ s', gX11_looksAt_55 fu s (nI i) (nI (i + m)) = some ((), s') ∧ RO s s' ∧ s' 110 11 = nI (vpl V t i) ∧ s' 110 12 = nI (V.2.2.2 t i).1 ∧ s' 110 13 = vnl V t i := by
  intro m
  induction m with
  | zero =>
    intro fu s hfu hi h g1 g2 g3
    obtain ⟨fu, rfl⟩ : ∃ m, fu = m + 1 := ⟨fu - 1, by omega⟩
    rw [gX11_looksAt_55, nI_int (by omega), nI_int (by omega), if_pos (by omega)]
    exact ⟨s, rfl, RO.refl, g1, g2, g3⟩
  | succ m ih =>
    intro fu s hfu hi h g1 g2 g3
    obtain ⟨fu, rfl⟩ : ∃ m, fu = m + 1 := ⟨fu - 1, by omega⟩
    obtain ⟨s1, e1, e2, e3, e4, e5⟩ := q_goesBack (j := i + m) h hj ht (by omega) g1
    obtain ⟨s', f1, f2, f3⟩ := ih fu s1 (by omega) (by omega) (h.ro e2) e3 e4 (by unfold vnl; rw [if_neg (by omega)]; exact e5)
    rw [gX11_looksAt_55, nI_int (by omega), nI_int (by omega), if_neg (by omega), e1, cl_some, show i + (m + 1) = i + m + 1 by omega, nI_pred2, f1]
    exact ⟨s', rfl, e2.trans f2, f3⟩
theorem VI.n (hI : VI 2048 B V) (ht : t < 6) : V.2.2.1 t ≤ 700 := by
  by_cases c : V.2.2.1 t = 0
  · omega
  · obtain ⟨-, n, np, e, -, -, -, h2, -, h3, -, h4, -⟩ := hI.bz ht (by omega)
    have a1 := h3.all hI.2.2.1.1
    have a2 := vus3 (fun i hi => (h4.1 i hi).2)
    omega
theorem q_looksAt {i : Nat} (h : RS s V) (hI : VI 2048 B V) (ht : t < 6) (hi : i < V.2.2.1 t) : ∃ s', gX11_looksAt s (nI t) (nI i) = some ((), s') ∧ RO s s' ∧ s' 110 11 = nI (vpl V t i) ∧ s' 110 12 = nI (V.2.2.2 t i).1 ∧ s' 110 13 = vnl V t i := by
  have hN := hI.n ht
  obtain ⟨-, n, np, e, c2, -, -, -, -, -, -, -, -, c11, c12, -⟩ := hI.bz ht (by omega)
  unfold gX11_looksAt
  rw [li_add, ix_nI (by omega) (by omega), h.tk (c := 3982) (by omega) ht, c11, wr_eq, li_add, ix_nI (by omega) (by omega), wr_eq, li_add, ix_nI (by omega) (by omega), wr_eq, li_add, ix_nI (by omega) (by omega)]
  have e111 : ∀ (s : wt_S) k v, (wt_u s 110 k v) 111 = s 111 := fun s k v => wt_u_ne (by omega)
  simp only [e111]
  rw [h.tk (c := 3975) (by omega) ht, c12, h.tk (c := 3968) (by omega) ht, h.tk (c := 3954) (by omega) ht, c2, li_sub (by omega), Nat.add_sub_cancel]
  have hro : RO s (wt_u (wt_u (wt_u s 110 11 (nI (vpl V t n))) 110 12 (nI (V.2.2.2 t n).1)) 110 13 (V.1 (3968 + t))) := (RO.uo (by omega) (by omega)).trans ((RO.uo (by omega) (by omega)).trans (RO.uo (by omega) (by omega)))
  have hin : i + (n - i) = n := by omega
  obtain ⟨s', f1, f2, f3⟩ := q_looksAt_55 (i := i) hI.J ht (by omega) (n - i) wt_N _ (by unfold wt_N; omega) (by omega) (h.ro hro) (by rw [hin, wt_u_nk (by omega), wt_u_nk (by omega), wt_u_self]) (by rw [hin, wt_u_nk (by omega), wt_u_self]) (by rw [hin, wt_u_self]; unfold vnl; rw [if_pos (by omega)])
  rw [hin] at f1
  rw [f1]
  exact ⟨s', rfl, hro.trans f2, f3⟩
theorem q_isFrame {x i : Int32} (h : RS s V) (hI : VI 2048 B V) : gX11_isFrame s x i = some (rb ((0 ≤ x.toInt ∧ x.toInt ≤ 5) ∧ 0 ≤ i.toInt ∧ i.toInt.toNat < V.2.2.1 x.toInt.toNat), s) := by
  unfold gX11_isFrame
  rw [q_isTask, cl_some, if_rb]
  by_cases c1 : 0 ≤ x.toInt ∧ x.toInt ≤ 5
  · obtain ⟨t, ht, rfl, etn⟩ := i_task c1
    have hN := hI.n ht
    have h54 : V.1 (3954 + t) = nI (V.2.2.1 t) := by
      rcases hI.2.2.2.2.2 t ht with ⟨-, n, np, e, c2, -⟩ | b
      · rw [e]; exact c2
      · rw [b.1]; exact b.2.1
    rw [if_pos c1, li_add, ix_nI (by omega) (by omega), h.tk (c := 3954) (by omega) ht, h54, q_isIn, cl_some, if_rb]
    have hz : (nI (V.2.2.1 t) - 1).toInt = (V.2.2.1 t : Int) - 1 := by
      by_cases e : V.2.2.1 t = 0
      · rw [e]; decide
      · rw [li_sub (by omega), nI_int (by omega)]; omega
    rw [hz, etn]
    by_cases c2 : (0 : Int32).toInt ≤ i.toInt ∧ i.toInt ≤ (V.2.2.1 t : Int) - 1
    · have c3 : (0 : Int) ≤ i.toInt := c2.1
      rw [if_pos c2, rb_pos ⟨c1, c3, by omega⟩]
    · rw [if_neg c2, rb_neg (fun e => c2 ⟨e.2.1, by have := e.2.2; omega⟩)]
  · rw [if_neg c1, rb_neg (fun e => c1 e.1)]
/-- the piece of a frame -/
theorem q_pcAt {i : Nat} (h : RS s V) (hj : VJ 2048 V) (ht : t < 6) (hi : i < V.2.2.1 t) : ∃ x q, gX11_pieceAt s (nI (vpl V t i)) = some (nI x, s) ∧ V.2.1[x]? = some q ∧ x < 256 ∧ q.2.2.1 = t ∧ q.2.2.2 = (V.2.2.2 t i).2.1 ∧ q.1 = vat V.2.1 t (V.2.2.2 t i).2.1 := by
  obtain ⟨np, a1, a2, a3⟩ := hj.geo ht (by omega)
  obtain ⟨q, q1, q2, q3, q4, q5⟩ := a2.pc a1 hi
  have hfit := hj.2.1.2 q q1
  have hpl : vpl V t i = q.1 + (V.2.2.2 t i).2.2.1 := by unfold vpl; rw [q4]
  unfold vwd at q5
  obtain ⟨x, x1, x2, x3⟩ := vfi_in hj.2.1 q1 (p := vpl V t i) (by omega) (by omega)
  refine ⟨x, q, ?_, x2, by have := h.2.2.1.2.1; omega, q2, q3, q4.symm⟩
  rw [q_pieceAt h.2.2.1 hj.2.1 (by omega), x1]
  rfl
theorem k_frame {x i what : Int32} (h : RS s V) (hI : VI 2048 B V) : Ok (fun _ s' => RO s s') (gX11_frame s x i what) := by
  unfold gX11_frame
  rw [q_isFrame h hI, cl_some, if_rbn]
  refine ok_if (fun c => ?_) (fun _ => ok_some RO.refl)
  obtain ⟨c1, c2, c3⟩ := c
  obtain ⟨t, ht, rfl, etn⟩ := i_task c1
  obtain ⟨i, i1, rfl, i3, i4⟩ := i_nat (x := i) c2
  rw [etn, i3] at c3
  obtain ⟨s1, e1, e2, e3, e4, e5⟩ := q_looksAt h hI ht c3
  have h1 := h.ro e2
  have hfit := (hI.J.fit ht c3).2.2
  unfold vwd at hfit
  rw [e1, cl_some, e3]
  refine ok_if (fun _ => ok_some e2) (fun cw => ?_)
  refine ok_if (fun _ => ok_some e2) (fun _ => ?_)
  refine ok_if (fun _ => ok_some e2) (fun _ => ?_)
  refine ok_if (fun _ => ?_) (fun _ => ?_)
  · obtain ⟨y, q, y1, y2, y3, -⟩ := q_pcAt h1 hI.J ht c3
    rw [y1, cl_some, li_add, ix_nI (by omega) (by omega)]
    exact ok_some e2
  refine ok_if (fun _ => ?_) (fun _ => ?_)
  · rw [li_add2, ix_nI (by omega) (by omega)]
    exact ok_if (fun _ => ok_some e2) (fun _ => ok_some e2)
  refine ok_if (fun _ => ok_some e2) (fun _ => ?_)
  refine ok_if (fun _ => ?_) (fun _ => ?_)
  · rw [li_add2, ix_nI (by omega) (by omega)]
    exact ok_if (fun _ => ok_some e2) (fun _ => ok_some e2)
  refine ok_if (fun _ => ?_) (fun _ => ?_)
  · rw [ix_nI (by omega) (by omega)]
    exact ok_some e2
  refine ok_if (fun _ => ?_) (fun _ => ?_)
  · rw [li_add2, ix_nI (by omega) (by omega)]
    exact ok_some e2
  exfalso
  omega
theorem k_pointed {p : Int32} (h : RS s V) (hI : VI 2048 B V) (ht : t < 6) (hn : 0 < V.2.2.1 t) : Ok (fun _ s' => RO s s') (gX11_pointed s (nI t) p) := by
  have hN := hI.n ht
  have hj := hI.J
  obtain ⟨n, hn1⟩ : ∃ n, V.2.2.1 t = n + 1 := ⟨V.2.2.1 t - 1, by omega⟩
  have h54 : V.1 (3954 + t) = nI (n + 1) := by
    obtain ⟨-, m, np, e, c2, -⟩ := hI.bz ht hn
    rw [← hn1, e]; exact c2
  have loop : ∀ (m fu : Nat) (s : wt_S), m + 1 < fu → m < V.2.2.1 t → RS s V → s 110 11 = nI (vpl V t m) → s 110 12 = nI (V.2.2.2 t m).1 → Ok (fun _ s' => RO s s') (gX11_pointed_30 fu s p (nI m)) := by
    intro m
    induction m with
    | zero =>
      intro fu s hfu hm h g1 g2
      obtain ⟨fu, rfl⟩ : ∃ m, fu = m + 1 + 1 := ⟨fu - 2, by omega⟩
      have hf := (hj.fit ht hm).1
      rw [gX11_pointed_30, nI_int (by omega), if_neg (by decide), g2, li_add, ix_nI (by omega) (by omega), q_isIn, cl_some]
      refine ok_if (fun _ => ok_if (fun _ => ?_) (fun c => absurd (by decide) c)) (fun _ => ?_)
      · rw [show nI 0 + (-1) = (-1 : Int32) from by decide, gX11_pointed_30, if_pos (by decide)]
        exact ok_some RO.refl
      · rw [g2, li_add, ix_nI (by omega) (by omega)]
        unfold gX11_has
        exact ok_cl (ok_if (fun _ => ok_some (P := fun _ s' => RO s s') RO.refl) (fun _ => ok_some RO.refl)) (fun r s' hr => ok_if (fun _ => ok_some hr) (fun _ => ok_some hr))
    | succ m ih =>
      intro fu s hfu hm h g1 g2
      obtain ⟨fu, rfl⟩ : ∃ m, fu = m + 1 := ⟨fu - 1, by omega⟩
      have hf := (hj.fit ht hm).1
      rw [gX11_pointed_30, nI_int (by omega), if_neg (by show ¬ _ < (0 : Int); omega), g2, li_add, ix_nI (by omega) (by omega), q_isIn, cl_some]
      refine ok_if (fun _ => ok_if (fun c => absurd c (by show ¬ _ ≤ (0 : Int); omega)) (fun _ => ?_)) (fun _ => ?_)
      · obtain ⟨s1, e1, e2, e3, e4, e5⟩ := q_goesBack (j := m) h hj ht hm g1
        rw [e1, cl_some, nI_pred2]
        exact ok_im (ih fu s1 (by omega) (by omega) (h.ro e2) e3 e4) (fun _ _ hr => e2.trans hr)
      · rw [g2, li_add, ix_nI (by omega) (by omega)]
        unfold gX11_has
        exact ok_cl (ok_if (fun _ => ok_some (P := fun _ s' => RO s s') RO.refl) (fun _ => ok_some RO.refl)) (fun r s' hr => ok_if (fun _ => ok_some hr) (fun _ => ok_some hr))
  unfold gX11_pointed
  obtain ⟨s1, e1, e2, e3, e4, e5⟩ := q_looksAt h hI ht (show n < V.2.2.1 t by omega)
  have h1 := h.ro e2
  rw [li_add, ix_nI (by omega) (by omega), h.tk (c := 3954) (by omega) ht, h54, li_sub (by omega), Nat.add_sub_cancel, e1, cl_some, ix_nI (by omega) (by omega), h1.tk (c := 3954) (by omega) ht, h54, li_sub (by omega), Nat.add_sub_cancel]
  exact ok_im (loop n wt_N s1 (by unfold wt_N; omega) (by omega) h1 e3 e4) (fun _ _ hr => e2.trans hr)
theorem k_slot {x i sl what : Int32} (h : RS s V) (hI : VI 2048 B V) : Ok (fun _ s' => RO s s') (gX11_slot s x i sl what) := by
  unfold gX11_slot gX11_slot_19
  rw [q_isFrame h hI, cl_some, if_rb]
  refine ok_if (fun c => ?_) (fun _ => ok_some RO.refl)
  obtain ⟨c1, c2, c3⟩ := c
  obtain ⟨t, ht, rfl, etn⟩ := i_task c1
  obtain ⟨i, i1, rfl, i3, i4⟩ := i_nat (x := i) c2
  rw [etn, i3] at c3
  rw [q_isIn, cl_some, if_rbn]
  refine ok_if (fun cw => ?_) (fun _ => ok_some RO.refl)
  obtain ⟨s1, e1, e2, e3, e4, e5⟩ := q_looksAt h hI ht c3
  have h1 := h.ro e2
  have hfit := hI.J.fit ht c3
  have hft := hfit.1
  have hfit2 := hfit.2.2
  unfold vwd at hfit2
  have hp1 := hI.2.1.ww h1.prog
  rw [e1, cl_some, e4, q_isSlot hft, cl_some, if_rbn]
  refine ok_if (fun cs => ?_) (fun _ => ok_some e2)
  obtain ⟨k, k1, k2, k3⟩ := v2s_slt hp1 hft cs
  subst k1
  have k3' : k < vsz V.1 (V.2.2.2 t i).1 := by rw [(h1.prog.sz hft).1] at k3; exact k3
  have h121 : ∀ (s' : wt_S) z, RO s s' → Ok (fun _ s' => RO s s') (gX11_slot_121 s' what z) := fun s' z hr => by
    unfold gX11_slot_121
    exact ok_if (fun _ => ok_if (fun _ => ok_some hr) (fun _ => ok_some hr)) (fun _ => ok_some hr)
  rw [e3, li_add2, nI_add, ix_nI (by omega) (by omega), e4, q_isPointer hft, cl_some]
  unfold gX11_slot_120
  refine ok_if (fun _ => ok_if (fun _ => h121 s1 _ e2) (fun _ => ok_if (fun _ => h121 s1 _ e2) (fun _ => ?_))) (fun _ => ok_if (fun _ => ok_if (fun _ => ok_some e2) (fun _ => ok_some e2)) (fun _ => ok_some e2))
  exact ok_cl (k_pointed h1 hI ht (by omega)) (fun r s' hr => h121 s' r (e2.trans hr))
end
end
