/-! ===== the endless stack: a step ===== -/
theorem bk_e {g l : Nat} (hg : g < 10) (hl : l < 16) : (32 * g + l + 1 < 1024 ∧ (32 * g + l + 1) % 1024 / 32 = g ∧ (32 * g + l + 1) % 32 = l + 1) ∧ (2048 ≤ 32 * g + l + 1 + 2048 ∧ 32 * g + l + 1 + 2048 < 3072) ∧ (32 * g + l + 1 + 2048) % 1024 / 32 = g ∧ (32 * g + l + 1 + 2048) % 32 = l + 1 := by omega
section
variable {s0 s : wt_S} {V : vV} {w : Nat → Int32} {S : eS} {f l k0 : Nat} {D : wt_S → Int32 → Int32 → Option (Int32 × wt_S)}
/-- a call of a line -/
theorem e_call (h : RE s0 s V w S) (hE : EI w S) (hf : f < 10) (hs1 : 1 ≤ vsz w f) (hn : S.1 ≤ 2000) (hmo : S.2.2.2.1 ≤ 1000000) (hl : l < vli w (elf S).1) (hk0 : k0 < vsz w (elf S).1) {bk : Nat}
    (hb : (bk = 32 * (elf S).1 + l + 1 ∧ w (vco (elf S).1 l) = 6 ∧ w (vco (elf S).1 l + 1) = nI f) ∨ (bk = 32 * (elf S).1 + l + 1 + 2048 ∧ w (vco (elf S).1 l) = 9 ∧ w (vco (elf S).1 l + 2) = nI f)) :
    ∃ s', gX11_calls s (nI 6) (nI f) (nI bk) (nI k0) 0 = some ((), s') ∧ EQ s0 s' V w S (.inl (epu w S f bk (vha w f (elf S) k0))) := by
  have hn1 := hE.1
  have hip := h.2.2.2.2.1
  have hft : (elf S).1 < 10 := (hE.2.1 (S.1 - 1) (by omega)).1
  have hl16 : l < 16 := by have := (hip.li hft).2; omega
  obtain ⟨⟨b1, b2, b3⟩, ⟨b4, b5⟩, b6, b7⟩ := bk_e hft hl16
  obtain ⟨s', e1, e2⟩ := e_calls (bk := bk) (slot := nI k0) (a := 0) (hh := vha w f (elf S) k0) h (fun _ => hE) hf hs1 hn hmo (Or.inr ⟨k0, rfl, by omega, hk0, rfl⟩)
  have hBb : bk < 1024 ∨ (2048 ≤ bk ∧ bk < 3072) := by
    rcases hb with ⟨e, -⟩ | ⟨e, -⟩
    · left; omega
    · right; omega
  refine ⟨s', e1, e2, hE.push hf hs1 hBb ?_ (fun hb0 p hp => ?_) hip, Nat.le_refl _, ?_, rfl⟩
  · show bk < 4096 ∧ bk % 1024 / 32 = (elf S).1 ∧ 1 ≤ bk % 32 ∧ bk % 32 - 1 < vli w (elf S).1 ∧ ((bk < 2048 ∧ w (vco (elf S).1 (bk % 32 - 1)) = 6 ∧ w (vco (elf S).1 (bk % 32 - 1) + 1) = nI f) ∨ (2048 ≤ bk ∧ w (vco (elf S).1 (bk % 32 - 1)) = 9 ∧ w (vco (elf S).1 (bk % 32 - 1) + 2) = nI f))
    rcases hb with ⟨e, g1, g2⟩ | ⟨e, g1, g2⟩
    · subst e
      rw [b3, Nat.add_sub_cancel]
      exact ⟨by omega, b2, by omega, hl, Or.inl ⟨by omega, g1, g2⟩⟩
    · subst e
      rw [b7, Nat.add_sub_cancel]
      exact ⟨by omega, b6, by omega, hl, Or.inr ⟨b4, g1, g2⟩⟩
  · unfold vha at hp
    by_cases cb : bt (w (2238 + (elf S).1)) k0
    · rw [if_pos cb] at hp
      have hp : (if bt (w (2238 + f)) 0 then (elf S).2.2.2.2.2 k0 else none) = some p := hp
      rw [if_pos hb0] at hp
      obtain ⟨x1, x2, x3⟩ := hE.2.2.2.2.1 (S.1 - 1) (by omega) k0 hk0 cb p hp
      exact ⟨by omega, x2, x3⟩
    · rw [if_neg cb] at hp
      cases hp
  · show max S.2.2.2.1 (vus w S.2.1 S.1 + vwd w f) ≤ _
    have := (hip.wd hf).2
    omega
theorem e_steps (h : RE s0 s V w S) (hE : EI w S) (hn : S.1 ≤ 2000) (hst : S.2.2.2.2 < 100000) (hmo : S.2.2.2.1 ≤ 1000000) : ∃ s', gX11_steps D s (nI 6) = some ((), s') ∧ EQ s0 s' V w (S.1, S.2.1, S.2.2.1, S.2.2.2.1, S.2.2.2.2 + 1) (est w S) := by
  have hn1 := hE.1
  have hip := h.2.2.2.2.1
  have h7 := h.2.2.2.2.2.2.1
  have h9 := h.2.2.2.2.2.2.2.2.1
  have h11 := h.2.2.2.2.2.2.2.2.2.2.1
  obtain ⟨k1, k2⟩ := h.2.2.2.2.2.2.2.2.2.2.2.2.1 (by omega)
  have hft : (elf S).1 < 10 := (hE.2.1 (S.1 - 1) (by omega)).1
  have hli := hip.li hft
  have hl16 := hE.2.2.2.2.2
  have hA := h.st
  unfold gX11_steps
  rw [li_add, ix_nI (by omega) (by omega), li_add, ix_nI (by omega) (by omega), li_add, ix_nI (by omega) (by omega), ix_nI (by omega) (by omega), wr_eq, h11, nI_1, k2, h9]
  generalize hsA : wt_u s 111 (3947 + 6) (nI (S.2.2.2.2 + 1)) = sA at *
  have hwA := hA.pr
  have h5A : sA 110 5 ≠ 0 := by rw [hA.1]; decide
  have hEA : EI w (S.1, S.2.1, S.2.2.1, S.2.2.2.1, S.2.2.2.2 + 1) := hE
  rw [q_counts1 h5A, cl_some, li_add, ix_nI (by omega) (by omega), hwA (2248 + (elf S).1) (Or.inl (by omega)), hli.1, nI_int (by omega), nI_int (by omega)]
  unfold est
  dsimp only
  have hlfA : elf ((S.1, S.2.1, S.2.2.1, S.2.2.2.1, S.2.2.2.2 + 1) : eS) = elf S := rfl
  by_cases cl : S.2.2.1 < vli w (elf S).1
  · rw [if_pos (by omega), if_pos cl]
    generalize hS1 : ((S.1, S.2.1, S.2.2.1, S.2.2.2.1, S.2.2.2.2 + 1) : eS) = S1 at *
    have hvb := (hip _ hft).2.2 _ cl
    unfold vlin vcan at hvb
    have hvc : vco (elf S).1 S.2.2.1 = 2258 + 4 * (16 * (elf S).1 + S.2.2.1) := rfl
    have hB := hA.li (l := S.2.2.1 + 1)
    have hEB : EI w (eli S1 (S.2.2.1 + 1)) := hEA.li (by omega)
    have hA88 : sA 111 (3982 + 6) = nI (vus w S.2.1 (S.1 - 1)) := by rw [← hsA, wt_u_nk (by omega)]; exact k1
    have hA74 : sA 111 (3968 + 6) = nI S.2.2.1 := by rw [← hsA, wt_u_nk (by omega)]; exact h9
    rw [q_codeAt, cl_some, ← hvc, li_add2, ix_nI (by omega) (by omega), li_add2, ix_nI (by omega) (by omega), li_add2, ix_nI (by omega) (by omega), li_add, ix_nI (by omega) (by omega), ix_nI (by omega) (by omega), ix_nI (by omega) (by omega), wr_eq, hA74, nI_1, ix_nI (by omega) (by omega), hA88, hwA (vco (elf S).1 S.2.2.1 + 1) (Or.inl (by omega)), hwA (vco (elf S).1 S.2.2.1 + 2) (Or.inl (by omega)), hwA (vco (elf S).1 S.2.2.1 + 3) (Or.inl (by omega))]
    generalize hsB : wt_u sA 111 (3968 + 6) (nI (S.2.2.1 + 1)) = sB at *
    have hwB := hB.pr
    have h5B : sB 110 5 ≠ 0 := by rw [hB.1]; decide
    rw [hwB (vco (elf S).1 S.2.2.1) (Or.inl (by omega))]
    have hSB1 : (eli S1 (S.2.2.1 + 1)).1 = S.1 := by rw [← hS1]; rfl
    have hSB2 : (eli S1 (S.2.2.1 + 1)).2.1 = S.2.1 := by rw [← hS1]; rfl
    have hSBm : (eli S1 (S.2.2.1 + 1)).2.2.2.1 = S.2.2.2.1 := by rw [← hS1]; rfl
    have hS11 : S1.1 = S.1 := by rw [← hS1]
    have hS12 : S1.2.1 = S.2.1 := by rw [← hS1]
    have hEQ : ∀ s' r, EQ s0 s' V w (eli S1 (S.2.2.1 + 1)) r → EQ s0 s' V w S1 r := fun s' r g => by cases r <;> exact g
    have hlfB : elf (eli S1 (S.2.2.1 + 1)) = elf S := by unfold elf; rw [hSB1, hSB2]
    generalize hS2 : eli S1 (S.2.2.1 + 1) = S2 at *
    generalize hKK : w (vco (elf S).1 S.2.2.1) = K at *
    generalize hAA : w (vco (elf S).1 S.2.2.1 + 1) = A at *
    generalize hBB : w (vco (elf S).1 S.2.2.1 + 2) = Bb at *
    generalize hCC : w (vco (elf S).1 S.2.2.1 + 3) = C at *
    obtain ⟨pk, p0, p1, p3, p4, p5, p6, p7, p8, p9⟩ := hvb
    have hz8 := (hip.sz hft).2
    have hvu := hE.vw hip S.1 (Nat.le_refl _)
    have hvlt := vus_lt (w := w) (fr := S.2.1) (show S.1 - 1 < S.1 by omega)
    have hvlt : vus w S.2.1 (S.1 - 1) + (vsz w (elf S).1 + 2) ≤ vus w S.2.1 S.1 := hvlt
    have hMR := hB.2.2.2.2.2.2.2.2.2.2.2.2.2
    rw [hSB1, hSB2] at hMR
    have hMl := (hMR (S.1 - 1) (by omega)).2.2.2
    -- a number's word; a number is set
    have hnw : ∀ a, a < vsz w (elf S).1 → ¬ bt (w (2238 + (elf S).1)) a → gX11_word sB (nI (vus w S.2.1 (S.1 - 1)) + 2 + nI a) = some (vnm (elf S) (nI a), sB) := fun a a1 a2 => by
      rw [li_add2, nI_add, q_word1 h5B (by omega), hMl a a1]
      unfold vsw vnm
      rw [if_neg (show ¬ bt (w (2238 + (S.2.1 (S.1 - 1)).1)) a from a2), nI_int (by omega)]
      rfl
    have hly : ∀ a v, a < vsz w (elf S).1 → ¬ bt (w (2238 + (elf S).1)) a → ∃ s', gX11_lays sB (nI (vus w S.2.1 (S.1 - 1)) + 2 + nI a) v = some ((), s') ∧ EQ s0 s' V w S1 (.inl (enu S2 (S.1 - 1) a v)) := fun a v a1 a2 => by
      have := hB.nu (i := S.1 - 1) (k := a) (v := v) (by rw [hSB1]; omega) (by rw [hSB2]; exact a1) (by rw [hSB2]; exact a2)
      rw [hSB2] at this
      refine ⟨_, by rw [li_add2, nI_add, q_lays1 h5B (by omega)], hEQ _ _ ⟨this, hEB.nu, by show S2.1 ≤ _; omega, by show S2.2.2.2.1 ≤ _; omega, rfl⟩⟩
    have hpw : ∀ a, a < vsz w (elf S).1 → bt (w (2238 + (elf S).1)) a → gX11_word sB (nI (vus w S.2.1 (S.1 - 1)) + 2 + nI a) = some (match (elf S).2.2.2.2.2 a with | none => -1 | some q => nI (vus w S.2.1 q.1 + 2 + q.2), sB) := fun a a1 a2 => by
      rw [li_add2, nI_add, q_word1 h5B (by omega), hMl a a1]
      unfold vsw
      rw [if_pos (show bt (w (2238 + (S.2.1 (S.1 - 1)).1)) a from a2)]
      rfl
    have hqq : ∀ a q, a < vsz w (elf S).1 → bt (w (2238 + (elf S).1)) a → (elf S).2.2.2.2.2 a = some q → q.1 < S.1 ∧ q.2 < vsz w (S.2.1 q.1).1 ∧ ¬ bt (w (2238 + (S.2.1 q.1).1)) q.2 ∧ vus w S.2.1 q.1 + 2 + q.2 < 20200 := fun a q a1 a2 a3 => by
      obtain ⟨x1, x2, x3⟩ := hE.2.2.2.2.1 (S.1 - 1) (by omega) a a1 a2 q a3
      have h1 := vus_lt (w := w) (fr := S.2.1) (show q.1 < q.1 + 1 by omega)
      have h2 := hE.vw hip (q.1 + 1) (by omega)
      unfold vwd at h1
      exact ⟨by omega, x2, x3, by omega⟩
    unfold eln
    dsimp only
    rw [hlfB, hSB1]
    have hk10 : K = 10 ∨ (0 ≤ K.toInt ∧ K.toInt ≤ 9) := by
      by_cases e : K.toInt ≤ 9
      · exact Or.inr ⟨pk.1, e⟩
      · left
        obtain ⟨n, n1, n2, n3, n4⟩ := i_nat (x := K) pk.1
        have : n = 10 := by have := pk.2; omega
        rw [n2, this]
        rfl
    rcases hk10 with hk10 | hk9
    · subst hk10
      rw [if_pos (show ((10 : Int32).toInt < 0 ∨ 9 < (10 : Int32).toInt) by decide), if_neg (show ¬ (10 : Int32) = 0 by decide), if_neg (show ¬ (10 : Int32) = 1 by decide), if_neg (show ¬ (10 : Int32) = 2 by decide), if_neg (show ¬ (10 : Int32) = 3 by decide), if_neg (show ¬ (10 : Int32) = 4 by decide), if_neg (show ¬ (10 : Int32) = 5 by decide), if_neg (show ¬ (10 : Int32) = 6 by decide), if_neg (show ¬ (10 : Int32) = 7 by decide), if_neg (show ¬ (10 : Int32) = 8 by decide), if_neg (show ¬ (10 : Int32) = 9 by decide)]
      unfold gX11_quiets
      rw [if_neg h5B, cl_some]
      exact ⟨sB, rfl, hEQ _ _ ⟨hB, hEB, by omega, by omega, rfl⟩⟩
    rcases i10 hk9 with rfl | rfl | rfl | rfl | rfl | rfl | rfl | rfl | rfl | rfl
    · rw [if_neg (show ¬ ((0 : Int32).toInt < 0 ∨ 9 < (0 : Int32).toInt) by decide), if_pos (show (0 : Int32).toInt = 0 by decide), if_pos rfl]
      obtain ⟨a, rfl, a2, a3, a4, a5⟩ := vnum_nat hip hft (p0 rfl)
      obtain ⟨s', f1, f2⟩ := hly a Bb a3 a5
      rw [f1, cl_some, a2]
      exact ⟨s', rfl, f2⟩
    · rw [if_neg (show ¬ ((1 : Int32).toInt < 0 ∨ 9 < (1 : Int32).toInt) by decide), if_neg (show ¬ (1 : Int32).toInt = 0 by decide), if_pos (show (1 : Int32).toInt = 1 by decide), if_neg (show ¬ (1 : Int32) = 0 by decide), if_pos rfl]
      obtain ⟨q1, q2, q3⟩ := p1 (Or.inl rfl)
      obtain ⟨a, rfl, a2, a3, a4, a5⟩ := vnum_nat hip hft q1
      obtain ⟨b, rfl, b2, b3, b4, b5⟩ := vnum_nat hip hft q2
      obtain ⟨c, rfl, c2, c3, c4, c5⟩ := vnum_nat hip hft q3
      obtain ⟨s', f1, f2⟩ := hly a (vnm (elf S) (nI b) + vnm (elf S) (nI c)) a3 a5
      rw [hnw b b3 b5, cl_some, hnw c c3 c5, cl_some, f1, cl_some, a2]
      exact ⟨s', rfl, f2⟩
    · rw [if_neg (show ¬ ((2 : Int32).toInt < 0 ∨ 9 < (2 : Int32).toInt) by decide), if_neg (show ¬ (2 : Int32).toInt = 0 by decide), if_neg (show ¬ (2 : Int32).toInt = 1 by decide), if_pos (show (2 : Int32).toInt = 2 by decide), if_neg (show ¬ (2 : Int32) = 0 by decide), if_neg (show ¬ (2 : Int32) = 1 by decide), if_pos rfl]
      obtain ⟨q1, q2, q3⟩ := p1 (Or.inr rfl)
      obtain ⟨a, rfl, a2, a3, a4, a5⟩ := vnum_nat hip hft q1
      obtain ⟨b, rfl, b2, b3, b4, b5⟩ := vnum_nat hip hft q2
      obtain ⟨c, rfl, c2, c3, c4, c5⟩ := vnum_nat hip hft q3
      obtain ⟨s', f1, f2⟩ := hly a (if (vnm (elf S) (nI c)).toInt ≤ (vnm (elf S) (nI b)).toInt then 0 else 1) a3 a5
      rw [hnw b b3 b5, cl_some, hnw c c3 c5, cl_some, a2]
      refine ⟨s', ?_, f2⟩
      unfold gX11_steps_269
      by_cases cc : (vnm (elf S) (nI c)).toInt ≤ (vnm (elf S) (nI b)).toInt
      · rw [if_pos cc] at f1 ⊢
        rw [f1, cl_some]
      · rw [if_neg cc] at f1 ⊢
        rw [f1, cl_some]
    · rw [if_neg (show ¬ ((3 : Int32).toInt < 0 ∨ 9 < (3 : Int32).toInt) by decide), if_neg (show ¬ (3 : Int32).toInt = 0 by decide), if_neg (show ¬ (3 : Int32).toInt = 1 by decide), if_neg (show ¬ (3 : Int32).toInt = 2 by decide), if_pos (show (3 : Int32).toInt = 3 by decide), if_neg (show ¬ (3 : Int32) = 0 by decide), if_neg (show ¬ (3 : Int32) = 1 by decide), if_neg (show ¬ (3 : Int32) = 2 by decide), if_pos rfl]
      obtain ⟨q1, q2⟩ := p3 rfl
      obtain ⟨a, rfl, a2, a3, a4, a5⟩ := vptr_nat hip hft q1
      obtain ⟨b, rfl, b2, b3, b4, b5⟩ := vnum_nat hip hft q2
      have g := hB.po (i := S.1 - 1) (k := a) (q := some (S.1 - 1, b)) (by rw [hSB1]; omega) (by rw [hSB2]; exact a3) (by rw [hSB2]; exact a5)
      rw [hSB2] at g
      rw [a2, b2]
      refine ⟨_, by rw [li_add2, nI_add, nI_add, q_lays1 h5B (by omega), cl_some], hEQ _ _ ⟨g, hEB.po (Nat.le_refl _) (by rw [hSB2]; exact b3) (by rw [hSB2]; exact b5), by show S2.1 ≤ _; omega, by show S2.2.2.2.1 ≤ _; omega, rfl⟩⟩
    · rw [if_neg (show ¬ ((4 : Int32).toInt < 0 ∨ 9 < (4 : Int32).toInt) by decide), if_neg (show ¬ (4 : Int32).toInt = 0 by decide), if_neg (show ¬ (4 : Int32).toInt = 1 by decide), if_neg (show ¬ (4 : Int32).toInt = 2 by decide), if_neg (show ¬ (4 : Int32).toInt = 3 by decide), if_pos (show (4 : Int32).toInt = 4 by decide), if_neg (show ¬ (4 : Int32) = 0 by decide), if_neg (show ¬ (4 : Int32) = 1 by decide), if_neg (show ¬ (4 : Int32) = 2 by decide), if_neg (show ¬ (4 : Int32) = 3 by decide), if_pos rfl]
      obtain ⟨q1, q2⟩ := p4 rfl
      obtain ⟨a, rfl, a2, a3, a4, a5⟩ := vnum_nat hip hft q1
      obtain ⟨b, rfl, b2, b3, b4, b5⟩ := vptr_nat hip hft q2
      rw [hpw b b3 b5, cl_some, a2, b2]
      unfold gX11_steps_328
      cases e : (elf S).2.2.2.2.2 b with
      | none =>
        obtain ⟨s', f1, f2⟩ := hly a 0 a3 a5
        dsimp only
        rw [if_neg (by simp), f1, cl_some]
        exact ⟨s', rfl, f2⟩
      | some q =>
        obtain ⟨x1, x2, x3, x4⟩ := hqq b q b3 b5 e
        obtain ⟨s', f1, f2⟩ := hly a ((S.2.1 q.1).2.2.2.2.1 q.2) a3 a5
        have hv : sB 114 (vus w S.2.1 q.1 + 2 + q.2) = (S.2.1 q.1).2.2.2.2.1 q.2 := by
          rw [(hMR q.1 x1).2.2.2 q.2 x2]
          unfold vsw
          rw [if_neg x3]
        dsimp only
        rw [if_pos (nI_m1 (by omega)), hpw b b3 b5, cl_some, e]
        dsimp only
        rw [q_word1 h5B x4, cl_some, hv, f1, cl_some, hSB2]
        exact ⟨s', rfl, f2⟩
    · rw [if_neg (show ¬ ((5 : Int32).toInt < 0 ∨ 9 < (5 : Int32).toInt) by decide), if_neg (show ¬ (5 : Int32).toInt = 0 by decide), if_neg (show ¬ (5 : Int32).toInt = 1 by decide), if_neg (show ¬ (5 : Int32).toInt = 2 by decide), if_neg (show ¬ (5 : Int32).toInt = 3 by decide), if_neg (show ¬ (5 : Int32).toInt = 4 by decide), if_pos (show (5 : Int32).toInt = 5 by decide), if_neg (show ¬ (5 : Int32) = 0 by decide), if_neg (show ¬ (5 : Int32) = 1 by decide), if_neg (show ¬ (5 : Int32) = 2 by decide), if_neg (show ¬ (5 : Int32) = 3 by decide), if_neg (show ¬ (5 : Int32) = 4 by decide), if_pos rfl]
      obtain ⟨q1, q2⟩ := p5 rfl
      obtain ⟨a, rfl, a2, a3, a4, a5⟩ := vptr_nat hip hft q1
      obtain ⟨b, rfl, b2, b3, b4, b5⟩ := vnum_nat hip hft q2
      rw [hpw a a3 a5, cl_some, a2]
      cases e : (elf S).2.2.2.2.2 a with
      | none =>
        dsimp only
        rw [if_pos rfl]
        exact ⟨sB, rfl, hEQ _ _ ⟨hB, hEB, by omega, by omega, rfl⟩⟩
      | some q =>
        obtain ⟨x1, x2, x3, x4⟩ := hqq a q a3 a5 e
        have g := hB.nu (i := q.1) (k := q.2) (v := vnm (elf S) (nI b)) (by rw [hSB1]; omega) (by rw [hSB2]; exact x2) (by rw [hSB2]; exact x3)
        rw [hSB2] at g
        dsimp only
        rw [if_neg (nI_m1 (by omega)), hpw a a3 a5, cl_some, e, hnw b b3 b5, cl_some]
        dsimp only
        rw [q_lays1 h5B x4, cl_some]
        exact ⟨_, rfl, hEQ _ _ ⟨g, hEB.nu, by show S2.1 ≤ _; omega, by show S2.2.2.2.1 ≤ _; omega, rfl⟩⟩
    · rw [if_neg (show ¬ ((6 : Int32).toInt < 0 ∨ 9 < (6 : Int32).toInt) by decide), if_neg (show ¬ (6 : Int32).toInt = 0 by decide), if_neg (show ¬ (6 : Int32).toInt = 1 by decide), if_neg (show ¬ (6 : Int32).toInt = 2 by decide), if_neg (show ¬ (6 : Int32).toInt = 3 by decide), if_neg (show ¬ (6 : Int32).toInt = 4 by decide), if_neg (show ¬ (6 : Int32).toInt = 5 by decide), if_pos (show (6 : Int32).toInt = 6 by decide), if_neg (show ¬ (6 : Int32) = 0 by decide), if_neg (show ¬ (6 : Int32) = 1 by decide), if_neg (show ¬ (6 : Int32) = 2 by decide), if_neg (show ¬ (6 : Int32) = 3 by decide), if_neg (show ¬ (6 : Int32) = 4 by decide), if_neg (show ¬ (6 : Int32) = 5 by decide), if_pos rfl]
      obtain ⟨⟨f, rfl, f10⟩, ⟨b, rfl, b3⟩, q3⟩ := p6 rfl
      obtain ⟨c, rfl, c2, c3, c4, c5⟩ := vnum_nat hip hft q3
      have htl : tld (sB 111) (nI f) ↔ tld w (nI f) := hwB.tl
      have hfn : (nI f).toInt.toNat = f := by rw [nI_int (by omega)]; rfl
      have hbn : (nI b).toInt.toNat = b := by rw [nI_int (by omega)]; rfl
      rw [q_isTold, cl_some, if_rb, c2]
      by_cases ct : tld w (nI f)
      · obtain ⟨s', f1, f2⟩ := e_call (l := S.2.2.1) (k0 := b) (f := f) hB hEB f10 (by have := ct.2; rw [hfn] at this; unfold vsz; omega) (by omega) (by omega) (by rw [hlfB]; exact cl) (by rw [hlfB]; exact b3) (Or.inl ⟨rfl, by rw [hlfB]; exact hKK, by rw [hlfB]; exact hAA⟩)
        rw [hlfB] at f1 f2
        rw [if_pos (htl.mpr ct), if_pos ct, hfn, hbn, li_mul, nI_add, li_add2, f1, cl_some]
        exact ⟨s', rfl, hEQ _ _ f2⟩
      · obtain ⟨s', f1, f2⟩ := hly c 0 c3 c5
        rw [if_neg (fun q => ct (htl.mp q)), if_neg ct, f1, cl_some]
        exact ⟨s', rfl, f2⟩
    · rw [if_neg (show ¬ ((7 : Int32).toInt < 0 ∨ 9 < (7 : Int32).toInt) by decide), if_neg (show ¬ (7 : Int32).toInt = 0 by decide), if_neg (show ¬ (7 : Int32).toInt = 1 by decide), if_neg (show ¬ (7 : Int32).toInt = 2 by decide), if_neg (show ¬ (7 : Int32).toInt = 3 by decide), if_neg (show ¬ (7 : Int32).toInt = 4 by decide), if_neg (show ¬ (7 : Int32).toInt = 5 by decide), if_neg (show ¬ (7 : Int32).toInt = 6 by decide), if_pos (show (7 : Int32).toInt = 7 by decide), if_neg (show ¬ (7 : Int32) = 0 by decide), if_neg (show ¬ (7 : Int32) = 1 by decide), if_neg (show ¬ (7 : Int32) = 2 by decide), if_neg (show ¬ (7 : Int32) = 3 by decide), if_neg (show ¬ (7 : Int32) = 4 by decide), if_neg (show ¬ (7 : Int32) = 5 by decide), if_neg (show ¬ (7 : Int32) = 6 by decide), if_pos rfl]
      obtain ⟨q1, ⟨l9, rfl, l91⟩⟩ := p7 rfl
      obtain ⟨a, rfl, a2, a3, a4, a5⟩ := vnum_nat hip hft q1
      rw [hnw a a3 a5, cl_some]
      by_cases cq : (vnm (elf S) (nI a)).toInt ≤ 0
      · rw [if_pos (show (vnm (elf S) (nI a)).toInt ≤ (0 : Int32).toInt from cq), if_pos cq]
        exact ⟨sB, rfl, hEQ _ _ ⟨hB, hEB, by omega, by omega, rfl⟩⟩
      · rw [if_neg (show ¬ (vnm (elf S) (nI a)).toInt ≤ (0 : Int32).toInt from cq), if_neg cq, ix_nI (by omega) (by omega), wr_eq, show (nI l9).toInt.toNat = l9 by rw [nI_int (by omega)]; rfl]
        exact ⟨_, rfl, hEQ _ _ ⟨hB.li, hEB.li (by omega), by show S2.1 ≤ _; omega, by show S2.2.2.2.1 ≤ _; omega, rfl⟩⟩
    · rw [if_neg (show ¬ ((8 : Int32).toInt < 0 ∨ 9 < (8 : Int32).toInt) by decide), if_neg (show ¬ (8 : Int32).toInt = 0 by decide), if_neg (show ¬ (8 : Int32).toInt = 1 by decide), if_neg (show ¬ (8 : Int32).toInt = 2 by decide), if_neg (show ¬ (8 : Int32).toInt = 3 by decide), if_neg (show ¬ (8 : Int32).toInt = 4 by decide), if_neg (show ¬ (8 : Int32).toInt = 5 by decide), if_neg (show ¬ (8 : Int32).toInt = 6 by decide), if_neg (show ¬ (8 : Int32).toInt = 7 by decide), if_pos (show (8 : Int32).toInt = 8 by decide), if_neg (show ¬ (8 : Int32) = 0 by decide), if_neg (show ¬ (8 : Int32) = 1 by decide), if_neg (show ¬ (8 : Int32) = 2 by decide), if_neg (show ¬ (8 : Int32) = 3 by decide), if_neg (show ¬ (8 : Int32) = 4 by decide), if_neg (show ¬ (8 : Int32) = 5 by decide), if_neg (show ¬ (8 : Int32) = 6 by decide), if_neg (show ¬ (8 : Int32) = 7 by decide), if_pos rfl]
      obtain ⟨a, rfl, a2, a3, a4, a5⟩ := vnum_nat hip hft (p8 rfl)
      obtain ⟨s', f1, f2⟩ := e_returns (D := D) (v := vnm (elf S) (nI a)) hB hEB (by omega)
      rw [hnw a a3 a5, cl_some, f1, cl_some]
      exact ⟨s', rfl, hEQ _ _ f2⟩
    · rw [if_neg (show ¬ ((9 : Int32).toInt < 0 ∨ 9 < (9 : Int32).toInt) by decide), if_neg (show ¬ (9 : Int32).toInt = 0 by decide), if_neg (show ¬ (9 : Int32).toInt = 1 by decide), if_neg (show ¬ (9 : Int32).toInt = 2 by decide), if_neg (show ¬ (9 : Int32).toInt = 3 by decide), if_neg (show ¬ (9 : Int32).toInt = 4 by decide), if_neg (show ¬ (9 : Int32).toInt = 5 by decide), if_neg (show ¬ (9 : Int32).toInt = 6 by decide), if_neg (show ¬ (9 : Int32).toInt = 7 by decide), if_neg (show ¬ (9 : Int32).toInt = 8 by decide), if_pos (show (9 : Int32).toInt = 9 by decide), if_neg (show ¬ (9 : Int32) = 0 by decide), if_neg (show ¬ (9 : Int32) = 1 by decide), if_neg (show ¬ (9 : Int32) = 2 by decide), if_neg (show ¬ (9 : Int32) = 3 by decide), if_neg (show ¬ (9 : Int32) = 4 by decide), if_neg (show ¬ (9 : Int32) = 5 by decide), if_neg (show ¬ (9 : Int32) = 6 by decide), if_neg (show ¬ (9 : Int32) = 7 by decide), if_neg (show ¬ (9 : Int32) = 8 by decide), if_pos rfl]
      obtain ⟨⟨wa, rfl, wa1, wa2⟩, hbf, q3⟩ := p9 rfl
      obtain ⟨c, rfl, c2, c3, c4, c5⟩ := vnum_nat hip hft q3
      have htl : tld (sB 111) Bb ↔ tld w Bb := hwB.tl
      have hB88 : sB 111 (3982 + 6) = nI (vus w S.2.1 (S.1 - 1)) := by rw [← hsB, wt_u_nk (by omega)]; exact hA88
      have hB81 : sB 111 (3975 + 6) = nI (elf S).1 := by
        have := (hB.2.2.2.2.2.2.2.2.2.2.2.2.1 (by omega)).2
        rw [hlfB] at this
        exact this
      have hB74 : sB 111 (3968 + 6) = nI (S.2.2.1 + 1) := by rw [← hsB, wt_u_self]
      unfold gX11_foreign gX11_hasSide
      rw [if_neg h5B, cl_some, if_pos (by decide), li_add, ix_nI (by omega) (by omega), hB88, q_isTold, cl_some, if_rb, c2]
      by_cases ct : tld w Bb
      · obtain ⟨f, f10, rfl, hfn, hs1⟩ := tld_nat ct
        obtain ⟨s', f1, f2⟩ := e_call (l := S.2.2.1) (k0 := c) (f := f) hB hEB f10 hs1 (by omega) (by omega) (by rw [hlfB]; exact cl) (by rw [hlfB]; exact c3) (Or.inr ⟨rfl, by rw [hlfB]; exact hKK, by rw [hlfB]; exact hBB⟩)
        rw [hlfB] at f1 f2
        rw [if_pos (htl.mpr ct), if_pos ct, hfn, li_add, ix_nI (by omega) (by omega), li_add, ix_nI (by omega) (by omega), hB81, hB74, li_mul, nI_add, li_add2, show 32 * (elf S).1 + (S.2.2.1 + 1) + 2048 = 32 * (elf S).1 + S.2.2.1 + 1 + 2048 by omega, f1, cl_some, cl_some]
        exact ⟨s', rfl, hEQ _ _ f2⟩
      · obtain ⟨s', f1, f2⟩ := hly c (3 * vnm (elf S) (nI c) + 1) c3 c5
        have h5' : s' 110 5 ≠ 0 := by rw [f2.1.1]; decide
        rw [if_neg (fun q => ct (htl.mp q)), if_neg ct, hnw c c3 c5, cl_some, f1, cl_some]
        unfold gX11_foreignOver
        rw [q_counts1 h5', cl_some, if_neg h5', cl_some, cl_some]
        exact ⟨s', rfl, f2⟩
  · rw [if_neg (by omega), if_neg cl]
    obtain ⟨s', f1, f2⟩ := e_returns (D := D) (v := 0) hA hEA (by show S.1 ≤ 2001; omega)
    rw [f1, cl_some]
    exact ⟨s', rfl, f2⟩
end
