/-! ===== the endless stack: returns, steps ===== -/
/-- done: result, steps, most -/
def RD (s0 s : wt_S) (V : vV) (v : Int32) (st mo : Nat) : Prop := s 110 5 = 1 ∧ RR (s 111) V ∧ RG s0 s ∧ s 111 (3926 + 6) = 3 ∧ s 111 (3940 + 6) = v ∧ s 111 (3947 + 6) = nI st ∧ s 111 (4045 + 6) = nI mo
/-- what a step brings -/
def EQ (s0 s : wt_S) (V : vV) (w : Nat → Int32) (S : eS) : eS ⊕ Int32 → Prop
  | .inl S' => RE s0 s V w S' ∧ EI w S' ∧ S'.1 ≤ S.1 + 1 ∧ S'.2.2.2.1 ≤ max S.2.2.2.1 (vus w S.2.1 S.1 + 10) ∧ S'.2.2.2.2 = S.2.2.2.2
  | .inr v => RD s0 s V v S.2.2.2.2 S.2.2.2.1
section
variable {s0 s : wt_S} {V : vV} {w : Nat → Int32} {S : eS} {f : Nat} {D : wt_S → Int32 → Int32 → Option (Int32 × wt_S)}
theorem EI.bk (h : EI w S) : (elf S).2.2.2.1 < 4096 := by
  by_cases e : S.1 = 1
  · have : elf S = S.2.1 0 := by unfold elf; rw [e]
    rw [this]
    rcases h.2.2.1 with g | g <;> omega
  · have h1 := h.1
    have := (h.2.2.2.1 (S.1 - 2) (by omega)).1
    rw [show S.1 - 2 + 1 = S.1 - 1 by omega] at this
    exact this
/-- a frame less -/
theorem EI.pop {l : Nat} (h : EI w S) (h2 : 2 ≤ S.1) (hl : l ≤ 16) : EI w (S.1 - 1, S.2.1, l, S.2.2.2) := by
  obtain ⟨a1, a2, a3, a4, a5, a6⟩ := h
  exact ⟨by show 1 ≤ S.1 - 1; omega, fun i hi => a2 i (by have hi : i < S.1 - 1 := hi; omega), a3, fun i hi => a4 i (by have hi : i + 1 < S.1 - 1 := hi; omega), fun i hi => a5 i (by have hi : i < S.1 - 1 := hi; omega), hl⟩
theorem EI.push {bk : Nat} {hh : Int32 × Option (Nat × Nat)} (h : EI w S) (hf : f < 10) (hs1 : 1 ≤ vsz w f) (hB : bk < 1024 ∨ (2048 ≤ bk ∧ bk < 3072)) (hb : vbk w (eFr f bk hh) (elf S)) (hq : bt (w (2238 + f)) 0 → ∀ p, hh.2 = some p → p.1 < S.1 ∧ p.2 < vsz w (S.2.1 p.1).1 ∧ ¬ bt (w (2238 + (S.2.1 p.1).1)) p.2) (hp : Ipr w) : EI w (epu w S f bk hh) := by
  obtain ⟨a1, a2, a3, a4, a5, a6⟩ := h
  have hG : (elf S).1 < 10 := (a2 (S.1 - 1) (by omega)).1
  refine ⟨by show 1 ≤ S.1 + 1; omega, fun i hi => ?_, ?_, fun i hi => ?_, fun i hi k hk hbk q hqq => ?_, Nat.zero_le _⟩
  · have hi : i < S.1 + 1 := hi
    show (mj_upd S.2.1 S.1 _ i).1 < 10 ∧ 1 ≤ vsz w (mj_upd S.2.1 S.1 _ i).1
    by_cases e : i = S.1
    · subst e
      rw [mj_upd_self]
      exact ⟨hf, hs1⟩
    · rw [mj_upd_ne e]
      exact a2 i (by omega)
  · show (mj_upd S.2.1 S.1 _ 0).2.2.2.1 = 0 ∨ (mj_upd S.2.1 S.1 _ 0).2.2.2.1 = 1024
    rw [mj_upd_ne (by omega)]
    exact a3
  · have hi : i + 1 < S.1 + 1 := hi
    show vbk w (mj_upd S.2.1 S.1 _ (i + 1)) (mj_upd S.2.1 S.1 _ i)
    rw [mj_upd_ne (show i ≠ S.1 by omega)]
    by_cases e : i + 1 = S.1
    · rw [e, mj_upd_self]
      have : elf S = S.2.1 i := by unfold elf; rw [← e]; rfl
      rw [this] at hb hG
      refine vbk_up (F := eFr f bk hh) vpe.refl hp hG rfl hB ?_ hb
      show ebk w S f bk = bk ∨ ebk w S f bk = bk + 1024
      unfold ebk
      split
      · exact Or.inr rfl
      · exact Or.inl rfl
    · rw [mj_upd_ne e]
      exact a4 i (by omega)
  · have hi : i < S.1 + 1 := hi
    have hk : k < vsz w (mj_upd S.2.1 S.1 (eFr f (ebk w S f bk) hh) i).1 := hk
    have hbk : bt (w (2238 + (mj_upd S.2.1 S.1 (eFr f (ebk w S f bk) hh) i).1)) k := hbk
    have hqq : (mj_upd S.2.1 S.1 (eFr f (ebk w S f bk) hh) i).2.2.2.2.2 k = some q := hqq
    show q.1 ≤ i ∧ q.2 < vsz w (mj_upd S.2.1 S.1 (eFr f (ebk w S f bk) hh) q.1).1 ∧ ¬ bt (w (2238 + (mj_upd S.2.1 S.1 (eFr f (ebk w S f bk) hh) q.1).1)) q.2
    by_cases e : i = S.1
    · subst e
      rw [mj_upd_self] at hk hbk hqq
      have hqq : (if k = 0 then hh.2 else none) = some q := hqq
      by_cases ek : k = 0
      · subst ek
        rw [if_pos rfl] at hqq
        obtain ⟨x1, x2, x3⟩ := hq hbk q hqq
        rw [mj_upd_ne (by omega)]
        exact ⟨by omega, x2, x3⟩
      · rw [if_neg ek] at hqq
        cases hqq
    · rw [mj_upd_ne e] at hk hbk hqq
      obtain ⟨x1, x2, x3⟩ := a5 i (by omega) k hk hbk q hqq
      rw [mj_upd_ne (by omega)]
      exact ⟨x1, x2, x3⟩
theorem e_returns {v : Int32} (h : RE s0 s V w S) (hE : EI w S) (hn : S.1 ≤ 2001) : ∃ s', gX11_returns D s (nI 6) v = some ((), s') ∧ EQ s0 s' V w S (ert w S v) := by
  have hw := h.pr
  have h0 := h
  obtain ⟨h1, h2, h3, h4, h5, h6, h7, h8, h9, h10, h11, h12, h13, h14⟩ := h0
  have hn1 := hE.1
  obtain ⟨k1, k2⟩ := h13 (by omega)
  obtain ⟨m1, m2, m3, m4⟩ := h14 (S.1 - 1) (by omega)
  have hft : (elf S).1 < 10 := (hE.2.1 (S.1 - 1) (by omega)).1
  have hwd := h5.wd hft
  have hvu := hE.vw h5 S.1 (Nat.le_refl _)
  have hvu1 := hE.vw h5 (S.1 - 1) (by omega)
  have hve : vus w S.2.1 S.1 = vus w S.2.1 (S.1 - 1) + vwd w (elf S).1 := by
    have := vus_1 (w := w) (fr := S.2.1) (n := S.1 - 1)
    rw [show S.1 - 1 + 1 = S.1 by omega] at this
    exact this
  have hbk := hE.bk
  have m3 : s 114 (vus w S.2.1 (S.1 - 1) + 1) = nI (elf S).2.2.2.1 := m3
  have h5n : s 110 5 ≠ 0 := by rw [h1]; decide
  unfold gX11_returns
  rw [li_add, ix_nI (by omega) (by omega), k1, q_word1 h5n (by omega), cl_some, m2, li_add2, q_word1 h5n (by omega), cl_some, m3, li_add, ix_nI (by omega) (by omega), li_add, ix_nI (by omega) (by omega), k2, q_frameOf hft, cl_some, hw (2228 + (elf S).1) (Or.inl (by omega)), hwd.1, ix_nI (by omega) (by omega), wr_eq, h8, hve, nI_sub (by omega), Nat.add_sub_cancel, li_add, ix_nI (by omega) (by omega), ix_nI (by omega) (by omega), wr_eq, wt_u_nk (show 3954 + 6 ≠ 3961 + 6 by omega), h7, li_sub (by omega)]
  generalize hA : wt_u (wt_u s 111 (3961 + 6) (nI (vus w S.2.1 (S.1 - 1)))) 111 (3954 + 6) (nI (S.1 - 1)) = sA
  have a5 : sA 110 5 = 1 := by rw [← hA, wt_u_ne (by omega), wt_u_ne (by omega)]; exact h1
  have a5n : sA 110 5 ≠ 0 := by rw [a5]; decide
  have aRR : RR (sA 111) V := by
    rw [← hA, wt_u_at, wt_u_at]
    exact (h2.w6 (by omega)).w6 (by omega)
  have aRG : RG s0 sA := by
    rw [← hA]
    exact h3.trans (RG.trans (RG.uf (Or.inl rfl)) (RG.uf (Or.inl rfl)))
  have aw : ∀ i, i ≠ 3961 + 6 → i ≠ 3954 + 6 → sA 111 i = s 111 i := fun i g1 g2 => by rw [← hA, wt_u_nk g2, wt_u_nk g1]
  have a67 : sA 111 (3961 + 6) = nI (vus w S.2.1 (S.1 - 1)) := by rw [← hA, wt_u_nk (by omega), wt_u_self]
  have a60 : sA 111 (3954 + 6) = nI (S.1 - 1) := by rw [← hA, wt_u_self]
  have a114 : sA 114 = s 114 := by rw [← hA, wt_u_ne (by omega), wt_u_ne (by omega)]
  unfold ert
  by_cases c : S.1 ≤ 1
  · rw [if_pos (show S.1 - 1 = 0 by omega), if_neg (by simp), if_pos c]
    unfold gX11_isDone
    rw [li_add, ix_nI (by omega) (by omega), wr_eq, li_add, ix_nI (by omega) (by omega), wr_eq, if_neg (by rw [wt_u_ne (by omega), wt_u_ne (by omega)]; exact a5n), cl_some]
    refine ⟨_, rfl, ?_, ?_, ?_, ?_, ?_, ?_, ?_⟩
    · rw [wt_u_ne (by omega), wt_u_ne (by omega)]; exact a5
    · rw [wt_u_at, wt_u_at]; exact (aRR.w6 (by omega)).w6 (by omega)
    · exact aRG.trans (RG.trans (RG.uf (Or.inl rfl)) (RG.uf (Or.inl rfl)))
    · rw [wt_u_nk (by omega), wt_u_self]
    · rw [wt_u_self]
    · rw [wt_u_nk (by omega), wt_u_nk (by omega), aw _ (by omega) (by omega)]; exact h11
    · rw [wt_u_nk (by omega), wt_u_nk (by omega), aw _ (by omega) (by omega)]; exact h10
  · have hvb := hE.2.2.2.1 (S.1 - 2) (by omega)
    rw [show S.1 - 2 + 1 = S.1 - 1 by omega] at hvb
    have hvb : vbk w (elf S) (S.2.1 (S.1 - 2)) := hvb
    obtain ⟨b1, b2, b3, b4, b5⟩ := hvb
    have hfm := (hE.2.1 (S.1 - 2) (by omega)).1
    have hlim := (h5.li hfm).2
    obtain ⟨c', c1, c2, c3⟩ := vlin_c (l := (elf S).2.2.2.1 % 32 - 1) h5 hfm b4 (by rcases b5 with ⟨-, e, -⟩ | ⟨-, e, -⟩; exact Or.inl e; exact Or.inr e)
    have hz8 := (h5.sz hfm).2
    have hvu2 := hE.vw h5 (S.1 - 2) (by omega)
    have hvm2 : vus w S.2.1 (S.1 - 1 - 1) = vus w S.2.1 (S.1 - 2) := by rw [show S.1 - 1 - 1 = S.1 - 2 by omega]
    rw [if_neg (show ¬ S.1 - 1 = 0 by omega), if_pos (nI_m1 (by rw [hvm2]; omega)), if_pos a5n, if_neg c, hvm2]
    unfold gX11_returns_108
    obtain ⟨bb1, bb2, bb3, bb4, -⟩ := bk_at hbk
    have hcn : (w (vco ((elf S).2.2.2.1 % 1024 / 32) ((elf S).2.2.2.1 % 32 - 1) + 3)).toInt.toNat = c' := by
      rw [b2, c1, nI_int (by omega)]
      rfl
    rw [hcn, bb3, bb4, li_add, ix_nI (by omega) (by omega), wr_eq, li_add, ix_nI (by omega) (by omega), wr_eq, li_add, ix_nI (by omega) (by omega), wr_eq, ix_nI (by omega) (by omega), ix_nI (by omega) (by omega), wt_u_self, wt_u_nk (show 3975 + 6 ≠ 3968 + 6 by omega), wt_u_self, li_sub (by omega), q_codeAt, cl_some, li_add2, ix_nI (by omega) (by omega)]
    generalize hBs : wt_u (wt_u (wt_u sA 111 (3982 + 6) (nI (vus w S.2.1 (S.1 - 2)))) 111 (3975 + 6) (nI ((elf S).2.2.2.1 % 1024 / 32))) 111 (3968 + 6) (nI ((elf S).2.2.2.1 % 32)) = sB
    have bw : ∀ i, i ≠ 3982 + 6 → i ≠ 3975 + 6 → i ≠ 3968 + 6 → sB 111 i = sA 111 i := fun i g1 g2 g3 => by rw [← hBs, wt_u_nk g3, wt_u_nk g2, wt_u_nk g1]
    have hco : sB 111 (2258 + 4 * (16 * ((elf S).2.2.2.1 % 1024 / 32) + ((elf S).2.2.2.1 % 32 - 1)) + 3) = nI c' := by
      rw [bw _ (by omega) (by omega) (by omega), aw _ (by omega) (by omega), hw _ (Or.inl (by omega)), b2]
      exact c1
    have hRB : RE s0 sB V w (S.1 - 1, S.2.1, (elf S).2.2.2.1 % 32, S.2.2.2) := by
      refine ⟨?_, ?_, ?_, h4, h5, h6, ?_, ?_, ?_, ?_, ?_, ?_, fun _ => ⟨?_, ?_⟩, ?_⟩
      · rw [← hBs, wt_u_ne (by omega), wt_u_ne (by omega), wt_u_ne (by omega)]; exact a5
      · rw [← hBs, wt_u_at, wt_u_at, wt_u_at]; exact ((aRR.w6 (by omega)).w6 (by omega)).w6 (by omega)
      · rw [← hBs]; exact aRG.trans (RG.trans (RG.uf (Or.inl rfl)) (RG.trans (RG.uf (Or.inl rfl)) (RG.uf (Or.inl rfl))))
      · rw [bw _ (by omega) (by omega) (by omega)]; exact a60
      · rw [bw _ (by omega) (by omega) (by omega)]; exact a67
      · rw [← hBs, wt_u_self]
      · rw [bw _ (by omega) (by omega) (by omega), aw _ (by omega) (by omega)]; exact h10
      · rw [bw _ (by omega) (by omega) (by omega), aw _ (by omega) (by omega)]; exact h11
      · rw [bw _ (by omega) (by omega) (by omega), aw _ (by omega) (by omega)]; exact h12
      · show _ = nI (vus w S.2.1 (S.1 - 1 - 1))
        rw [hvm2, ← hBs, wt_u_nk (by omega), wt_u_nk (by omega), wt_u_self]
      · show _ = nI (S.2.1 (S.1 - 1 - 1)).1
        rw [show S.1 - 1 - 1 = S.1 - 2 by omega, ← b2, ← hBs, wt_u_nk (by omega), wt_u_self]
      · have e114 : sB 114 = s 114 := by rw [← hBs, wt_u_ne (by omega), wt_u_ne (by omega), wt_u_ne (by omega)]; exact a114
        rw [e114]
        intro i hi
        have hi : i < S.1 - 1 := hi
        exact h14 i (by omega)
    have hEB : EI w (S.1 - 1, S.2.1, (elf S).2.2.2.1 % 32, S.2.2.2) := hE.pop (by omega) (by omega)
    have hRN := hRB.nu (i := S.1 - 2) (k := c') (v := v) (by show S.1 - 2 < S.1 - 1; omega) c2 c3
    have hb5 : sB 110 5 ≠ 0 := by rw [hRB.1]; decide
    rw [hco, li_add2, nI_add, q_lays1 hb5 (by omega), cl_some]
    have hend : EQ s0 (wt_u sB 114 (vus w S.2.1 (S.1 - 2) + 2 + c') v) V w S (.inl (enu (S.1 - 1, S.2.1, (elf S).2.2.2.1 % 32, S.2.2.2) (S.1 - 2) c' v)) := ⟨hRN, hEB.nu, by show S.1 - 1 ≤ S.1 + 1; omega, by show S.2.2.2.1 ≤ _; omega, rfl⟩
    by_cases cc : (nI (elf S).2.2.2.1 &&& 2048) = 0
    · rw [if_pos cc]
      exact ⟨_, rfl, hend⟩
    · have hc5 : (wt_u sB 114 (vus w S.2.1 (S.1 - 2) + 2 + c') v) 110 5 ≠ 0 := by rw [hRN.1]; decide
      rw [if_neg cc, li_add2, ix_nI (by omega) (by omega)]
      unfold gX11_foreignOver
      rw [q_counts1 hc5, cl_some, if_neg hc5, cl_some]
      exact ⟨_, rfl, hend⟩
end
