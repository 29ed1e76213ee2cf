/-! ===== the endless stack: a call ===== -/
section
variable {s0 s : wt_S} {V : vV} {w : Nat → Int32} {S : eS} {f : Nat}
theorem e_185 {p : Nat} {iP v : Int32} (hf : f < 10) (hp : Ipr w) (hfit : p + 10 ≤ 20200) : ∀ (m k fu : Nat) (s : wt_S), k + m = vsz w f → m < fu → s 110 5 = 1 → vpe w (s 111) →
    ∃ g : Nat → Int32, gX11_calls_185 fu s (nI 6) (nI f) (nI p) iP v (nI k) = (if rb (bt (w (2238 + f)) 0) ≠ iP then gX11_calls_269 (wt_uf s 114 g) (nI 6) (nI f) (nI p) else gX11_calls_269 (wt_uf s 114 (mj_upd g (p + 2) v)) (nI 6) (nI f) (nI p)) ∧ (∀ x, x < p + 2 + k → g x = s 114 x) ∧ ∀ j, k ≤ j → j < vsz w f → g (p + 2 + j) = vdf w f j := by
  have hz := hp.sz hf
  intro m
  induction m with
  | zero =>
    intro k fu s hk hfu h5 hw
    obtain ⟨fu, rfl⟩ : ∃ m, fu = m + 1 := ⟨fu - 1, by omega⟩
    obtain rfl : k = vsz w f := by omega
    refine ⟨s 114, ?_, fun _ _ => rfl, fun j h1 h2 => by omega⟩
    rw [gX11_calls_185, li_add, ix_nI (by omega) (by omega), hw _ (Or.inl (by omega)), hz.1, if_pos (Int.le_refl _), li_add, ix_nI (by omega) (by omega), hw _ (Or.inl (by omega)), q_has0, cl_some, li_add2, q_lays1 (by rw [h5]; decide) (by omega), cl_some, uf_self, u_uf]
  | succ m ih =>
    intro k fu s hk hfu h5 hw
    obtain ⟨fu, rfl⟩ : ∃ m, fu = m + 1 := ⟨fu - 1, by omega⟩
    obtain ⟨g, a1, a2, a3⟩ := ih (k + 1) fu (wt_u s 114 (p + 2 + k) (vdf w f k)) (by omega) (by omega) (by rw [wt_u_ne (by omega)]; exact h5) (by rw [wt_u_ne (by omega)]; exact hw)
    refine ⟨g, ?_, fun x hx => ?_, fun j h1 h2 => ?_⟩
    · rw [u_uf, uf_uf, uf_uf] at a1
      rw [← a1, gX11_calls_185, li_add, ix_nI (by omega) (by omega), hw _ (Or.inl (by omega)), hz.1, nI_int (by omega), nI_int (by omega), if_neg (by omega), li_add, ix_nI (by omega) (by omega), hw _ (Or.inl (by omega)), q_has, cl_some, if_rb]
      unfold gX11_calls_231
      rw [li_add2, nI_add, nI_1, q_lays1 (by rw [h5]; decide) (by omega), cl_some, q_lays1 (by rw [h5]; decide) (by omega), cl_some]
      unfold vdf
      rw [u_uf, u_uf]
      by_cases c : bt (w (2238 + f)) k
      · rw [if_pos c, if_pos c]
      · rw [if_neg c, if_neg c]
    · rw [a2 x (by omega), wt_u_nk (by omega)]
    · by_cases e : j = k
      · subst e
        rw [a2 _ (by omega), wt_u_self]
      · exact a3 j (by omega) h2
theorem e_269 {F : vF} {g : Nat → Int32} (h : RE s0 s V w S) (hq : ∀ i, i < S.1 → ∀ k, k < vsz w (S.2.1 i).1 → bt (w (2238 + (S.2.1 i).1)) k → ∀ q, (S.2.1 i).2.2.2.2.2 k = some q → q.1 ≤ i) (hF : F.1 < 10) (hn : S.1 ≤ 100000) (hvu : vus w S.2.1 S.1 ≤ 1000000) (hmo : S.2.2.2.1 ≤ 1000000) (hm : ∀ x, x < vus w S.2.1 S.1 → g x = s 114 x) (h1' : g (vus w S.2.1 S.1) = (if S.1 = 0 then -1 else nI (vus w S.2.1 (S.1 - 1)))) (h2' : g (vus w S.2.1 S.1 + 1) = nI F.2.2.2.1) (h3' : ∀ k, k < vsz w F.1 → g (vus w S.2.1 S.1 + 2 + k) = vsw w (vus w S.2.1) F k) (h4' : ∀ k, k < vsz w F.1 → bt (w (2238 + F.1)) k → ∀ q, F.2.2.2.2.2 k = some q → q.1 < S.1) :
    ∃ s', gX11_calls_269 (wt_uf s 114 g) (nI 6) (nI F.1) (nI (vus w S.2.1 S.1)) = some ((), s') ∧ RE s0 s' V w (S.1 + 1, mj_upd S.2.1 S.1 F, 0, max S.2.2.2.1 (vus w S.2.1 S.1 + vwd w F.1), S.2.2.2.2) := by
  have hw := h.pr
  obtain ⟨h1, h2, h3, h4, h5, h6, h7, h8, h9, h10, h11, h12, h13, h14⟩ := h
  have hpu := h14.push2 hm hq hF h1' h2' h3' h4'
  have hwd := (h5.wd hF).1
  have hvn : vus w (mj_upd S.2.1 S.1 F) (S.1 + 1) = vus w S.2.1 S.1 + vwd w F.1 := by
    rw [vus_1, mj_upd_self, vus_fn (fun j hj => by rw [mj_upd_ne (by omega)])]
  have hvn0 : vus w (mj_upd S.2.1 S.1 F) S.1 = vus w S.2.1 S.1 := vus_fn (fun j hj => by rw [mj_upd_ne (by omega)])
  have hw10 := (h5.wd hF).2
  unfold gX11_calls_269
  simp only [wr_eq]
  rw [li_add, ix_nI (by omega) (by omega), li_add, ix_nI (by omega) (by omega), li_add, ix_nI (by omega) (by omega), li_add, ix_nI (by omega) (by omega), ix_nI (by omega) (by omega), li_add, ix_nI (by omega) (by omega), q_frameOf hF, cl_some, ix_nI (by omega) (by omega), ix_nI (by omega) (by omega), li_add, ix_nI (by omega) (by omega), ix_nI (by omega) (by omega), ix_nI (by omega) (by omega)]
  have e111 : (wt_uf s 114 g) 111 = s 111 := wt_uf_ne (by omega)
  -- the row behind it
  generalize hA : wt_u (wt_u (wt_u (wt_uf s 114 g) 111 (3982 + 6) (nI (vus w S.2.1 S.1))) 111 (3975 + 6) (nI F.1)) 111 (3968 + 6) 0 = sA
  have a60 : sA 111 (3954 + 6) = nI S.1 := by rw [← hA, wt_u_nk (by omega), wt_u_nk (by omega), wt_u_nk (by omega), e111]; exact h7
  have a67 : sA 111 (3961 + 6) = nI (vus w S.2.1 S.1) := by rw [← hA, wt_u_nk (by omega), wt_u_nk (by omega), wt_u_nk (by omega), e111]; exact h8
  have a51 : sA 111 (4045 + 6) = nI S.2.2.2.1 := by rw [← hA, wt_u_nk (by omega), wt_u_nk (by omega), wt_u_nk (by omega), e111]; exact h10
  have a53 : sA 111 (3947 + 6) = nI S.2.2.2.2 := by rw [← hA, wt_u_nk (by omega), wt_u_nk (by omega), wt_u_nk (by omega), e111]; exact h11
  have a32 : sA 111 (3926 + 6) = 1 := by rw [← hA, wt_u_nk (by omega), wt_u_nk (by omega), wt_u_nk (by omega), e111]; exact h12
  have a88 : sA 111 (3982 + 6) = nI (vus w S.2.1 S.1) := by rw [← hA, wt_u_nk (by omega), wt_u_nk (by omega), wt_u_self]
  have a81 : sA 111 (3975 + 6) = nI F.1 := by rw [← hA, wt_u_nk (by omega), wt_u_self]
  have a74 : sA 111 (3968 + 6) = 0 := by rw [← hA, wt_u_self]
  have aRR : RR (sA 111) V := by
    rw [← hA, wt_u_at, wt_u_at, wt_u_at, e111]
    exact ((h2.w6 (by omega)).w6 (by omega)).w6 (by omega)
  have aRG : RG s0 sA := by
    rw [← hA]
    exact h3.trans (RG.trans (RG.uf (Or.inr (by omega))) (RG.trans (RG.uf (Or.inl rfl)) (RG.trans (RG.uf (Or.inl rfl)) (RG.uf (Or.inl rfl)))))
  have a5 : sA 110 5 = 1 := by rw [← hA, wt_u_ne (by omega), wt_u_ne (by omega), wt_u_ne (by omega), wt_uf_ne (by omega)]; exact h1
  have a114 : sA 114 = g := by rw [← hA, wt_u_ne (by omega), wt_u_ne (by omega), wt_u_ne (by omega), wt_uf_at]
  have a28 : sA 111 (2228 + F.1) = w (2228 + F.1) := by
    rw [← hA, wt_u_nk (by omega), wt_u_nk (by omega), wt_u_nk (by omega), e111]
    exact hw _ (Or.inl (by omega))
  rw [a60, nI_1, wt_u_nk (show 3961 + 6 ≠ 3954 + 6 by omega), a67, wt_u_nk (show 2228 + F.1 ≠ 3954 + 6 by omega), a28, hwd, nI_add, wt_u_self, wt_u_nk (show 4045 + 6 ≠ 3961 + 6 by omega), wt_u_nk (show 4045 + 6 ≠ 3954 + 6 by omega), a51, nI_int (by omega), nI_int (by omega)]
  have fin : ∀ (s' : wt_S) (mo : Nat), s' 110 5 = 1 → RR (s' 111) V → RG s0 s' → s' 114 = g → s' 111 (3954 + 6) = nI (S.1 + 1) → s' 111 (3961 + 6) = nI (vus w S.2.1 S.1 + vwd w F.1) → s' 111 (3968 + 6) = nI 0 → s' 111 (4045 + 6) = nI mo → s' 111 (3947 + 6) = nI S.2.2.2.2 → s' 111 (3926 + 6) = 1 → s' 111 (3982 + 6) = nI (vus w S.2.1 S.1) → s' 111 (3975 + 6) = nI F.1 → RE s0 s' V w (S.1 + 1, mj_upd S.2.1 S.1 F, 0, mo, S.2.2.2.2) := by
    intro s' mo g1 g2 g3 g4 g5 g6 g7 g8 g9 g10 g11 g12
    refine ⟨g1, g2, g3, h4, h5, h6, g5, ?_, g7, g8, g9, g10, fun _ => ⟨?_, ?_⟩, ?_⟩
    · show _ = nI (vus w (mj_upd S.2.1 S.1 F) (S.1 + 1))
      rw [hvn]; exact g6
    · show _ = nI (vus w (mj_upd S.2.1 S.1 F) (S.1 + 1 - 1))
      rw [Nat.add_sub_cancel, hvn0]; exact g11
    · show _ = nI (mj_upd S.2.1 S.1 F (S.1 + 1 - 1)).1
      rw [Nat.add_sub_cancel, mj_upd_self]; exact g12
    · rw [g4]; exact hpu
  split
  · rename_i c
    refine ⟨_, rfl, ?_⟩
    rw [Nat.max_eq_left (by omega)]
    refine fin _ _ ?_ ?_ ?_ ?_ ?_ ?_ ?_ ?_ ?_ ?_ ?_ ?_
    · rw [wt_u_ne (by omega), wt_u_ne (by omega)]; exact a5
    · rw [wt_u_at, wt_u_at]; exact (aRR.w6 (by omega)).w6 (by omega)
    · exact aRG.trans (RG.trans (RG.uf (Or.inl rfl)) (RG.uf (Or.inl rfl)))
    · rw [wt_u_ne (by omega), wt_u_ne (by omega)]; exact a114
    · rw [wt_u_nk (by omega), wt_u_self]
    · rw [wt_u_self]
    · rw [wt_u_nk (by omega), wt_u_nk (by omega)]; exact a74
    · rw [wt_u_nk (by omega), wt_u_nk (by omega)]; exact a51
    · rw [wt_u_nk (by omega), wt_u_nk (by omega)]; exact a53
    · rw [wt_u_nk (by omega), wt_u_nk (by omega)]; exact a32
    · rw [wt_u_nk (by omega), wt_u_nk (by omega)]; exact a88
    · rw [wt_u_nk (by omega), wt_u_nk (by omega)]; exact a81
  · rename_i c
    refine ⟨_, rfl, ?_⟩
    rw [Nat.max_eq_right (by omega)]
    refine fin _ _ ?_ ?_ ?_ ?_ ?_ ?_ ?_ ?_ ?_ ?_ ?_ ?_
    · rw [wt_u_ne (by omega), wt_u_ne (by omega), wt_u_ne (by omega)]; exact a5
    · rw [wt_u_at, wt_u_at, wt_u_at]; exact ((aRR.w6 (by omega)).w6 (by omega)).w6 (by omega)
    · exact aRG.trans (RG.trans (RG.uf (Or.inl rfl)) (RG.trans (RG.uf (Or.inl rfl)) (RG.uf (Or.inl rfl))))
    · rw [wt_u_ne (by omega), wt_u_ne (by omega), wt_u_ne (by omega)]; exact a114
    · rw [wt_u_nk (by omega), wt_u_nk (by omega), wt_u_self]
    · rw [wt_u_nk (by omega), wt_u_self]
    · rw [wt_u_nk (by omega), wt_u_nk (by omega), wt_u_nk (by omega)]; exact a74
    · rw [wt_u_self]
    · rw [wt_u_nk (by omega), wt_u_nk (by omega), wt_u_nk (by omega)]; exact a53
    · rw [wt_u_nk (by omega), wt_u_nk (by omega), wt_u_nk (by omega)]; exact a32
    · rw [wt_u_nk (by omega), wt_u_nk (by omega), wt_u_nk (by omega)]; exact a88
    · rw [wt_u_nk (by omega), wt_u_nk (by omega), wt_u_nk (by omega)]; exact a81
theorem e_149 {bk : Nat} {iP v base : Int32} {hh : Int32 × Option (Nat × Nat)} (h : RE s0 s V w S) (hq : ∀ i, i < S.1 → ∀ k, k < vsz w (S.2.1 i).1 → bt (w (2238 + (S.2.1 i).1)) k → ∀ q, (S.2.1 i).2.2.2.2.2 k = some q → q.1 ≤ i) (hf : f < 10) (hs1 : 1 ≤ vsz w f) (hn : S.1 ≤ 2001) (hvu : vus w S.2.1 S.1 ≤ 20100) (hmo : S.2.2.2.1 ≤ 1000000) (hb : base = (if S.1 = 0 then -1 else nI (vus w S.2.1 (S.1 - 1))))
    (hv : (if rb (bt (w (2238 + f)) 0) ≠ iP then vdf w f 0 else v) = vsw w (vus w S.2.1) (eFr f (ebk w S f bk) hh) 0) (h4 : bt (w (2238 + f)) 0 → ∀ x, hh.2 = some x → x.1 < S.1) :
    ∃ s', gX11_calls_149 s (nI 6) (nI f) (nI bk) (rb (ecv S = true)) (nI (vus w S.2.1 S.1)) iP v (nI (vus w S.2.1 S.1)) base = some ((), s') ∧ RE s0 s' V w (epu w S f bk hh) := by
  have hw := h.pr
  have h5 := h.1
  have hip := h.2.2.2.2.1
  obtain ⟨z2, r1, r2⟩ := h.2.2.2.2.2.1
  have hz := hip.sz hf
  generalize hP : vus w S.2.1 S.1 = p at *
  generalize hB : ebk w S f bk = B at *
  have hB' : bk + (if ecv S = true ∨ vmg w f = true then 1024 else 0) = B := hB
  obtain ⟨g, a1, a2, a3⟩ := e_185 (w := w) (f := f) (p := p) (iP := iP) (v := v) hf hip (by omega) (vsz w f) 0 wt_N (wt_u (wt_u s 114 p base) 114 (p + 1) (nI B)) (by omega) (by unfold wt_N; omega) (by rw [wt_u_ne (by omega), wt_u_ne (by omega)]; exact h5) (by rw [wt_u_ne (by omega), wt_u_ne (by omega)]; exact hw)
  have hvk : ∀ j, 0 < j → vsw w (vus w S.2.1) (eFr f B hh) j = vdf w f j := fun j hj2 => by
    unfold vsw vdf
    show (if bt (w (2238 + f)) j then (match (if j = 0 then hh.2 else none) with | none => (-1 : Int32) | some q => nI (vus w S.2.1 q.1 + 2 + q.2)) else (if j = 0 then hh.1 else 0)) = _
    rw [if_neg (show ¬ j = 0 by omega), if_neg (show ¬ j = 0 by omega)]
  have gp : g p = base := by rw [a2 p (by omega), wt_u_nk (by omega), wt_u_self]
  have gp1 : g (p + 1) = nI B := by rw [a2 (p + 1) (by omega), wt_u_self]
  have glt : ∀ x, x < p → g x = s 114 x := fun x hx => by rw [a2 x (by omega), wt_u_nk (by omega), wt_u_nk (by omega)]
  have fin : ∀ g' : Nat → Int32, (∀ x, x < p + 2 → g' x = g x) → (∀ j, j < vsz w f → g' (p + 2 + j) = vsw w (vus w S.2.1) (eFr f B hh) j) → ∃ s', gX11_calls_269 (wt_uf s 114 g') (nI 6) (nI f) (nI p) = some ((), s') ∧ RE s0 s' V w (epu w S f bk hh) := by
    intro g' q1 q2
    have := e_269 (F := eFr f B hh) (g := g') h hq hf (by omega) (by omega) hmo (fun x hx => by rw [hP] at hx; rw [q1 x (by omega), glt x hx]) (by rw [hP, q1 p (by omega), gp]; exact hb) (by rw [hP, q1 (p + 1) (by omega)]; exact gp1) (fun k hk => by rw [hP]; exact q2 k hk) (fun k hk hbk q hqq => by
      have hqq : (if k = 0 then hh.2 else none) = some q := hqq
      by_cases e : k = 0
      · subst e
        rw [if_pos rfl] at hqq
        exact h4 hbk q hqq
      · rw [if_neg e] at hqq
        cases hqq)
    rw [hP] at this
    have e : epu w S f bk hh = (S.1 + 1, mj_upd S.2.1 S.1 (eFr f B hh), 0, max S.2.2.2.1 (p + vwd w f), S.2.2.2.2) := by
      unfold epu
      rw [hP, hB]
    rw [e]
    exact this
  have hend : ∃ s', (if rb (bt (w (2238 + f)) 0) ≠ iP then gX11_calls_269 (wt_uf s 114 g) (nI 6) (nI f) (nI p) else gX11_calls_269 (wt_uf s 114 (mj_upd g (p + 2) v)) (nI 6) (nI f) (nI p)) = some ((), s') ∧ RE s0 s' V w (epu w S f bk hh) := by
    by_cases ci : rb (bt (w (2238 + f)) 0) ≠ iP
    · rw [if_pos ci] at hv ⊢
      refine fin g (fun _ _ => rfl) (fun j hj2 => ?_)
      rw [a3 j (by omega) hj2]
      by_cases e : j = 0
      · subst e; exact hv
      · exact (hvk j (by omega)).symm
    · rw [if_neg ci] at hv ⊢
      refine fin (mj_upd g (p + 2) v) (fun x hx => mj_upd_ne (by omega)) (fun j hj2 => ?_)
      by_cases e : j = 0
      · subst e
        rw [Nat.add_zero, mj_upd_self]; exact hv
      · rw [mj_upd_ne (by omega), a3 j (by omega) hj2]; exact (hvk j (by omega)).symm
  obtain ⟨s', b1, b2⟩ := hend
  refine ⟨s', ?_, b2⟩
  rw [u_uf, u_uf, wt_uf_at, uf_uf, uf_uf, uf_uf] at a1
  unfold gX11_calls_149
  rw [q_lays1 (by rw [h5]; decide) (by omega), cl_some]
  have hs1 : (wt_u s 114 p base) 110 5 = 1 := by rw [wt_u_ne (by omega)]; exact h5
  have h178 : ∀ z3 : Int32, nI bk + z3 = nI B → gX11_calls_178 (wt_u s 114 p base) (nI 6) (nI f) (nI p) iP v (nI p + 1) (nI bk) z3 = some ((), s') := fun z3 hz3 => by
    unfold gX11_calls_178
    rw [hz3, li_add2, q_lays1 (by rw [hs1]; decide) (by omega), cl_some, show (0 : Int32) = nI 0 from rfl, u_uf, u_uf, wt_uf_at, uf_uf]
    exact a1.trans b1
  by_cases c6 : ecv S = true
  · rw [if_pos (by rw [rb_pos c6]; decide)]
    unfold gX11_calls_171
    refine h178 1024 ?_
    rw [← hB', if_pos (Or.inl c6), li_add2]
  · have hw1 : vpe w ((wt_u s 114 p base) 111) := by rw [wt_u_ne (by omega)]; exact hw
    rw [if_neg (by rw [rb_neg c6]; decide), q_isMerged (z := z2) (hip.ww hw1) hf (by rw [hw1 _ (Or.inr (Or.inr rfl))]; exact r1) r2, cl_some, if_rb]
    rw [(hw1.mg hip hf).1]
    by_cases cm : vmg w f = true
    · rw [if_pos cm]
      unfold gX11_calls_171
      refine h178 1024 ?_
      rw [← hB', if_pos (Or.inr cm), li_add2]
    · rw [if_neg cm]
      refine h178 0 ?_
      rw [← hB', if_neg (fun e => e.elim c6 cm), Int32.add_zero, Nat.add_zero]
/-- where it comes -/
theorem e_cov (h : RE s0 s V w S) (hI : 0 < S.1 → EI w S) (hn : S.1 ≤ 2001) : gX11_isCovered s (nI 6) = some (rb (ecv S = true), s) := by
  have hw := h.pr
  obtain ⟨h1, h2, h3, h4, h5, h6, h7, h8, h9, h10, h11, h12, h13, h14⟩ := h
  unfold gX11_isCovered
  rw [li_add, ix_nI (by omega) (by omega), h7, nI_int (by omega)]
  by_cases c : S.1 = 0
  · rw [if_pos (by show _ ≤ (0 : Int); omega), rb_neg (by unfold ecv; simp [c])]
  · have hE := hI (by omega)
    obtain ⟨k1, k2⟩ := h13 (by omega)
    have hvu := hE.vw h5 (S.1 - 1) (by omega)
    obtain ⟨m1, m2, m3, m4⟩ := h14 (S.1 - 1) (by omega)
    have hbk : (elf S).2.2.2.1 < 4096 := by
      by_cases e : S.1 = 1
      · have : elf S = S.2.1 0 := by unfold elf; rw [e]
        rw [this]
        rcases hE.2.2.1 with g | g <;> omega
      · have := (hE.2.2.2.1 (S.1 - 2) (by omega)).1
        rw [show S.1 - 2 + 1 = S.1 - 1 by omega] at this
        exact this
    rw [if_neg (by show ¬ _ ≤ (0 : Int); omega), li_add, ix_nI (by omega) (by omega), k1, li_add2, q_word1 (by rw [h1]; decide) (by omega), cl_some, m3]
    obtain ⟨bb1, -⟩ := bk_at hbk
    by_cases cb : (elf S).2.2.2.1 / 1024 % 2 = 0
    · rw [if_pos (show nI (S.2.1 (S.1 - 1)).2.2.2.1 &&& 1024 = 0 from bb1.mpr cb), rb_neg (by unfold ecv; simp; intro _; omega)]
    · rw [if_neg (show ¬ nI (S.2.1 (S.1 - 1)).2.2.2.1 &&& 1024 = 0 from fun e => cb (bb1.mp e)), rb_pos (by unfold ecv; simp; omega)]
theorem e_top (h : RE s0 s V w S) (hI : 0 < S.1 → EI w S) (hn : S.1 ≤ 2001) : gX11_topOf s (nI 6) = some (nI (vus w S.2.1 S.1), s) := by
  have hw := h.pr
  obtain ⟨h1, h2, h3, h4, h5, h6, h7, h8, h9, h10, h11, h12, h13, h14⟩ := h
  unfold gX11_topOf
  rw [li_add, ix_nI (by omega) (by omega), h7, nI_int (by omega)]
  by_cases c : S.1 = 0
  · rw [if_pos (by show _ ≤ (0 : Int); omega), if_neg (by rw [h1]; decide), c]
    rfl
  · have hE := hI (by omega)
    obtain ⟨k1, k2⟩ := h13 (by omega)
    have hf := (hE.2.1 (S.1 - 1) (by omega)).1
    have hf : (elf S).1 < 10 := hf
    rw [if_neg (by show ¬ _ ≤ (0 : Int); omega), li_add, ix_nI (by omega) (by omega), k1, li_add, ix_nI (by omega) (by omega), k2, q_frameOf hf, cl_some, hw _ (Or.inl (by omega)), (h5.wd hf).1, nI_add]
    have : vus w S.2.1 S.1 = vus w S.2.1 (S.1 - 1) + vwd w (elf S).1 := by
      have := vus_1 (w := w) (fr := S.2.1) (n := S.1 - 1)
      rw [show S.1 - 1 + 1 = S.1 by omega] at this
      exact this
    rw [this]
/-- all behind the place -/
theorem e_26 {bk : Nat} {slot a : Int32} {hh : Int32 × Option (Nat × Nat)} (h : RE s0 s V w S) (hI : 0 < S.1 → EI w S) (hf : f < 10) (hs1 : 1 ≤ vsz w f) (hn : S.1 ≤ 2000) (hmo : S.2.2.2.1 ≤ 1000000)
    (hsl : (slot = -1 ∧ S.1 = 0 ∧ hh = (if bt (w (2238 + f)) 0 then 0 else a, none)) ∨ ∃ k0, slot = nI k0 ∧ 0 < S.1 ∧ k0 < vsz w (elf S).1 ∧ hh = vha w f (elf S) k0) :
    ∃ s', gX11_calls_40 s (nI 6) (nI f) (nI bk) slot a (rb (ecv S = true)) (nI (vus w S.2.1 S.1)) = some ((), s') ∧ RE s0 s' V w (epu w S f bk hh) := by
  have hw := h.pr
  have h0 := h
  obtain ⟨h1, h2, h3, h4, h5, h6, h7, h8, h9, h10, h11, h12, h13, h14⟩ := h0
  have hvu : vus w S.2.1 S.1 ≤ 20000 := by
    by_cases c : S.1 = 0
    · rw [c]; exact Nat.zero_le _
    · have := (hI (by omega)).vw h5 S.1 (Nat.le_refl _)
      omega
  have hq : ∀ i, i < S.1 → ∀ k, k < vsz w (S.2.1 i).1 → bt (w (2238 + (S.2.1 i).1)) k → ∀ q, (S.2.1 i).2.2.2.2.2 k = some q → q.1 ≤ i := fun i hi k hk hb q hq => ((hI (by omega)).2.2.2.2.1 i hi k hk hb q hq).1
  unfold gX11_calls_40
  rw [if_pos (nI_m1 (by omega))]
  rcases hsl with ⟨e1, e2, e3⟩ | ⟨k0, e1, e2, e3, e4⟩
  · subst e1
    rw [if_pos rfl]
    unfold gX11_calls_84 gX11_calls_85
    rw [if_neg (by simp)]
    unfold gX11_calls_117
    rw [li_add, ix_nI (by omega) (by omega), h7, if_neg (by rw [e2]; simp [show nI 0 = (0 : Int32) from rfl])]
    refine e_149 (hh := hh) h hq hf hs1 (by omega) (by omega) hmo (by rw [if_pos e2]) ?_ (fun _ x hx => by rw [e3] at hx; cases hx)
    rw [e3]
    unfold vsw vdf
    show _ = (if bt (w (2238 + f)) 0 then (-1 : Int32) else (if bt (w (2238 + f)) 0 then 0 else a))
    by_cases c : bt (w (2238 + f)) 0
    · rw [rb_pos c, if_pos (by decide), if_pos c, if_pos c]
    · rw [rb_neg c, if_neg (by simp), if_neg c, if_neg c]
  · subst e1
    have hE := hI e2
    obtain ⟨k1, k2⟩ := h13 e2
    have hft : (elf S).1 < 10 := (hE.2.1 (S.1 - 1) (by omega)).1
    have hz := h5.sz hft
    have hkne : ¬ nI k0 = -1 := nI_m1 (by omega)
    have hword := (h14 (S.1 - 1) (by omega)).2.2.2 k0 e3
    have hvl := vus_lt (w := w) (fr := S.2.1) (show S.1 - 1 < S.1 by omega)
    unfold vwd at hvl
    have e3' : k0 < vsz w (S.2.1 (S.1 - 1)).1 := e3
    have htail : ∀ iP : Int32, iP = rb (bt (w (2238 + (elf S).1)) k0) → ∃ s', gX11_calls_85 s (nI 6) (nI f) (nI bk) (nI k0) a (rb (ecv S = true)) (nI (vus w S.2.1 S.1)) iP = some ((), s') ∧ RE s0 s' V w (epu w S f bk hh) := by
      intro iP hiP
      obtain ⟨s', f1, f2⟩ := e_149 (bk := bk) (iP := iP) (v := vsw w (vus w S.2.1) (elf S) k0) (base := nI (vus w S.2.1 (S.1 - 1))) (hh := hh) h hq hf hs1 (by omega) (by omega) hmo (by rw [if_neg (by omega)]) (by
        rw [hiP, e4]
        exact vha_word) (fun hbf x hx => by
        rw [e4] at hx
        unfold vha at hx
        by_cases cb : bt (w (2238 + (elf S).1)) k0
        · rw [if_pos cb] at hx
          simp only [if_pos hbf] at hx
          have := (hE.2.2.2.2.1 (S.1 - 1) (by omega) k0 e3 cb x hx).1
          omega
        · rw [if_neg cb] at hx
          cases hx)
      refine ⟨s', ?_, f2⟩
      unfold gX11_calls_85
      rw [if_pos hkne, li_add, ix_nI (by omega) (by omega), k1, li_add2, nI_add, q_word1 (by rw [h1]; decide) (by omega), cl_some, hword]
      unfold gX11_calls_117
      rw [li_add, ix_nI (by omega) (by omega), h7, if_pos (fun e => by
        have := (nI_inj (a := S.1) (b := 0) (by omega) (by omega)).mp e
        omega), li_add, ix_nI (by omega) (by omega), k1]
      exact f1
    rw [if_neg hkne, li_add, ix_nI (by omega) (by omega), k2, li_add, ix_nI (by omega) (by omega), hw _ (Or.inl (by omega)), q_has, cl_some, if_rb]
    unfold gX11_calls_84
    by_cases cb : bt (w (2238 + (elf S).1)) k0
    · rw [if_pos cb]
      exact htail 1 (rb_pos cb).symm
    · rw [if_neg cb]
      exact htail 0 (rb_neg cb).symm
theorem e_calls {bk : Nat} {slot a : Int32} {hh : Int32 × Option (Nat × Nat)} (h : RE s0 s V w S) (hI : 0 < S.1 → EI w S) (hf : f < 10) (hs1 : 1 ≤ vsz w f) (hn : S.1 ≤ 2000) (hmo : S.2.2.2.1 ≤ 1000000)
    (hsl : (slot = -1 ∧ S.1 = 0 ∧ hh = (if bt (w (2238 + f)) 0 then 0 else a, none)) ∨ ∃ k0, slot = nI k0 ∧ 0 < S.1 ∧ k0 < vsz w (elf S).1 ∧ hh = vha w f (elf S) k0) :
    ∃ s', gX11_calls s (nI 6) (nI f) (nI bk) slot a = some ((), s') ∧ RE s0 s' V w (epu w S f bk hh) := by
  unfold gX11_calls
  rw [e_cov h hI (by omega), cl_some, if_rb]
  by_cases c : ecv S = true
  · rw [if_pos c, e_top h hI (by omega), cl_some]
    unfold gX11_calls_26
    have h5 : s 110 5 ≠ 0 := by rw [h.1]; decide
    rw [if_neg (by rw [rb_pos c]; decide), q_counts1 h5, cl_some]
    exact e_26 h hI hf hs1 hn hmo hsl
  · rw [if_neg c]
    unfold gX11_roomFor
    rw [e_top h hI (by omega), cl_some, li_add, ix_nI (by omega) (by omega), ix_nI (by omega) (by omega), wr_eq]
    have h' : RE s0 (wt_u s 111 (4003 + 6) (s 111 (4003 + 6) + 1)) V w S := h.u (by omega) (by omega)
    have h5 : (wt_u s 111 (4003 + 6) (s 111 (4003 + 6) + 1)) 110 5 ≠ 0 := by rw [h'.1]; decide
    rw [q_counts1 h5, cl_some, if_neg h5, cl_some]
    unfold gX11_calls_26
    rw [if_pos (by rw [rb_neg c])]
    exact e_26 h' hI hf hs1 hn hmo hsl
end
