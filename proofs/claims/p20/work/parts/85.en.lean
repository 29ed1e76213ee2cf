section
/-! ===== the endless stack: a machine of its own ===== -/
/-- how many frames, the frames, the line that comes next, the most words, steps -/
abbrev eS : Type := Nat × (Nat → vF) × Nat × Nat × Nat
def eNu (F : vF) (k : Nat) (v : Int32) : vF := (F.1, F.2.1, F.2.2.1, F.2.2.2.1, mj_upd F.2.2.2.2.1 k v, F.2.2.2.2.2)
def ePo (F : vF) (k : Nat) (q : Option (Nat × Nat)) : vF := (F.1, F.2.1, F.2.2.1, F.2.2.2.1, F.2.2.2.2.1, mj_upd F.2.2.2.2.2 k q)
def enu (S : eS) (i k : Nat) (v : Int32) : eS := (S.1, mj_upd S.2.1 i (eNu (S.2.1 i) k v), S.2.2)
def epo (S : eS) (i k : Nat) (q : Option (Nat × Nat)) : eS := (S.1, mj_upd S.2.1 i (ePo (S.2.1 i) k q), S.2.2)
def elf (S : eS) : vF := S.2.1 (S.1 - 1)
def ecv (S : eS) : Bool := decide (0 < S.1) && decide ((elf S).2.2.2.1 / 1024 % 2 = 1)
def ebk (w : Nat → Int32) (S : eS) (f bk : Nat) : Nat := bk + if ecv S = true ∨ vmg w f = true then 1024 else 0
def eFr (f bk : Nat) (h : Int32 × Option (Nat × Nat)) : vF := (f, 0, 0, bk, (fun k => if k = 0 then h.1 else 0), (fun k => if k = 0 then h.2 else none))
def epu (w : Nat → Int32) (S : eS) (f bk : Nat) (h : Int32 × Option (Nat × Nat)) : eS := (S.1 + 1, mj_upd S.2.1 S.1 (eFr f (ebk w S f bk) h), 0, max S.2.2.2.1 (vus w S.2.1 S.1 + vwd w f), S.2.2.2.2)
def eli (S : eS) (l : Nat) : eS := (S.1, S.2.1, l, S.2.2.2)
def ert (w : Nat → Int32) (S : eS) (v : Int32) : eS ⊕ Int32 := if S.1 ≤ 1 then .inr v else .inl (enu (S.1 - 1, S.2.1, (elf S).2.2.2.1 % 32, S.2.2.2) (S.1 - 2) (w (vco ((elf S).2.2.2.1 % 1024 / 32) ((elf S).2.2.2.1 % 32 - 1) + 3)).toInt.toNat v)
def eln (w : Nat → Int32) (S : eS) (l : Nat) (kind a b c : Int32) : eS ⊕ Int32 :=
  let i := S.1 - 1
  let F := elf S
  if kind = 0 then .inl (enu S i a.toInt.toNat b)
  else if kind = 1 then .inl (enu S i a.toInt.toNat (vnm F b + vnm F c))
  else if kind = 2 then .inl (enu S i a.toInt.toNat (if (vnm F c).toInt ≤ (vnm F b).toInt then 0 else 1))
  else if kind = 3 then .inl (epo S i a.toInt.toNat (some (i, b.toInt.toNat)))
  else if kind = 4 then .inl (enu S i a.toInt.toNat (match F.2.2.2.2.2 b.toInt.toNat with
    | none => 0
    | some q => (S.2.1 q.1).2.2.2.2.1 q.2))
  else if kind = 5 then .inl (match F.2.2.2.2.2 a.toInt.toNat with
    | none => S
    | some q => enu S q.1 q.2 (vnm F b))
  else if kind = 6 then .inl (if tld w a then epu w S a.toInt.toNat (32 * F.1 + l + 1) (vha w a.toInt.toNat F b.toInt.toNat) else enu S i c.toInt.toNat 0)
  else if kind = 7 then .inl (if (vnm F a).toInt ≤ 0 then S else eli S b.toInt.toNat)
  else if kind = 8 then ert w S (vnm F a)
  else if kind = 9 then .inl (if tld w b then epu w S b.toInt.toNat (32 * F.1 + l + 1 + 2048) (vha w b.toInt.toNat F c.toInt.toNat) else enu S i c.toInt.toNat (3 * vnm F c + 1))
  else .inl S
def est (w : Nat → Int32) (S : eS) : eS ⊕ Int32 :=
  let f := (elf S).1
  let l := S.2.2.1
  let S1 : eS := (S.1, S.2.1, l, S.2.2.2.1, S.2.2.2.2 + 1)
  if l < vli w f then eln w (eli S1 (l + 1)) l (w (vco f l)) (w (vco f l + 1)) (w (vco f l + 2)) (w (vco f l + 3)) else ert w S1 0
/-- what always holds there -/
def EI (w : Nat → Int32) (S : eS) : Prop := 1 ≤ S.1 ∧ (∀ i, i < S.1 → (S.2.1 i).1 < 10 ∧ 1 ≤ vsz w (S.2.1 i).1) ∧ ((S.2.1 0).2.2.2.1 = 0 ∨ (S.2.1 0).2.2.2.1 = 1024) ∧ (∀ i, i + 1 < S.1 → vbk w (S.2.1 (i + 1)) (S.2.1 i)) ∧
  (∀ i, i < S.1 → ∀ k, k < vsz w (S.2.1 i).1 → bt (w (2238 + (S.2.1 i).1)) k → ∀ q, (S.2.1 i).2.2.2.2.2 k = some q → q.1 ≤ i ∧ q.2 < vsz w (S.2.1 q.1).1 ∧ ¬ bt (w (2238 + (S.2.1 q.1).1)) q.2) ∧ S.2.2.1 ≤ 16
theorem vus_lt {w : Nat → Int32} {fr : Nat → vF} {i j : Nat} (h : i < j) : vus w fr i + vwd w (fr i).1 ≤ vus w fr j := by
  induction j with
  | zero => omega
  | succ j ih =>
    rw [vus_1]
    by_cases e : i = j
    · subst e; exact Nat.le_refl _
    · have := ih (by omega)
      omega
theorem vus_fn {w : Nat → Int32} {fr fr' : Nat → vF} : ∀ {n : Nat}, (∀ i, i < n → (fr' i).1 = (fr i).1) → vus w fr' n = vus w fr n := by
  intro n
  induction n with
  | zero => intro _; rfl
  | succ n ih =>
    intro h
    rw [vus_1, vus_1, ih (fun i hi => h i (by omega)), h n (by omega)]
theorem vus_le {w : Nat → Int32} {fr : Nat → vF} : ∀ {n : Nat}, (∀ i, i < n → vwd w (fr i).1 ≤ 10) → vus w fr n ≤ 10 * n := by
  intro n
  induction n with
  | zero => intro _; exact Nat.le_refl _
  | succ n ih =>
    intro h
    have := ih (fun i hi => h i (by omega))
    have := h n (by omega)
    rw [vus_1]
    omega
section
variable {w mm mm' : Nat → Int32} {n : Nat} {fr : Nat → vF} {F : vF}
/-- a slot is written -/
theorem MR.set2 {i k : Nat} {v : Int32} (h : MR mm w n fr (vus w fr)) (hi : i < n) (hk : k < vsz w (fr i).1) (h1 : F.1 = (fr i).1) (h4 : F.2.2.2.1 = (fr i).2.2.2.1) (hv : vsw w (vus w fr) F k = v) (hs : ∀ k', k' ≠ k → vsw w (vus w fr) F k' = vsw w (vus w fr) (fr i) k') : MR (mj_upd mm (vus w fr i + 2 + k) v) w n (mj_upd fr i F) (vus w (mj_upd fr i F)) := by
  have hf1 : ∀ j, (mj_upd fr i F j).1 = (fr j).1 := fun j => by
    by_cases e : j = i
    · subst e; rw [mj_upd_self, h1]
    · rw [mj_upd_ne e]
  have ep : vus w (mj_upd fr i F) = vus w fr := funext fun m => vus_fn (fun j _ => hf1 j)
  rw [ep]
  intro j hj
  obtain ⟨g1, g2, g3, g4⟩ := h j hj
  by_cases e : j = i
  · subst e
    rw [mj_upd_self, h1, h4]
    refine ⟨g1, ?_, ?_, fun k' hk' => ?_⟩
    · rw [mj_upd_ne (by omega)]; exact g2
    · rw [mj_upd_ne (by omega)]; exact g3
    · by_cases ek : k' = k
      · subst ek
        rw [mj_upd_self, hv]
      · rw [mj_upd_ne (by omega), hs k' ek]
        exact g4 k' hk'
  · rw [mj_upd_ne e]
    have hd : vus w fr i + vwd w (fr i).1 ≤ vus w fr j ∨ vus w fr j + vwd w (fr j).1 ≤ vus w fr i := by
      rcases Nat.lt_or_gt_of_ne e with c | c
      · exact Or.inr (vus_lt c)
      · exact Or.inl (vus_lt c)
    unfold vwd at hd
    refine ⟨g1, ?_, ?_, fun k' hk' => ?_⟩
    · rw [mj_upd_ne (by omega)]; exact g2
    · rw [mj_upd_ne (by omega)]; exact g3
    · rw [mj_upd_ne (by omega)]; exact g4 k' hk'
/-- a frame comes -/
theorem MR.push2 (h : MR mm w n fr (vus w fr)) (hm : ∀ x, x < vus w fr n → mm' x = mm x) (hq : ∀ i, i < n → ∀ k, k < vsz w (fr i).1 → bt (w (2238 + (fr i).1)) k → ∀ q, (fr i).2.2.2.2.2 k = some q → q.1 ≤ i) (hF : F.1 < 10) (h1 : mm' (vus w fr n) = (if n = 0 then -1 else nI (vus w fr (n - 1)))) (h2 : mm' (vus w fr n + 1) = nI F.2.2.2.1) (h3 : ∀ k, k < vsz w F.1 → mm' (vus w fr n + 2 + k) = vsw w (vus w fr) F k) (h4 : ∀ k, k < vsz w F.1 → bt (w (2238 + F.1)) k → ∀ q, F.2.2.2.2.2 k = some q → q.1 < n) : MR mm' w (n + 1) (mj_upd fr n F) (vus w (mj_upd fr n F)) := by
  have ep : ∀ m, m ≤ n → vus w (mj_upd fr n F) m = vus w fr m := fun m hm => vus_fn (fun j hj => by rw [mj_upd_ne (by omega)])
  intro i hi
  by_cases e : i = n
  · subst e
    rw [mj_upd_self, ep i (Nat.le_refl _)]
    refine ⟨hF, ?_, h2, fun k hk => ?_⟩
    · rw [h1]
      by_cases c : i = 0
      · rw [if_pos c, if_pos c]
      · rw [if_neg c, if_neg c, ep _ (by omega)]
    · rw [h3 k hk]
      unfold vsw
      by_cases cb : bt (w (2238 + F.1)) k
      · rw [if_pos cb, if_pos cb]
        cases eq : F.2.2.2.2.2 k with
        | none => rfl
        | some q =>
          show nI _ = nI _
          rw [ep _ (by have := h4 k hk cb q eq; omega)]
      · rw [if_neg cb, if_neg cb]
  · obtain ⟨g1, g2, g3, g4⟩ := h i (by omega)
    have hlt := vus_lt (w := w) (fr := fr) (show i < n by omega)
    unfold vwd at hlt
    rw [mj_upd_ne e, ep i (by omega)]
    refine ⟨g1, ?_, ?_, fun k hk => ?_⟩
    · rw [hm _ (by omega), g2]
      by_cases c : i = 0
      · rw [if_pos c, if_pos c]
      · rw [if_neg c, if_neg c, ep _ (by omega)]
    · rw [hm _ (by omega)]; exact g3
    · rw [hm _ (by omega), g4 k hk]
      unfold vsw
      by_cases cb : bt (w (2238 + (fr i).1)) k
      · rw [if_pos cb, if_pos cb]
        cases eq : (fr i).2.2.2.2.2 k with
        | none => rfl
        | some q =>
          show nI _ = nI _
          rw [ep _ (by have := hq i (by omega) k hk cb q eq; omega)]
      · rw [if_neg cb, if_neg cb]
end
/-- what else of the store stays -/
def RG (s s' : wt_S) : Prop := (∀ c, c < 110 → s' c = s c) ∧ s' 112 = s 112 ∧ s' 113 = s 113 ∧ s' 110 4 = s 110 4
theorem RG.refl {s : wt_S} : RG s s := ⟨fun _ _ => rfl, rfl, rfl, rfl⟩
theorem RG.trans {s s1 s2 : wt_S} (h : RG s s1) (h' : RG s1 s2) : RG s s2 := ⟨fun c hc => (h'.1 c hc).trans (h.1 c hc), h'.2.1.trans h.2.1, h'.2.2.1.trans h.2.2.1, h'.2.2.2.trans h.2.2.2⟩
theorem RG.uf {s : wt_S} {f : Nat → Int32} {a : Nat} (ha : a = 111 ∨ 114 ≤ a) : RG s (wt_uf s a f) :=
  ⟨fun c hc => wt_uf_ne (by omega), wt_uf_ne (by omega), wt_uf_ne (by omega), by rw [wt_uf_ne (by omega)]⟩
theorem RG.uo {s : wt_S} {k : Nat} {v : Int32} (hk : k ≠ 4) : RG s (wt_u s 110 k v) :=
  ⟨fun c hc => wt_u_ne (by omega), wt_u_ne (by omega), wt_u_ne (by omega), by rw [wt_u_nk (by omega)]⟩
theorem RG.of {s s' : wt_S} (h : RF s s') : RG s s' := ⟨h.1, h.2.1, h.2.2.1, h.2.2.2.1⟩
/-- the thought's own words are nobody's -/
theorem RR.w6 {w : Nat → Int32} {V : vV} {i : Nat} {v : Int32} (h : RR w V) (hi : 3926 ≤ i ∧ i < 4073 ∧ (i - 3926) % 7 = 6) : RR (mj_upd w i v) V :=
  h.mk' (fun j hj => by
    rw [mj_upd_ne (by unfold vtr at hj; omega)]
    exact h.at hj) (vr_P_upd (by unfold vout; omega) h.2.1) (fun p hp => mj_upd_ne (by omega)) (fun _ hm => hm)
/-- the store holds the endless machine's state -/
def RE (s0 s : wt_S) (V : vV) (w : Nat → Int32) (S : eS) : Prop := s 110 5 = 1 ∧ RR (s 111) V ∧ RG s0 s ∧ vpe w V.1 ∧ Ipr w ∧ (∃ z, w 2051 = nI z ∧ z ≤ 80) ∧ s 111 (3954 + 6) = nI S.1 ∧ s 111 (3961 + 6) = nI (vus w S.2.1 S.1) ∧ s 111 (3968 + 6) = nI S.2.2.1 ∧ s 111 (4045 + 6) = nI S.2.2.2.1 ∧ s 111 (3947 + 6) = nI S.2.2.2.2 ∧ s 111 (3926 + 6) = 1 ∧ (0 < S.1 → s 111 (3982 + 6) = nI (vus w S.2.1 (S.1 - 1)) ∧ s 111 (3975 + 6) = nI (elf S).1) ∧ MR (s 114) w S.1 S.2.1 (vus w S.2.1)
section
variable {s0 s : wt_S} {V : vV} {w : Nat → Int32} {S : eS}
theorem RE.pr (h : RE s0 s V w S) : vpe w (s 111) := fun i hi => by
  rw [← h.2.2.2.1 i hi]
  exact h.2.1.at (by unfold vtr; omega)
/-- a word of the thought's own that nothing hangs on -/
theorem RE.u {i : Nat} {v : Int32} (h : RE s0 s V w S) (hi : 3926 ≤ i ∧ i < 4073 ∧ (i - 3926) % 7 = 6) (hn : i ≠ (3954 + 6) ∧ i ≠ (3961 + 6) ∧ i ≠ (3968 + 6) ∧ i ≠ (4045 + 6) ∧ i ≠ (3947 + 6) ∧ i ≠ (3926 + 6) ∧ i ≠ (3982 + 6) ∧ i ≠ (3975 + 6)) : RE s0 (wt_u s 111 i v) V w S := by
  obtain ⟨h1, h2, h3, h4, h5, h6, h7, h8, h9, h10, h11, h12, h13, h14⟩ := h
  refine ⟨by rw [wt_u_ne (by omega)]; exact h1, by rw [wt_u_at]; exact h2.w6 hi, h3.trans (RG.uf (Or.inl rfl)), h4, h5, h6, ?_, ?_, ?_, ?_, ?_, ?_, ?_, by rw [wt_u_ne (by omega)]; exact h14⟩
  · rw [wt_u_nk (by omega)]; exact h7
  · rw [wt_u_nk (by omega)]; exact h8
  · rw [wt_u_nk (by omega)]; exact h9
  · rw [wt_u_nk (by omega)]; exact h10
  · rw [wt_u_nk (by omega)]; exact h11
  · rw [wt_u_nk (by omega)]; exact h12
  · rw [wt_u_nk (by omega), wt_u_nk (by omega)]; exact h13
theorem RE.li {l : Nat} (h : RE s0 s V w S) : RE s0 (wt_u s 111 (3968 + 6) (nI l)) V w (eli S l) := by
  obtain ⟨h1, h2, h3, h4, h5, h6, h7, h8, h9, h10, h11, h12, h13, h14⟩ := h
  refine ⟨by rw [wt_u_ne (by omega)]; exact h1, by rw [wt_u_at]; exact h2.w6 (by omega), h3.trans (RG.uf (Or.inl rfl)), h4, h5, h6, ?_, ?_, ?_, ?_, ?_, ?_, ?_, by rw [wt_u_ne (by omega)]; exact h14⟩
  · rw [wt_u_nk (by omega)]; exact h7
  · rw [wt_u_nk (by omega)]; exact h8
  · rw [wt_u_self]; rfl
  · rw [wt_u_nk (by omega)]; exact h10
  · rw [wt_u_nk (by omega)]; exact h11
  · rw [wt_u_nk (by omega)]; exact h12
  · rw [wt_u_nk (by omega), wt_u_nk (by omega)]; exact h13
theorem RE.st (h : RE s0 s V w S) : RE s0 (wt_u s 111 (3947 + 6) (nI (S.2.2.2.2 + 1))) V w (S.1, S.2.1, S.2.2.1, S.2.2.2.1, S.2.2.2.2 + 1) := by
  obtain ⟨h1, h2, h3, h4, h5, h6, h7, h8, h9, h10, h11, h12, h13, h14⟩ := h
  refine ⟨by rw [wt_u_ne (by omega)]; exact h1, by rw [wt_u_at]; exact h2.w6 (by omega), h3.trans (RG.uf (Or.inl rfl)), h4, h5, h6, ?_, ?_, ?_, ?_, ?_, ?_, ?_, by rw [wt_u_ne (by omega)]; exact h14⟩
  · rw [wt_u_nk (by omega)]; exact h7
  · rw [wt_u_nk (by omega)]; exact h8
  · rw [wt_u_nk (by omega)]; exact h9
  · rw [wt_u_nk (by omega)]; exact h10
  · rw [wt_u_self]
  · rw [wt_u_nk (by omega)]; exact h12
  · rw [wt_u_nk (by omega), wt_u_nk (by omega)]; exact h13
theorem RE.fr {i k : Nat} {F : vF} {v : Int32} (h : RE s0 s V w S) (hi : i < S.1) (hk : k < vsz w (S.2.1 i).1) (h1' : F.1 = (S.2.1 i).1) (h4' : F.2.2.2.1 = (S.2.1 i).2.2.2.1) (hv : vsw w (vus w S.2.1) F k = v) (hs : ∀ k', k' ≠ k → vsw w (vus w S.2.1) F k' = vsw w (vus w S.2.1) (S.2.1 i) k') : RE s0 (wt_u s 114 (vus w S.2.1 i + 2 + k) v) V w (S.1, mj_upd S.2.1 i F, S.2.2) := by
  obtain ⟨h1, h2, h3, h4, h5, h6, h7, h8, h9, h10, h11, h12, h13, h14⟩ := h
  have hf1 : ∀ j, (mj_upd S.2.1 i F j).1 = (S.2.1 j).1 := fun j => by
    by_cases e : j = i
    · subst e; rw [mj_upd_self, h1']
    · rw [mj_upd_ne e]
  have ep : ∀ m, vus w (mj_upd S.2.1 i F) m = vus w S.2.1 m := fun m => vus_fn (fun j _ => hf1 j)
  have e1 : (wt_u s 114 (vus w S.2.1 i + 2 + k) v) 111 = s 111 := wt_u_ne (by omega)
  refine ⟨by rw [wt_u_ne (by omega)]; exact h1, by rw [e1]; exact h2, h3.trans (RG.uf (Or.inr (by omega))), h4, h5, h6, by rw [e1]; exact h7, ?_, by rw [e1]; exact h9, by rw [e1]; exact h10, by rw [e1]; exact h11, by rw [e1]; exact h12, ?_, ?_⟩
  · rw [e1]
    show _ = nI (vus w (mj_upd S.2.1 i F) S.1)
    rw [ep]; exact h8
  · intro h0
    rw [e1]
    refine ⟨?_, ?_⟩
    · show _ = nI (vus w (mj_upd S.2.1 i F) (S.1 - 1))
      rw [ep]; exact (h13 h0).1
    · show _ = nI (mj_upd S.2.1 i F (S.1 - 1)).1
      rw [hf1]; exact (h13 h0).2
  · rw [wt_u_at]
    exact h14.set2 hi hk h1' h4' hv hs
theorem RE.nu {i k : Nat} {v : Int32} (h : RE s0 s V w S) (hi : i < S.1) (hk : k < vsz w (S.2.1 i).1) (hb : ¬ bt (w (2238 + (S.2.1 i).1)) k) : RE s0 (wt_u s 114 (vus w S.2.1 i + 2 + k) v) V w (enu S i k v) := by
  refine h.fr hi hk rfl rfl ?_ (fun k' hk' => ?_)
  · unfold vsw
    show (if bt (w (2238 + (S.2.1 i).1)) k then _ else mj_upd (S.2.1 i).2.2.2.2.1 k v k) = v
    rw [if_neg hb, mj_upd_self]
  · unfold vsw
    show (if bt (w (2238 + (S.2.1 i).1)) k' then _ else mj_upd (S.2.1 i).2.2.2.2.1 k v k') = _
    rw [mj_upd_ne hk']
    rfl
theorem RE.po {i k : Nat} {q : Option (Nat × Nat)} (h : RE s0 s V w S) (hi : i < S.1) (hk : k < vsz w (S.2.1 i).1) (hb : bt (w (2238 + (S.2.1 i).1)) k) : RE s0 (wt_u s 114 (vus w S.2.1 i + 2 + k) (match q with | none => -1 | some x => nI (vus w S.2.1 x.1 + 2 + x.2))) V w (epo S i k q) := by
  refine h.fr hi hk rfl rfl ?_ (fun k' hk' => ?_)
  · unfold vsw
    show (if bt (w (2238 + (S.2.1 i).1)) k then (match mj_upd (S.2.1 i).2.2.2.2.2 k q k with | none => (-1 : Int32) | some x => nI (vus w S.2.1 x.1 + 2 + x.2)) else _) = _
    rw [if_pos hb, mj_upd_self]
  · unfold vsw
    show (if bt (w (2238 + (S.2.1 i).1)) k' then (match mj_upd (S.2.1 i).2.2.2.2.2 k q k' with | none => (-1 : Int32) | some x => nI (vus w S.2.1 x.1 + 2 + x.2)) else _) = _
    rw [mj_upd_ne hk']
    rfl
end
section
variable {w : Nat → Int32} {S : eS}
theorem EI.vw (h : EI w S) (hp : Ipr w) : ∀ n, n ≤ S.1 → vus w S.2.1 n ≤ 10 * n := fun n hn => vus_le (fun i hi => (hp.wd (h.2.1 i (by omega)).1).2)
theorem EI.fr {i : Nat} {F : vF} (h : EI w S) (h1 : F.1 = (S.2.1 i).1) (h4 : F.2.2.2.1 = (S.2.1 i).2.2.2.1)
    (hq : ∀ k, k < vsz w (S.2.1 i).1 → bt (w (2238 + (S.2.1 i).1)) k → ∀ q, F.2.2.2.2.2 k = some q → (S.2.1 i).2.2.2.2.2 k = some q ∨ (q.1 ≤ i ∧ q.2 < vsz w (S.2.1 q.1).1 ∧ ¬ bt (w (2238 + (S.2.1 q.1).1)) q.2)) : EI w (S.1, mj_upd S.2.1 i F, S.2.2) := by
  obtain ⟨a1, a2, a3, a4, a5, a6⟩ := h
  have e1 : ∀ j, (mj_upd S.2.1 i F j).1 = (S.2.1 j).1 := fun j => by
    by_cases e : j = i
    · subst e; rw [mj_upd_self, h1]
    · rw [mj_upd_ne e]
  have e4 : ∀ j, (mj_upd S.2.1 i F j).2.2.2.1 = (S.2.1 j).2.2.2.1 := fun j => by
    by_cases e : j = i
    · subst e; rw [mj_upd_self, h4]
    · rw [mj_upd_ne e]
  refine ⟨a1, fun j hj => ?_, ?_, fun j hj => ?_, fun j hj k hk hb q hqq => ?_, a6⟩
  · show (mj_upd S.2.1 i F j).1 < 10 ∧ 1 ≤ vsz w (mj_upd S.2.1 i F j).1
    rw [e1]; exact a2 j hj
  · show (mj_upd S.2.1 i F 0).2.2.2.1 = 0 ∨ (mj_upd S.2.1 i F 0).2.2.2.1 = 1024
    rw [e4]; exact a3
  · have := a4 j hj
    unfold vbk at this ⊢
    show (mj_upd S.2.1 i F (j + 1)).2.2.2.1 < 4096 ∧ (mj_upd S.2.1 i F (j + 1)).2.2.2.1 % 1024 / 32 = (mj_upd S.2.1 i F j).1 ∧ _
    simp only [e1, e4]
    exact this
  · have hk2 : k < vsz w (S.2.1 j).1 := by rw [← e1 j]; exact hk
    have hb2 : bt (w (2238 + (S.2.1 j).1)) k := by rw [← e1 j]; exact hb
    have hqq : (mj_upd S.2.1 i F j).2.2.2.2.2 k = some q := hqq
    show q.1 ≤ j ∧ q.2 < vsz w (mj_upd S.2.1 i F q.1).1 ∧ ¬ bt (w (2238 + (mj_upd S.2.1 i F q.1).1)) q.2
    rw [e1 q.1]
    by_cases e : j = i
    · subst e
      rw [mj_upd_self] at hqq
      rcases hq k hk2 hb2 q hqq with g | g
      · exact a5 j hj k hk2 hb2 q g
      · exact g
    · rw [mj_upd_ne e] at hqq
      exact a5 j hj k hk2 hb2 q hqq
theorem EI.nu {i k : Nat} {v : Int32} (h : EI w S) : EI w (enu S i k v) := h.fr rfl rfl (fun _ _ _ _ hq => Or.inl hq)
theorem EI.po {i k : Nat} {p : Nat × Nat} (h : EI w S) (h1 : p.1 ≤ i) (h2 : p.2 < vsz w (S.2.1 p.1).1) (h3 : ¬ bt (w (2238 + (S.2.1 p.1).1)) p.2) : EI w (epo S i k (some p)) := h.fr rfl rfl (fun k' _ _ q hq => by
  have hq : mj_upd (S.2.1 i).2.2.2.2.2 k (some p) k' = some q := hq
  by_cases e : k' = k
  · subst e
    rw [mj_upd_self] at hq
    cases hq
    exact Or.inr ⟨h1, h2, h3⟩
  · rw [mj_upd_ne e] at hq
    exact Or.inl hq)
theorem EI.li {l : Nat} (h : EI w S) (hl : l ≤ 16) : EI w (eli S l) := ⟨h.1, h.2.1, h.2.2.1, h.2.2.2.1, h.2.2.2.2.1, hl⟩
end
end
section
/-! ===== the endless stack: a call ===== -/
section
variable {s0 s : wt_S} {V : vV} {w : Nat → Int32} {S : eS} {f : Nat}
theorem e_185 {p : Nat} {iP v : Int32} (hf : f < 10) (hp : Ipr w) (hfit : p + 10 ≤ 20200) : ∀ (m k fu : Nat) (s : wt_S), k + m = vsz w f → m < fu → s 110 5 = 1 → vpe w (s 111) →
    ∃ g : Nat → Int32, gX11_calls_185 fu s (nI 6) (nI f) (nI p) iP v (nI k) = (if rb (bt (w (2238 + f)) 0) ≠ iP then gX11_calls_269 (wt_uf s 114 g) (nI 6) (nI f) (nI p) else gX11_calls_269 (wt_uf s 114 (mj_upd g (p + 2) v)) (nI 6) (nI f) (nI p)) ∧ (∀ x, x < p + 2 + k → g x = s 114 x) ∧ ∀ j, k ≤ j → j < vsz w f → g (p + 2 + j) = vdf w f j := by
  have hz := hp.sz hf
  intro m
  induction m with
  | zero =>
    intro k fu s hk hfu h5 hw
    obtain ⟨fu, rfl⟩ : ∃ m, fu = m + 1 := ⟨fu - 1, by omega⟩
    obtain rfl : k = vsz w f := by omega
    refine ⟨s 114, ?_, fun _ _ => rfl, fun j h1 h2 => by omega⟩
    rw [gX11_calls_185, li_add, ix_nI (by omega) (by omega), hw _ (Or.inl (by omega)), hz.1, if_pos (Int.le_refl _), li_add, ix_nI (by omega) (by omega), hw _ (Or.inl (by omega)), q_has0, cl_some, li_add2, q_lays1 (by rw [h5]; decide) (by omega), cl_some, uf_self, u_uf]
  | succ m ih =>
    intro k fu s hk hfu h5 hw
    obtain ⟨fu, rfl⟩ : ∃ m, fu = m + 1 := ⟨fu - 1, by omega⟩
    obtain ⟨g, a1, a2, a3⟩ := ih (k + 1) fu (wt_u s 114 (p + 2 + k) (vdf w f k)) (by omega) (by omega) (by rw [wt_u_ne (by omega)]; exact h5) (by rw [wt_u_ne (by omega)]; exact hw)
    refine ⟨g, ?_, fun x hx => ?_, fun j h1 h2 => ?_⟩
    · rw [u_uf, uf_uf, uf_uf] at a1
      rw [← a1, gX11_calls_185, li_add, ix_nI (by omega) (by omega), hw _ (Or.inl (by omega)), hz.1, nI_int (by omega), nI_int (by omega), if_neg (by omega), li_add, ix_nI (by omega) (by omega), hw _ (Or.inl (by omega)), q_has, cl_some, if_rb]
      unfold gX11_calls_231
      rw [li_add2, nI_add, nI_1, q_lays1 (by rw [h5]; decide) (by omega), cl_some, q_lays1 (by rw [h5]; decide) (by omega), cl_some]
      unfold vdf
      rw [u_uf, u_uf]
      by_cases c : bt (w (2238 + f)) k
      · rw [if_pos c, if_pos c]
      · rw [if_neg c, if_neg c]
    · rw [a2 x (by omega), wt_u_nk (by omega)]
    · by_cases e : j = k
      · subst e
        rw [a2 _ (by omega), wt_u_self]
      · exact a3 j (by omega) h2
theorem e_269 {F : vF} {g : Nat → Int32} (h : RE s0 s V w S) (hq : ∀ i, i < S.1 → ∀ k, k < vsz w (S.2.1 i).1 → bt (w (2238 + (S.2.1 i).1)) k → ∀ q, (S.2.1 i).2.2.2.2.2 k = some q → q.1 ≤ i) (hF : F.1 < 10) (hn : S.1 ≤ 100000) (hvu : vus w S.2.1 S.1 ≤ 1000000) (hmo : S.2.2.2.1 ≤ 1000000) (hm : ∀ x, x < vus w S.2.1 S.1 → g x = s 114 x) (h1' : g (vus w S.2.1 S.1) = (if S.1 = 0 then -1 else nI (vus w S.2.1 (S.1 - 1)))) (h2' : g (vus w S.2.1 S.1 + 1) = nI F.2.2.2.1) (h3' : ∀ k, k < vsz w F.1 → g (vus w S.2.1 S.1 + 2 + k) = vsw w (vus w S.2.1) F k) (h4' : ∀ k, k < vsz w F.1 → bt (w (2238 + F.1)) k → ∀ q, F.2.2.2.2.2 k = some q → q.1 < S.1) :
    ∃ s', gX11_calls_269 (wt_uf s 114 g) (nI 6) (nI F.1) (nI (vus w S.2.1 S.1)) = some ((), s') ∧ RE s0 s' V w (S.1 + 1, mj_upd S.2.1 S.1 F, 0, max S.2.2.2.1 (vus w S.2.1 S.1 + vwd w F.1), S.2.2.2.2) := by
  have hw := h.pr
  obtain ⟨h1, h2, h3, h4, h5, h6, h7, h8, h9, h10, h11, h12, h13, h14⟩ := h
  have hpu := h14.push2 hm hq hF h1' h2' h3' h4'
  have hwd := (h5.wd hF).1
  have hvn : vus w (mj_upd S.2.1 S.1 F) (S.1 + 1) = vus w S.2.1 S.1 + vwd w F.1 := by
    rw [vus_1, mj_upd_self, vus_fn (fun j hj => by rw [mj_upd_ne (by omega)])]
  have hvn0 : vus w (mj_upd S.2.1 S.1 F) S.1 = vus w S.2.1 S.1 := vus_fn (fun j hj => by rw [mj_upd_ne (by omega)])
  have hw10 := (h5.wd hF).2
  unfold gX11_calls_269
  simp only [wr_eq]
  rw [li_add, ix_nI (by omega) (by omega), li_add, ix_nI (by omega) (by omega), li_add, ix_nI (by omega) (by omega), li_add, ix_nI (by omega) (by omega), ix_nI (by omega) (by omega), li_add, ix_nI (by omega) (by omega), q_frameOf hF, cl_some, ix_nI (by omega) (by omega), ix_nI (by omega) (by omega), li_add, ix_nI (by omega) (by omega), ix_nI (by omega) (by omega), ix_nI (by omega) (by omega)]
  have e111 : (wt_uf s 114 g) 111 = s 111 := wt_uf_ne (by omega)
  -- the row behind it
  generalize hA : wt_u (wt_u (wt_u (wt_uf s 114 g) 111 (3982 + 6) (nI (vus w S.2.1 S.1))) 111 (3975 + 6) (nI F.1)) 111 (3968 + 6) 0 = sA
  have a60 : sA 111 (3954 + 6) = nI S.1 := by rw [← hA, wt_u_nk (by omega), wt_u_nk (by omega), wt_u_nk (by omega), e111]; exact h7
  have a67 : sA 111 (3961 + 6) = nI (vus w S.2.1 S.1) := by rw [← hA, wt_u_nk (by omega), wt_u_nk (by omega), wt_u_nk (by omega), e111]; exact h8
  have a51 : sA 111 (4045 + 6) = nI S.2.2.2.1 := by rw [← hA, wt_u_nk (by omega), wt_u_nk (by omega), wt_u_nk (by omega), e111]; exact h10
  have a53 : sA 111 (3947 + 6) = nI S.2.2.2.2 := by rw [← hA, wt_u_nk (by omega), wt_u_nk (by omega), wt_u_nk (by omega), e111]; exact h11
  have a32 : sA 111 (3926 + 6) = 1 := by rw [← hA, wt_u_nk (by omega), wt_u_nk (by omega), wt_u_nk (by omega), e111]; exact h12
  have a88 : sA 111 (3982 + 6) = nI (vus w S.2.1 S.1) := by rw [← hA, wt_u_nk (by omega), wt_u_nk (by omega), wt_u_self]
  have a81 : sA 111 (3975 + 6) = nI F.1 := by rw [← hA, wt_u_nk (by omega), wt_u_self]
  have a74 : sA 111 (3968 + 6) = 0 := by rw [← hA, wt_u_self]
  have aRR : RR (sA 111) V := by
    rw [← hA, wt_u_at, wt_u_at, wt_u_at, e111]
    exact ((h2.w6 (by omega)).w6 (by omega)).w6 (by omega)
  have aRG : RG s0 sA := by
    rw [← hA]
    exact h3.trans (RG.trans (RG.uf (Or.inr (by omega))) (RG.trans (RG.uf (Or.inl rfl)) (RG.trans (RG.uf (Or.inl rfl)) (RG.uf (Or.inl rfl)))))
  have a5 : sA 110 5 = 1 := by rw [← hA, wt_u_ne (by omega), wt_u_ne (by omega), wt_u_ne (by omega), wt_uf_ne (by omega)]; exact h1
  have a114 : sA 114 = g := by rw [← hA, wt_u_ne (by omega), wt_u_ne (by omega), wt_u_ne (by omega), wt_uf_at]
  have a28 : sA 111 (2228 + F.1) = w (2228 + F.1) := by
    rw [← hA, wt_u_nk (by omega), wt_u_nk (by omega), wt_u_nk (by omega), e111]
    exact hw _ (Or.inl (by omega))
  rw [a60, nI_1, wt_u_nk (show 3961 + 6 ≠ 3954 + 6 by omega), a67, wt_u_nk (show 2228 + F.1 ≠ 3954 + 6 by omega), a28, hwd, nI_add, wt_u_self, wt_u_nk (show 4045 + 6 ≠ 3961 + 6 by omega), wt_u_nk (show 4045 + 6 ≠ 3954 + 6 by omega), a51, nI_int (by omega), nI_int (by omega)]
  have fin : ∀ (s' : wt_S) (mo : Nat), s' 110 5 = 1 → RR (s' 111) V → RG s0 s' → s' 114 = g → s' 111 (3954 + 6) = nI (S.1 + 1) → s' 111 (3961 + 6) = nI (vus w S.2.1 S.1 + vwd w F.1) → s' 111 (3968 + 6) = nI 0 → s' 111 (4045 + 6) = nI mo → s' 111 (3947 + 6) = nI S.2.2.2.2 → s' 111 (3926 + 6) = 1 → s' 111 (3982 + 6) = nI (vus w S.2.1 S.1) → s' 111 (3975 + 6) = nI F.1 → RE s0 s' V w (S.1 + 1, mj_upd S.2.1 S.1 F, 0, mo, S.2.2.2.2) := by
    intro s' mo g1 g2 g3 g4 g5 g6 g7 g8 g9 g10 g11 g12
    refine ⟨g1, g2, g3, h4, h5, h6, g5, ?_, g7, g8, g9, g10, fun _ => ⟨?_, ?_⟩, ?_⟩
    · show _ = nI (vus w (mj_upd S.2.1 S.1 F) (S.1 + 1))
      rw [hvn]; exact g6
    · show _ = nI (vus w (mj_upd S.2.1 S.1 F) (S.1 + 1 - 1))
      rw [Nat.add_sub_cancel, hvn0]; exact g11
    · show _ = nI (mj_upd S.2.1 S.1 F (S.1 + 1 - 1)).1
      rw [Nat.add_sub_cancel, mj_upd_self]; exact g12
    · rw [g4]; exact hpu
  split
  · rename_i c
    refine ⟨_, rfl, ?_⟩
    rw [Nat.max_eq_left (by omega)]
    refine fin _ _ ?_ ?_ ?_ ?_ ?_ ?_ ?_ ?_ ?_ ?_ ?_ ?_
    · rw [wt_u_ne (by omega), wt_u_ne (by omega)]; exact a5
    · rw [wt_u_at, wt_u_at]; exact (aRR.w6 (by omega)).w6 (by omega)
    · exact aRG.trans (RG.trans (RG.uf (Or.inl rfl)) (RG.uf (Or.inl rfl)))
    · rw [wt_u_ne (by omega), wt_u_ne (by omega)]; exact a114
    · rw [wt_u_nk (by omega), wt_u_self]
    · rw [wt_u_self]
    · rw [wt_u_nk (by omega), wt_u_nk (by omega)]; exact a74
    · rw [wt_u_nk (by omega), wt_u_nk (by omega)]; exact a51
    · rw [wt_u_nk (by omega), wt_u_nk (by omega)]; exact a53
    · rw [wt_u_nk (by omega), wt_u_nk (by omega)]; exact a32
    · rw [wt_u_nk (by omega), wt_u_nk (by omega)]; exact a88
    · rw [wt_u_nk (by omega), wt_u_nk (by omega)]; exact a81
  · rename_i c
    refine ⟨_, rfl, ?_⟩
    rw [Nat.max_eq_right (by omega)]
    refine fin _ _ ?_ ?_ ?_ ?_ ?_ ?_ ?_ ?_ ?_ ?_ ?_ ?_
    · rw [wt_u_ne (by omega), wt_u_ne (by omega), wt_u_ne (by omega)]; exact a5
    · rw [wt_u_at, wt_u_at, wt_u_at]; exact ((aRR.w6 (by omega)).w6 (by omega)).w6 (by omega)
    · exact aRG.trans (RG.trans (RG.uf (Or.inl rfl)) (RG.trans (RG.uf (Or.inl rfl)) (RG.uf (Or.inl rfl))))
    · rw [wt_u_ne (by omega), wt_u_ne (by omega), wt_u_ne (by omega)]; exact a114
    · rw [wt_u_nk (by omega), wt_u_nk (by omega), wt_u_self]
    · rw [wt_u_nk (by omega), wt_u_self]
    · rw [wt_u_nk (by omega), wt_u_nk (by omega), wt_u_nk (by omega)]; exact a74
    · rw [wt_u_self]
    · rw [wt_u_nk (by omega), wt_u_nk (by omega), wt_u_nk (by omega)]; exact a53
    · rw [wt_u_nk (by omega), wt_u_nk (by omega), wt_u_nk (by omega)]; exact a32
    · rw [wt_u_nk (by omega), wt_u_nk (by omega), wt_u_nk (by omega)]; exact a88
    · rw [wt_u_nk (by omega), wt_u_nk (by omega), wt_u_nk (by omega)]; exact a81
theorem e_149 {bk : Nat} {iP v base : Int32} {hh : Int32 × Option (Nat × Nat)} (h : RE s0 s V w S) (hq : ∀ i, i < S.1 → ∀ k, k < vsz w (S.2.1 i).1 → bt (w (2238 + (S.2.1 i).1)) k → ∀ q, (S.2.1 i).2.2.2.2.2 k = some q → q.1 ≤ i) (hf : f < 10) (hs1 : 1 ≤ vsz w f) (hn : S.1 ≤ 2001) (hvu : vus w S.2.1 S.1 ≤ 20100) (hmo : S.2.2.2.1 ≤ 1000000) (hb : base = (if S.1 = 0 then -1 else nI (vus w S.2.1 (S.1 - 1))))
    (hv : (if rb (bt (w (2238 + f)) 0) ≠ iP then vdf w f 0 else v) = vsw w (vus w S.2.1) (eFr f (ebk w S f bk) hh) 0) (h4 : bt (w (2238 + f)) 0 → ∀ x, hh.2 = some x → x.1 < S.1) :
    ∃ s', gX11_calls_149 s (nI 6) (nI f) (nI bk) (rb (ecv S = true)) (nI (vus w S.2.1 S.1)) iP v (nI (vus w S.2.1 S.1)) base = some ((), s') ∧ RE s0 s' V w (epu w S f bk hh) := by
  have hw := h.pr
  have h5 := h.1
  have hip := h.2.2.2.2.1
  obtain ⟨z2, r1, r2⟩ := h.2.2.2.2.2.1
  have hz := hip.sz hf
  generalize hP : vus w S.2.1 S.1 = p at *
  generalize hB : ebk w S f bk = B at *
  have hB' : bk + (if ecv S = true ∨ vmg w f = true then 1024 else 0) = B := hB
  obtain ⟨g, a1, a2, a3⟩ := e_185 (w := w) (f := f) (p := p) (iP := iP) (v := v) hf hip (by omega) (vsz w f) 0 wt_N (wt_u (wt_u s 114 p base) 114 (p + 1) (nI B)) (by omega) (by unfold wt_N; omega) (by rw [wt_u_ne (by omega), wt_u_ne (by omega)]; exact h5) (by rw [wt_u_ne (by omega), wt_u_ne (by omega)]; exact hw)
  have hvk : ∀ j, 0 < j → vsw w (vus w S.2.1) (eFr f B hh) j = vdf w f j := fun j hj2 => by
    unfold vsw vdf
    show (if bt (w (2238 + f)) j then (match (if j = 0 then hh.2 else none) with | none => (-1 : Int32) | some q => nI (vus w S.2.1 q.1 + 2 + q.2)) else (if j = 0 then hh.1 else 0)) = _
    rw [if_neg (show ¬ j = 0 by omega), if_neg (show ¬ j = 0 by omega)]
  have gp : g p = base := by rw [a2 p (by omega), wt_u_nk (by omega), wt_u_self]
  have gp1 : g (p + 1) = nI B := by rw [a2 (p + 1) (by omega), wt_u_self]
  have glt : ∀ x, x < p → g x = s 114 x := fun x hx => by rw [a2 x (by omega), wt_u_nk (by omega), wt_u_nk (by omega)]
  have fin : ∀ g' : Nat → Int32, (∀ x, x < p + 2 → g' x = g x) → (∀ j, j < vsz w f → g' (p + 2 + j) = vsw w (vus w S.2.1) (eFr f B hh) j) → ∃ s', gX11_calls_269 (wt_uf s 114 g') (nI 6) (nI f) (nI p) = some ((), s') ∧ RE s0 s' V w (epu w S f bk hh) := by
    intro g' q1 q2
    have := e_269 (F := eFr f B hh) (g := g') h hq hf (by omega) (by omega) hmo (fun x hx => by rw [hP] at hx; rw [q1 x (by omega), glt x hx]) (by rw [hP, q1 p (by omega), gp]; exact hb) (by rw [hP, q1 (p + 1) (by omega)]; exact gp1) (fun k hk => by rw [hP]; exact q2 k hk) (fun k hk hbk q hqq => by
      have hqq : (if k = 0 then hh.2 else none) = some q := hqq
      by_cases e : k = 0
      · subst e
        rw [if_pos rfl] at hqq
        exact h4 hbk q hqq
      · rw [if_neg e] at hqq
        cases hqq)
    rw [hP] at this
    have e : epu w S f bk hh = (S.1 + 1, mj_upd S.2.1 S.1 (eFr f B hh), 0, max S.2.2.2.1 (p + vwd w f), S.2.2.2.2) := by
      unfold epu
      rw [hP, hB]
    rw [e]
    exact this
  have hend : ∃ s', (if rb (bt (w (2238 + f)) 0) ≠ iP then gX11_calls_269 (wt_uf s 114 g) (nI 6) (nI f) (nI p) else gX11_calls_269 (wt_uf s 114 (mj_upd g (p + 2) v)) (nI 6) (nI f) (nI p)) = some ((), s') ∧ RE s0 s' V w (epu w S f bk hh) := by
    by_cases ci : rb (bt (w (2238 + f)) 0) ≠ iP
    · rw [if_pos ci] at hv ⊢
      refine fin g (fun _ _ => rfl) (fun j hj2 => ?_)
      rw [a3 j (by omega) hj2]
      by_cases e : j = 0
      · subst e; exact hv
      · exact (hvk j (by omega)).symm
    · rw [if_neg ci] at hv ⊢
      refine fin (mj_upd g (p + 2) v) (fun x hx => mj_upd_ne (by omega)) (fun j hj2 => ?_)
      by_cases e : j = 0
      · subst e
        rw [Nat.add_zero, mj_upd_self]; exact hv
      · rw [mj_upd_ne (by omega), a3 j (by omega) hj2]; exact (hvk j (by omega)).symm
  obtain ⟨s', b1, b2⟩ := hend
  refine ⟨s', ?_, b2⟩
  rw [u_uf, u_uf, wt_uf_at, uf_uf, uf_uf, uf_uf] at a1
  unfold gX11_calls_149
  rw [q_lays1 (by rw [h5]; decide) (by omega), cl_some]
  have hs1 : (wt_u s 114 p base) 110 5 = 1 := by rw [wt_u_ne (by omega)]; exact h5
  have h178 : ∀ z3 : Int32, nI bk + z3 = nI B → gX11_calls_178 (wt_u s 114 p base) (nI 6) (nI f) (nI p) iP v (nI p + 1) (nI bk) z3 = some ((), s') := fun z3 hz3 => by
    unfold gX11_calls_178
    rw [hz3, li_add2, q_lays1 (by rw [hs1]; decide) (by omega), cl_some, show (0 : Int32) = nI 0 from rfl, u_uf, u_uf, wt_uf_at, uf_uf]
    exact a1.trans b1
  by_cases c6 : ecv S = true
  · rw [if_pos (by rw [rb_pos c6]; decide)]
    unfold gX11_calls_171
    refine h178 1024 ?_
    rw [← hB', if_pos (Or.inl c6), li_add2]
  · have hw1 : vpe w ((wt_u s 114 p base) 111) := by rw [wt_u_ne (by omega)]; exact hw
    rw [if_neg (by rw [rb_neg c6]; decide), q_isMerged (z := z2) (hip.ww hw1) hf (by rw [hw1 _ (Or.inr (Or.inr rfl))]; exact r1) r2, cl_some, if_rb]
    rw [(hw1.mg hip hf).1]
    by_cases cm : vmg w f = true
    · rw [if_pos cm]
      unfold gX11_calls_171
      refine h178 1024 ?_
      rw [← hB', if_pos (Or.inr cm), li_add2]
    · rw [if_neg cm]
      refine h178 0 ?_
      rw [← hB', if_neg (fun e => e.elim c6 cm), Int32.add_zero, Nat.add_zero]
/-- where it comes -/
theorem e_cov (h : RE s0 s V w S) (hI : 0 < S.1 → EI w S) (hn : S.1 ≤ 2001) : gX11_isCovered s (nI 6) = some (rb (ecv S = true), s) := by
  have hw := h.pr
  obtain ⟨h1, h2, h3, h4, h5, h6, h7, h8, h9, h10, h11, h12, h13, h14⟩ := h
  unfold gX11_isCovered
  rw [li_add, ix_nI (by omega) (by omega), h7, nI_int (by omega)]
  by_cases c : S.1 = 0
  · rw [if_pos (by show _ ≤ (0 : Int); omega), rb_neg (by unfold ecv; simp [c])]
  · have hE := hI (by omega)
    obtain ⟨k1, k2⟩ := h13 (by omega)
    have hvu := hE.vw h5 (S.1 - 1) (by omega)
    obtain ⟨m1, m2, m3, m4⟩ := h14 (S.1 - 1) (by omega)
    have hbk : (elf S).2.2.2.1 < 4096 := by
      by_cases e : S.1 = 1
      · have : elf S = S.2.1 0 := by unfold elf; rw [e]
        rw [this]
        rcases hE.2.2.1 with g | g <;> omega
      · have := (hE.2.2.2.1 (S.1 - 2) (by omega)).1
        rw [show S.1 - 2 + 1 = S.1 - 1 by omega] at this
        exact this
    rw [if_neg (by show ¬ _ ≤ (0 : Int); omega), li_add, ix_nI (by omega) (by omega), k1, li_add2, q_word1 (by rw [h1]; decide) (by omega), cl_some, m3]
    obtain ⟨bb1, -⟩ := bk_at hbk
    by_cases cb : (elf S).2.2.2.1 / 1024 % 2 = 0
    · rw [if_pos (show nI (S.2.1 (S.1 - 1)).2.2.2.1 &&& 1024 = 0 from bb1.mpr cb), rb_neg (by unfold ecv; simp; intro _; omega)]
    · rw [if_neg (show ¬ nI (S.2.1 (S.1 - 1)).2.2.2.1 &&& 1024 = 0 from fun e => cb (bb1.mp e)), rb_pos (by unfold ecv; simp; omega)]
theorem e_top (h : RE s0 s V w S) (hI : 0 < S.1 → EI w S) (hn : S.1 ≤ 2001) : gX11_topOf s (nI 6) = some (nI (vus w S.2.1 S.1), s) := by
  have hw := h.pr
  obtain ⟨h1, h2, h3, h4, h5, h6, h7, h8, h9, h10, h11, h12, h13, h14⟩ := h
  unfold gX11_topOf
  rw [li_add, ix_nI (by omega) (by omega), h7, nI_int (by omega)]
  by_cases c : S.1 = 0
  · rw [if_pos (by show _ ≤ (0 : Int); omega), if_neg (by rw [h1]; decide), c]
    rfl
  · have hE := hI (by omega)
    obtain ⟨k1, k2⟩ := h13 (by omega)
    have hf := (hE.2.1 (S.1 - 1) (by omega)).1
    have hf : (elf S).1 < 10 := hf
    rw [if_neg (by show ¬ _ ≤ (0 : Int); omega), li_add, ix_nI (by omega) (by omega), k1, li_add, ix_nI (by omega) (by omega), k2, q_frameOf hf, cl_some, hw _ (Or.inl (by omega)), (h5.wd hf).1, nI_add]
    have : vus w S.2.1 S.1 = vus w S.2.1 (S.1 - 1) + vwd w (elf S).1 := by
      have := vus_1 (w := w) (fr := S.2.1) (n := S.1 - 1)
      rw [show S.1 - 1 + 1 = S.1 by omega] at this
      exact this
    rw [this]
/-- all behind the place -/
theorem e_26 {bk : Nat} {slot a : Int32} {hh : Int32 × Option (Nat × Nat)} (h : RE s0 s V w S) (hI : 0 < S.1 → EI w S) (hf : f < 10) (hs1 : 1 ≤ vsz w f) (hn : S.1 ≤ 2000) (hmo : S.2.2.2.1 ≤ 1000000)
    (hsl : (slot = -1 ∧ S.1 = 0 ∧ hh = (if bt (w (2238 + f)) 0 then 0 else a, none)) ∨ ∃ k0, slot = nI k0 ∧ 0 < S.1 ∧ k0 < vsz w (elf S).1 ∧ hh = vha w f (elf S) k0) :
    ∃ s', gX11_calls_40 s (nI 6) (nI f) (nI bk) slot a (rb (ecv S = true)) (nI (vus w S.2.1 S.1)) = some ((), s') ∧ RE s0 s' V w (epu w S f bk hh) := by
  have hw := h.pr
  have h0 := h
  obtain ⟨h1, h2, h3, h4, h5, h6, h7, h8, h9, h10, h11, h12, h13, h14⟩ := h0
  have hvu : vus w S.2.1 S.1 ≤ 20000 := by
    by_cases c : S.1 = 0
    · rw [c]; exact Nat.zero_le _
    · have := (hI (by omega)).vw h5 S.1 (Nat.le_refl _)
      omega
  have hq : ∀ i, i < S.1 → ∀ k, k < vsz w (S.2.1 i).1 → bt (w (2238 + (S.2.1 i).1)) k → ∀ q, (S.2.1 i).2.2.2.2.2 k = some q → q.1 ≤ i := fun i hi k hk hb q hq => ((hI (by omega)).2.2.2.2.1 i hi k hk hb q hq).1
  unfold gX11_calls_40
  rw [if_pos (nI_m1 (by omega))]
  rcases hsl with ⟨e1, e2, e3⟩ | ⟨k0, e1, e2, e3, e4⟩
  · subst e1
    rw [if_pos rfl]
    unfold gX11_calls_84 gX11_calls_85
    rw [if_neg (by simp)]
    unfold gX11_calls_117
    rw [li_add, ix_nI (by omega) (by omega), h7, if_neg (by rw [e2]; simp [show nI 0 = (0 : Int32) from rfl])]
    refine e_149 (hh := hh) h hq hf hs1 (by omega) (by omega) hmo (by rw [if_pos e2]) ?_ (fun _ x hx => by rw [e3] at hx; cases hx)
    rw [e3]
    unfold vsw vdf
    show _ = (if bt (w (2238 + f)) 0 then (-1 : Int32) else (if bt (w (2238 + f)) 0 then 0 else a))
    by_cases c : bt (w (2238 + f)) 0
    · rw [rb_pos c, if_pos (by decide), if_pos c, if_pos c]
    · rw [rb_neg c, if_neg (by simp), if_neg c, if_neg c]
  · subst e1
    have hE := hI e2
    obtain ⟨k1, k2⟩ := h13 e2
    have hft : (elf S).1 < 10 := (hE.2.1 (S.1 - 1) (by omega)).1
    have hz := h5.sz hft
    have hkne : ¬ nI k0 = -1 := nI_m1 (by omega)
    have hword := (h14 (S.1 - 1) (by omega)).2.2.2 k0 e3
    have hvl := vus_lt (w := w) (fr := S.2.1) (show S.1 - 1 < S.1 by omega)
    unfold vwd at hvl
    have e3' : k0 < vsz w (S.2.1 (S.1 - 1)).1 := e3
    have htail : ∀ iP : Int32, iP = rb (bt (w (2238 + (elf S).1)) k0) → ∃ s', gX11_calls_85 s (nI 6) (nI f) (nI bk) (nI k0) a (rb (ecv S = true)) (nI (vus w S.2.1 S.1)) iP = some ((), s') ∧ RE s0 s' V w (epu w S f bk hh) := by
      intro iP hiP
      obtain ⟨s', f1, f2⟩ := e_149 (bk := bk) (iP := iP) (v := vsw w (vus w S.2.1) (elf S) k0) (base := nI (vus w S.2.1 (S.1 - 1))) (hh := hh) h hq hf hs1 (by omega) (by omega) hmo (by rw [if_neg (by omega)]) (by
        rw [hiP, e4]
        exact vha_word) (fun hbf x hx => by
        rw [e4] at hx
        unfold vha at hx
        by_cases cb : bt (w (2238 + (elf S).1)) k0
        · rw [if_pos cb] at hx
          simp only [if_pos hbf] at hx
          have := (hE.2.2.2.2.1 (S.1 - 1) (by omega) k0 e3 cb x hx).1
          omega
        · rw [if_neg cb] at hx
          cases hx)
      refine ⟨s', ?_, f2⟩
      unfold gX11_calls_85
      rw [if_pos hkne, li_add, ix_nI (by omega) (by omega), k1, li_add2, nI_add, q_word1 (by rw [h1]; decide) (by omega), cl_some, hword]
      unfold gX11_calls_117
      rw [li_add, ix_nI (by omega) (by omega), h7, if_pos (fun e => by
        have := (nI_inj (a := S.1) (b := 0) (by omega) (by omega)).mp e
        omega), li_add, ix_nI (by omega) (by omega), k1]
      exact f1
    rw [if_neg hkne, li_add, ix_nI (by omega) (by omega), k2, li_add, ix_nI (by omega) (by omega), hw _ (Or.inl (by omega)), q_has, cl_some, if_rb]
    unfold gX11_calls_84
    by_cases cb : bt (w (2238 + (elf S).1)) k0
    · rw [if_pos cb]
      exact htail 1 (rb_pos cb).symm
    · rw [if_neg cb]
      exact htail 0 (rb_neg cb).symm
theorem e_calls {bk : Nat} {slot a : Int32} {hh : Int32 × Option (Nat × Nat)} (h : RE s0 s V w S) (hI : 0 < S.1 → EI w S) (hf : f < 10) (hs1 : 1 ≤ vsz w f) (hn : S.1 ≤ 2000) (hmo : S.2.2.2.1 ≤ 1000000)
    (hsl : (slot = -1 ∧ S.1 = 0 ∧ hh = (if bt (w (2238 + f)) 0 then 0 else a, none)) ∨ ∃ k0, slot = nI k0 ∧ 0 < S.1 ∧ k0 < vsz w (elf S).1 ∧ hh = vha w f (elf S) k0) :
    ∃ s', gX11_calls s (nI 6) (nI f) (nI bk) slot a = some ((), s') ∧ RE s0 s' V w (epu w S f bk hh) := by
  unfold gX11_calls
  rw [e_cov h hI (by omega), cl_some, if_rb]
  by_cases c : ecv S = true
  · rw [if_pos c, e_top h hI (by omega), cl_some]
    unfold gX11_calls_26
    have h5 : s 110 5 ≠ 0 := by rw [h.1]; decide
    rw [if_neg (by rw [rb_pos c]; decide), q_counts1 h5, cl_some]
    exact e_26 h hI hf hs1 hn hmo hsl
  · rw [if_neg c]
    unfold gX11_roomFor
    rw [e_top h hI (by omega), cl_some, li_add, ix_nI (by omega) (by omega), ix_nI (by omega) (by omega), wr_eq]
    have h' : RE s0 (wt_u s 111 (4003 + 6) (s 111 (4003 + 6) + 1)) V w S := h.u (by omega) (by omega)
    have h5 : (wt_u s 111 (4003 + 6) (s 111 (4003 + 6) + 1)) 110 5 ≠ 0 := by rw [h'.1]; decide
    rw [q_counts1 h5, cl_some, if_neg h5, cl_some]
    unfold gX11_calls_26
    rw [if_pos (by rw [rb_neg c])]
    exact e_26 h' hI hf hs1 hn hmo hsl
end
end
section
/-! ===== the endless stack: returns, steps ===== -/
/-- done: result, steps, most -/
def RD (s0 s : wt_S) (V : vV) (v : Int32) (st mo : Nat) : Prop := s 110 5 = 1 ∧ RR (s 111) V ∧ RG s0 s ∧ s 111 (3926 + 6) = 3 ∧ s 111 (3940 + 6) = v ∧ s 111 (3947 + 6) = nI st ∧ s 111 (4045 + 6) = nI mo
/-- what a step brings -/
def EQ (s0 s : wt_S) (V : vV) (w : Nat → Int32) (S : eS) : eS ⊕ Int32 → Prop
  | .inl S' => RE s0 s V w S' ∧ EI w S' ∧ S'.1 ≤ S.1 + 1 ∧ S'.2.2.2.1 ≤ max S.2.2.2.1 (vus w S.2.1 S.1 + 10) ∧ S'.2.2.2.2 = S.2.2.2.2
  | .inr v => RD s0 s V v S.2.2.2.2 S.2.2.2.1
section
variable {s0 s : wt_S} {V : vV} {w : Nat → Int32} {S : eS} {f : Nat} {D : wt_S → Int32 → Int32 → Option (Int32 × wt_S)}
theorem EI.bk (h : EI w S) : (elf S).2.2.2.1 < 4096 := by
  by_cases e : S.1 = 1
  · have : elf S = S.2.1 0 := by unfold elf; rw [e]
    rw [this]
    rcases h.2.2.1 with g | g <;> omega
  · have h1 := h.1
    have := (h.2.2.2.1 (S.1 - 2) (by omega)).1
    rw [show S.1 - 2 + 1 = S.1 - 1 by omega] at this
    exact this
/-- a frame less -/
theorem EI.pop {l : Nat} (h : EI w S) (h2 : 2 ≤ S.1) (hl : l ≤ 16) : EI w (S.1 - 1, S.2.1, l, S.2.2.2) := by
  obtain ⟨a1, a2, a3, a4, a5, a6⟩ := h
  exact ⟨by show 1 ≤ S.1 - 1; omega, fun i hi => a2 i (by have hi : i < S.1 - 1 := hi; omega), a3, fun i hi => a4 i (by have hi : i + 1 < S.1 - 1 := hi; omega), fun i hi => a5 i (by have hi : i < S.1 - 1 := hi; omega), hl⟩
theorem EI.push {bk : Nat} {hh : Int32 × Option (Nat × Nat)} (h : EI w S) (hf : f < 10) (hs1 : 1 ≤ vsz w f) (hB : bk < 1024 ∨ (2048 ≤ bk ∧ bk < 3072)) (hb : vbk w (eFr f bk hh) (elf S)) (hq : bt (w (2238 + f)) 0 → ∀ p, hh.2 = some p → p.1 < S.1 ∧ p.2 < vsz w (S.2.1 p.1).1 ∧ ¬ bt (w (2238 + (S.2.1 p.1).1)) p.2) (hp : Ipr w) : EI w (epu w S f bk hh) := by
  obtain ⟨a1, a2, a3, a4, a5, a6⟩ := h
  have hG : (elf S).1 < 10 := (a2 (S.1 - 1) (by omega)).1
  refine ⟨by show 1 ≤ S.1 + 1; omega, fun i hi => ?_, ?_, fun i hi => ?_, fun i hi k hk hbk q hqq => ?_, Nat.zero_le _⟩
  · have hi : i < S.1 + 1 := hi
    show (mj_upd S.2.1 S.1 _ i).1 < 10 ∧ 1 ≤ vsz w (mj_upd S.2.1 S.1 _ i).1
    by_cases e : i = S.1
    · subst e
      rw [mj_upd_self]
      exact ⟨hf, hs1⟩
    · rw [mj_upd_ne e]
      exact a2 i (by omega)
  · show (mj_upd S.2.1 S.1 _ 0).2.2.2.1 = 0 ∨ (mj_upd S.2.1 S.1 _ 0).2.2.2.1 = 1024
    rw [mj_upd_ne (by omega)]
    exact a3
  · have hi : i + 1 < S.1 + 1 := hi
    show vbk w (mj_upd S.2.1 S.1 _ (i + 1)) (mj_upd S.2.1 S.1 _ i)
    rw [mj_upd_ne (show i ≠ S.1 by omega)]
    by_cases e : i + 1 = S.1
    · rw [e, mj_upd_self]
      have : elf S = S.2.1 i := by unfold elf; rw [← e]; rfl
      rw [this] at hb hG
      refine vbk_up (F := eFr f bk hh) vpe.refl hp hG rfl hB ?_ hb
      show ebk w S f bk = bk ∨ ebk w S f bk = bk + 1024
      unfold ebk
      split
      · exact Or.inr rfl
      · exact Or.inl rfl
    · rw [mj_upd_ne e]
      exact a4 i (by omega)
  · have hi : i < S.1 + 1 := hi
    have hk : k < vsz w (mj_upd S.2.1 S.1 (eFr f (ebk w S f bk) hh) i).1 := hk
    have hbk : bt (w (2238 + (mj_upd S.2.1 S.1 (eFr f (ebk w S f bk) hh) i).1)) k := hbk
    have hqq : (mj_upd S.2.1 S.1 (eFr f (ebk w S f bk) hh) i).2.2.2.2.2 k = some q := hqq
    show q.1 ≤ i ∧ q.2 < vsz w (mj_upd S.2.1 S.1 (eFr f (ebk w S f bk) hh) q.1).1 ∧ ¬ bt (w (2238 + (mj_upd S.2.1 S.1 (eFr f (ebk w S f bk) hh) q.1).1)) q.2
    by_cases e : i = S.1
    · subst e
      rw [mj_upd_self] at hk hbk hqq
      have hqq : (if k = 0 then hh.2 else none) = some q := hqq
      by_cases ek : k = 0
      · subst ek
        rw [if_pos rfl] at hqq
        obtain ⟨x1, x2, x3⟩ := hq hbk q hqq
        rw [mj_upd_ne (by omega)]
        exact ⟨by omega, x2, x3⟩
      · rw [if_neg ek] at hqq
        cases hqq
    · rw [mj_upd_ne e] at hk hbk hqq
      obtain ⟨x1, x2, x3⟩ := a5 i (by omega) k hk hbk q hqq
      rw [mj_upd_ne (by omega)]
      exact ⟨x1, x2, x3⟩
theorem e_returns {v : Int32} (h : RE s0 s V w S) (hE : EI w S) (hn : S.1 ≤ 2001) : ∃ s', gX11_returns D s (nI 6) v = some ((), s') ∧ EQ s0 s' V w S (ert w S v) := by
  have hw := h.pr
  have h0 := h
  obtain ⟨h1, h2, h3, h4, h5, h6, h7, h8, h9, h10, h11, h12, h13, h14⟩ := h0
  have hn1 := hE.1
  obtain ⟨k1, k2⟩ := h13 (by omega)
  obtain ⟨m1, m2, m3, m4⟩ := h14 (S.1 - 1) (by omega)
  have hft : (elf S).1 < 10 := (hE.2.1 (S.1 - 1) (by omega)).1
  have hwd := h5.wd hft
  have hvu := hE.vw h5 S.1 (Nat.le_refl _)
  have hvu1 := hE.vw h5 (S.1 - 1) (by omega)
  have hve : vus w S.2.1 S.1 = vus w S.2.1 (S.1 - 1) + vwd w (elf S).1 := by
    have := vus_1 (w := w) (fr := S.2.1) (n := S.1 - 1)
    rw [show S.1 - 1 + 1 = S.1 by omega] at this
    exact this
  have hbk := hE.bk
  have m3 : s 114 (vus w S.2.1 (S.1 - 1) + 1) = nI (elf S).2.2.2.1 := m3
  have h5n : s 110 5 ≠ 0 := by rw [h1]; decide
  unfold gX11_returns
  rw [li_add, ix_nI (by omega) (by omega), k1, q_word1 h5n (by omega), cl_some, m2, li_add2, q_word1 h5n (by omega), cl_some, m3, li_add, ix_nI (by omega) (by omega), li_add, ix_nI (by omega) (by omega), k2, q_frameOf hft, cl_some, hw (2228 + (elf S).1) (Or.inl (by omega)), hwd.1, ix_nI (by omega) (by omega), wr_eq, h8, hve, nI_sub (by omega), Nat.add_sub_cancel, li_add, ix_nI (by omega) (by omega), ix_nI (by omega) (by omega), wr_eq, wt_u_nk (show 3954 + 6 ≠ 3961 + 6 by omega), h7, li_sub (by omega)]
  generalize hA : wt_u (wt_u s 111 (3961 + 6) (nI (vus w S.2.1 (S.1 - 1)))) 111 (3954 + 6) (nI (S.1 - 1)) = sA
  have a5 : sA 110 5 = 1 := by rw [← hA, wt_u_ne (by omega), wt_u_ne (by omega)]; exact h1
  have a5n : sA 110 5 ≠ 0 := by rw [a5]; decide
  have aRR : RR (sA 111) V := by
    rw [← hA, wt_u_at, wt_u_at]
    exact (h2.w6 (by omega)).w6 (by omega)
  have aRG : RG s0 sA := by
    rw [← hA]
    exact h3.trans (RG.trans (RG.uf (Or.inl rfl)) (RG.uf (Or.inl rfl)))
  have aw : ∀ i, i ≠ 3961 + 6 → i ≠ 3954 + 6 → sA 111 i = s 111 i := fun i g1 g2 => by rw [← hA, wt_u_nk g2, wt_u_nk g1]
  have a67 : sA 111 (3961 + 6) = nI (vus w S.2.1 (S.1 - 1)) := by rw [← hA, wt_u_nk (by omega), wt_u_self]
  have a60 : sA 111 (3954 + 6) = nI (S.1 - 1) := by rw [← hA, wt_u_self]
  have a114 : sA 114 = s 114 := by rw [← hA, wt_u_ne (by omega), wt_u_ne (by omega)]
  unfold ert
  by_cases c : S.1 ≤ 1
  · rw [if_pos (show S.1 - 1 = 0 by omega), if_neg (by simp), if_pos c]
    unfold gX11_isDone
    rw [li_add, ix_nI (by omega) (by omega), wr_eq, li_add, ix_nI (by omega) (by omega), wr_eq, if_neg (by rw [wt_u_ne (by omega), wt_u_ne (by omega)]; exact a5n), cl_some]
    refine ⟨_, rfl, ?_, ?_, ?_, ?_, ?_, ?_, ?_⟩
    · rw [wt_u_ne (by omega), wt_u_ne (by omega)]; exact a5
    · rw [wt_u_at, wt_u_at]; exact (aRR.w6 (by omega)).w6 (by omega)
    · exact aRG.trans (RG.trans (RG.uf (Or.inl rfl)) (RG.uf (Or.inl rfl)))
    · rw [wt_u_nk (by omega), wt_u_self]
    · rw [wt_u_self]
    · rw [wt_u_nk (by omega), wt_u_nk (by omega), aw _ (by omega) (by omega)]; exact h11
    · rw [wt_u_nk (by omega), wt_u_nk (by omega), aw _ (by omega) (by omega)]; exact h10
  · have hvb := hE.2.2.2.1 (S.1 - 2) (by omega)
    rw [show S.1 - 2 + 1 = S.1 - 1 by omega] at hvb
    have hvb : vbk w (elf S) (S.2.1 (S.1 - 2)) := hvb
    obtain ⟨b1, b2, b3, b4, b5⟩ := hvb
    have hfm := (hE.2.1 (S.1 - 2) (by omega)).1
    have hlim := (h5.li hfm).2
    obtain ⟨c', c1, c2, c3⟩ := vlin_c (l := (elf S).2.2.2.1 % 32 - 1) h5 hfm b4 (by rcases b5 with ⟨-, e, -⟩ | ⟨-, e, -⟩; exact Or.inl e; exact Or.inr e)
    have hz8 := (h5.sz hfm).2
    have hvu2 := hE.vw h5 (S.1 - 2) (by omega)
    have hvm2 : vus w S.2.1 (S.1 - 1 - 1) = vus w S.2.1 (S.1 - 2) := by rw [show S.1 - 1 - 1 = S.1 - 2 by omega]
    rw [if_neg (show ¬ S.1 - 1 = 0 by omega), if_pos (nI_m1 (by rw [hvm2]; omega)), if_pos a5n, if_neg c, hvm2]
    unfold gX11_returns_108
    obtain ⟨bb1, bb2, bb3, bb4, -⟩ := bk_at hbk
    have hcn : (w (vco ((elf S).2.2.2.1 % 1024 / 32) ((elf S).2.2.2.1 % 32 - 1) + 3)).toInt.toNat = c' := by
      rw [b2, c1, nI_int (by omega)]
      rfl
    rw [hcn, bb3, bb4, li_add, ix_nI (by omega) (by omega), wr_eq, li_add, ix_nI (by omega) (by omega), wr_eq, li_add, ix_nI (by omega) (by omega), wr_eq, ix_nI (by omega) (by omega), ix_nI (by omega) (by omega), wt_u_self, wt_u_nk (show 3975 + 6 ≠ 3968 + 6 by omega), wt_u_self, li_sub (by omega), q_codeAt, cl_some, li_add2, ix_nI (by omega) (by omega)]
    generalize hBs : wt_u (wt_u (wt_u sA 111 (3982 + 6) (nI (vus w S.2.1 (S.1 - 2)))) 111 (3975 + 6) (nI ((elf S).2.2.2.1 % 1024 / 32))) 111 (3968 + 6) (nI ((elf S).2.2.2.1 % 32)) = sB
    have bw : ∀ i, i ≠ 3982 + 6 → i ≠ 3975 + 6 → i ≠ 3968 + 6 → sB 111 i = sA 111 i := fun i g1 g2 g3 => by rw [← hBs, wt_u_nk g3, wt_u_nk g2, wt_u_nk g1]
    have hco : sB 111 (2258 + 4 * (16 * ((elf S).2.2.2.1 % 1024 / 32) + ((elf S).2.2.2.1 % 32 - 1)) + 3) = nI c' := by
      rw [bw _ (by omega) (by omega) (by omega), aw _ (by omega) (by omega), hw _ (Or.inl (by omega)), b2]
      exact c1
    have hRB : RE s0 sB V w (S.1 - 1, S.2.1, (elf S).2.2.2.1 % 32, S.2.2.2) := by
      refine ⟨?_, ?_, ?_, h4, h5, h6, ?_, ?_, ?_, ?_, ?_, ?_, fun _ => ⟨?_, ?_⟩, ?_⟩
      · rw [← hBs, wt_u_ne (by omega), wt_u_ne (by omega), wt_u_ne (by omega)]; exact a5
      · rw [← hBs, wt_u_at, wt_u_at, wt_u_at]; exact ((aRR.w6 (by omega)).w6 (by omega)).w6 (by omega)
      · rw [← hBs]; exact aRG.trans (RG.trans (RG.uf (Or.inl rfl)) (RG.trans (RG.uf (Or.inl rfl)) (RG.uf (Or.inl rfl))))
      · rw [bw _ (by omega) (by omega) (by omega)]; exact a60
      · rw [bw _ (by omega) (by omega) (by omega)]; exact a67
      · rw [← hBs, wt_u_self]
      · rw [bw _ (by omega) (by omega) (by omega), aw _ (by omega) (by omega)]; exact h10
      · rw [bw _ (by omega) (by omega) (by omega), aw _ (by omega) (by omega)]; exact h11
      · rw [bw _ (by omega) (by omega) (by omega), aw _ (by omega) (by omega)]; exact h12
      · show _ = nI (vus w S.2.1 (S.1 - 1 - 1))
        rw [hvm2, ← hBs, wt_u_nk (by omega), wt_u_nk (by omega), wt_u_self]
      · show _ = nI (S.2.1 (S.1 - 1 - 1)).1
        rw [show S.1 - 1 - 1 = S.1 - 2 by omega, ← b2, ← hBs, wt_u_nk (by omega), wt_u_self]
      · have e114 : sB 114 = s 114 := by rw [← hBs, wt_u_ne (by omega), wt_u_ne (by omega), wt_u_ne (by omega)]; exact a114
        rw [e114]
        intro i hi
        have hi : i < S.1 - 1 := hi
        exact h14 i (by omega)
    have hEB : EI w (S.1 - 1, S.2.1, (elf S).2.2.2.1 % 32, S.2.2.2) := hE.pop (by omega) (by omega)
    have hRN := hRB.nu (i := S.1 - 2) (k := c') (v := v) (by show S.1 - 2 < S.1 - 1; omega) c2 c3
    have hb5 : sB 110 5 ≠ 0 := by rw [hRB.1]; decide
    rw [hco, li_add2, nI_add, q_lays1 hb5 (by omega), cl_some]
    have hend : EQ s0 (wt_u sB 114 (vus w S.2.1 (S.1 - 2) + 2 + c') v) V w S (.inl (enu (S.1 - 1, S.2.1, (elf S).2.2.2.1 % 32, S.2.2.2) (S.1 - 2) c' v)) := ⟨hRN, hEB.nu, by show S.1 - 1 ≤ S.1 + 1; omega, by show S.2.2.2.1 ≤ _; omega, rfl⟩
    by_cases cc : (nI (elf S).2.2.2.1 &&& 2048) = 0
    · rw [if_pos cc]
      exact ⟨_, rfl, hend⟩
    · have hc5 : (wt_u sB 114 (vus w S.2.1 (S.1 - 2) + 2 + c') v) 110 5 ≠ 0 := by rw [hRN.1]; decide
      rw [if_neg cc, li_add2, ix_nI (by omega) (by omega)]
      unfold gX11_foreignOver
      rw [q_counts1 hc5, cl_some, if_neg hc5, cl_some]
      exact ⟨_, rfl, hend⟩
end
end
