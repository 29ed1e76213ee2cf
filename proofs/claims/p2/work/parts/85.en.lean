/-! ===== the endless stack: a machine of its own ===== -/
/-- how many frames, the frames, the line that comes next, the most words, steps -/
abbrev eS : Type := Nat × (Nat → vF) × Nat × Nat × Nat
def eNu (F : vF) (k : Nat) (v : Int32) : vF := (F.1, F.2.1, F.2.2.1, F.2.2.2.1, mj_upd F.2.2.2.2.1 k v, F.2.2.2.2.2)
def ePo (F : vF) (k : Nat) (q : Option (Nat × Nat)) : vF := (F.1, F.2.1, F.2.2.1, F.2.2.2.1, F.2.2.2.2.1, mj_upd F.2.2.2.2.2 k q)
def enu (S : eS) (i k : Nat) (v : Int32) : eS := (S.1, mj_upd S.2.1 i (eNu (S.2.1 i) k v), S.2.2)
def epo (S : eS) (i k : Nat) (q : Option (Nat × Nat)) : eS := (S.1, mj_upd S.2.1 i (ePo (S.2.1 i) k q), S.2.2)
def elf (S : eS) : vF := S.2.1 (S.1 - 1)
def ecv (S : eS) : Bool := decide (0 < S.1) && decide ((elf S).2.2.2.1 / 1024 % 2 = 1)
def ebk (w : Nat → Int32) (S : eS) (f bk : Nat) : Nat := bk + if ecv S = true ∨ vmg w f = true then 1024 else 0
def eFr (f bk : Nat) (h : Int32 × Option (Nat × Nat)) : vF := (f, 0, 0, bk, (fun k => if k = 0 then h.1 else 0), (fun k => if k = 0 then h.2 else none))
def epu (w : Nat → Int32) (S : eS) (f bk : Nat) (h : Int32 × Option (Nat × Nat)) : eS := (S.1 + 1, mj_upd S.2.1 S.1 (eFr f (ebk w S f bk) h), 0, max S.2.2.2.1 (vus w S.2.1 S.1 + vwd w f), S.2.2.2.2)
def eli (S : eS) (l : Nat) : eS := (S.1, S.2.1, l, S.2.2.2)
def ert (w : Nat → Int32) (S : eS) (v : Int32) : eS ⊕ Int32 := if S.1 ≤ 1 then .inr v else .inl (enu (S.1 - 1, S.2.1, (elf S).2.2.2.1 % 32, S.2.2.2) (S.1 - 2) (w (vco ((elf S).2.2.2.1 % 1024 / 32) ((elf S).2.2.2.1 % 32 - 1) + 3)).toInt.toNat v)
def eln (w : Nat → Int32) (S : eS) (l : Nat) (kind a b c : Int32) : eS ⊕ Int32 :=
  let i := S.1 - 1
  let F := elf S
  if kind = 0 then .inl (enu S i a.toInt.toNat b)
  else if kind = 1 then .inl (enu S i a.toInt.toNat (vnm F b + vnm F c))
  else if kind = 2 then .inl (enu S i a.toInt.toNat (if (vnm F c).toInt ≤ (vnm F b).toInt then 0 else 1))
  else if kind = 3 then .inl (epo S i a.toInt.toNat (some (i, b.toInt.toNat)))
  else if kind = 4 then .inl (enu S i a.toInt.toNat (match F.2.2.2.2.2 b.toInt.toNat with
    | none => 0
    | some q => (S.2.1 q.1).2.2.2.2.1 q.2))
  else if kind = 5 then .inl (match F.2.2.2.2.2 a.toInt.toNat with
    | none => S
    | some q => enu S q.1 q.2 (vnm F b))
  else if kind = 6 then .inl (if tld w a then epu w S a.toInt.toNat (32 * F.1 + l + 1) (vha w a.toInt.toNat F b.toInt.toNat) else enu S i c.toInt.toNat 0)
  else if kind = 7 then .inl (if (vnm F a).toInt ≤ 0 then S else eli S b.toInt.toNat)
  else if kind = 8 then ert w S (vnm F a)
  else if kind = 9 then .inl (if tld w b then epu w S b.toInt.toNat (32 * F.1 + l + 1 + 2048) (vha w b.toInt.toNat F c.toInt.toNat) else enu S i c.toInt.toNat (3 * vnm F c + 1))
  else .inl S
def est (w : Nat → Int32) (S : eS) : eS ⊕ Int32 :=
  let f := (elf S).1
  let l := S.2.2.1
  let S1 : eS := (S.1, S.2.1, l, S.2.2.2.1, S.2.2.2.2 + 1)
  if l < vli w f then eln w (eli S1 (l + 1)) l (w (vco f l)) (w (vco f l + 1)) (w (vco f l + 2)) (w (vco f l + 3)) else ert w S1 0
/-- what always holds there -/
def EI (w : Nat → Int32) (S : eS) : Prop := 1 ≤ S.1 ∧ (∀ i, i < S.1 → (S.2.1 i).1 < 10 ∧ 1 ≤ vsz w (S.2.1 i).1) ∧ ((S.2.1 0).2.2.2.1 = 0 ∨ (S.2.1 0).2.2.2.1 = 1024) ∧ (∀ i, i + 1 < S.1 → vbk w (S.2.1 (i + 1)) (S.2.1 i)) ∧
  (∀ i, i < S.1 → ∀ k, k < vsz w (S.2.1 i).1 → bt (w (2238 + (S.2.1 i).1)) k → ∀ q, (S.2.1 i).2.2.2.2.2 k = some q → q.1 ≤ i ∧ q.2 < vsz w (S.2.1 q.1).1 ∧ ¬ bt (w (2238 + (S.2.1 q.1).1)) q.2) ∧ S.2.2.1 ≤ 16
theorem vus_lt {w : Nat → Int32} {fr : Nat → vF} {i j : Nat} (h : i < j) : vus w fr i + vwd w (fr i).1 ≤ vus w fr j := by
  induction j with
  | zero => omega
  | succ j ih =>
    rw [vus_1]
    by_cases e : i = j
    · subst e; exact Nat.le_refl _
    · have := ih (by omega)
      omega
theorem vus_fn {w : Nat → Int32} {fr fr' : Nat → vF} : ∀ {n : Nat}, (∀ i, i < n → (fr' i).1 = (fr i).1) → vus w fr' n = vus w fr n := by
  intro n
  induction n with
  | zero => intro _; rfl
  | succ n ih =>
    intro h
    rw [vus_1, vus_1, ih (fun i hi => h i (by omega)), h n (by omega)]
theorem vus_le {w : Nat → Int32} {fr : Nat → vF} : ∀ {n : Nat}, (∀ i, i < n → vwd w (fr i).1 ≤ 10) → vus w fr n ≤ 10 * n := by
  intro n
  induction n with
  | zero => intro _; exact Nat.le_refl _
  | succ n ih =>
    intro h
    have := ih (fun i hi => h i (by omega))
    have := h n (by omega)
    rw [vus_1]
    omega
section
variable {w mm mm' : Nat → Int32} {n : Nat} {fr : Nat → vF} {F : vF}
/-- a slot is written -/
theorem MR.set2 {i k : Nat} {v : Int32} (h : MR mm w n fr (vus w fr)) (hi : i < n) (hk : k < vsz w (fr i).1) (h1 : F.1 = (fr i).1) (h4 : F.2.2.2.1 = (fr i).2.2.2.1) (hv : vsw w (vus w fr) F k = v) (hs : ∀ k', k' ≠ k → vsw w (vus w fr) F k' = vsw w (vus w fr) (fr i) k') : MR (mj_upd mm (vus w fr i + 2 + k) v) w n (mj_upd fr i F) (vus w (mj_upd fr i F)) := by
  have hf1 : ∀ j, (mj_upd fr i F j).1 = (fr j).1 := fun j => by
    by_cases e : j = i
    · subst e; rw [mj_upd_self, h1]
    · rw [mj_upd_ne e]
  have ep : vus w (mj_upd fr i F) = vus w fr := funext fun m => vus_fn (fun j _ => hf1 j)
  rw [ep]
  intro j hj
  obtain ⟨g1, g2, g3, g4⟩ := h j hj
  by_cases e : j = i
  · subst e
    rw [mj_upd_self, h1, h4]
    refine ⟨g1, ?_, ?_, fun k' hk' => ?_⟩
    · rw [mj_upd_ne (by omega)]; exact g2
    · rw [mj_upd_ne (by omega)]; exact g3
    · by_cases ek : k' = k
      · subst ek
        rw [mj_upd_self, hv]
      · rw [mj_upd_ne (by omega), hs k' ek]
        exact g4 k' hk'
  · rw [mj_upd_ne e]
    have hd : vus w fr i + vwd w (fr i).1 ≤ vus w fr j ∨ vus w fr j + vwd w (fr j).1 ≤ vus w fr i := by
      rcases Nat.lt_or_gt_of_ne e with c | c
      · exact Or.inr (vus_lt c)
      · exact Or.inl (vus_lt c)
    unfold vwd at hd
    refine ⟨g1, ?_, ?_, fun k' hk' => ?_⟩
    · rw [mj_upd_ne (by omega)]; exact g2
    · rw [mj_upd_ne (by omega)]; exact g3
    · rw [mj_upd_ne (by omega)]; exact g4 k' hk'
/-- a frame comes -/
theorem MR.push2 (h : MR mm w n fr (vus w fr)) (hm : ∀ x, x < vus w fr n → mm' x = mm x) (hq : ∀ i, i < n → ∀ k, k < vsz w (fr i).1 → bt (w (2238 + (fr i).1)) k → ∀ q, (fr i).2.2.2.2.2 k = some q → q.1 ≤ i) (hF : F.1 < 10) (h1 : mm' (vus w fr n) = (if n = 0 then -1 else nI (vus w fr (n - 1)))) (h2 : mm' (vus w fr n + 1) = nI F.2.2.2.1) (h3 : ∀ k, k < vsz w F.1 → mm' (vus w fr n + 2 + k) = vsw w (vus w fr) F k) (h4 : ∀ k, k < vsz w F.1 → bt (w (2238 + F.1)) k → ∀ q, F.2.2.2.2.2 k = some q → q.1 < n) : MR mm' w (n + 1) (mj_upd fr n F) (vus w (mj_upd fr n F)) := by
  have ep : ∀ m, m ≤ n → vus w (mj_upd fr n F) m = vus w fr m := fun m hm => vus_fn (fun j hj => by rw [mj_upd_ne (by omega)])
  intro i hi
  by_cases e : i = n
  · subst e
    rw [mj_upd_self, ep i (Nat.le_refl _)]
    refine ⟨hF, ?_, h2, fun k hk => ?_⟩
    · rw [h1]
      by_cases c : i = 0
      · rw [if_pos c, if_pos c]
      · rw [if_neg c, if_neg c, ep _ (by omega)]
    · rw [h3 k hk]
      unfold vsw
      by_cases cb : bt (w (2238 + F.1)) k
      · rw [if_pos cb, if_pos cb]
        cases eq : F.2.2.2.2.2 k with
        | none => rfl
        | some q =>
          show nI _ = nI _
          rw [ep _ (by have := h4 k hk cb q eq; omega)]
      · rw [if_neg cb, if_neg cb]
  · obtain ⟨g1, g2, g3, g4⟩ := h i (by omega)
    have hlt := vus_lt (w := w) (fr := fr) (show i < n by omega)
    unfold vwd at hlt
    rw [mj_upd_ne e, ep i (by omega)]
    refine ⟨g1, ?_, ?_, fun k hk => ?_⟩
    · rw [hm _ (by omega), g2]
      by_cases c : i = 0
      · rw [if_pos c, if_pos c]
      · rw [if_neg c, if_neg c, ep _ (by omega)]
    · rw [hm _ (by omega)]; exact g3
    · rw [hm _ (by omega), g4 k hk]
      unfold vsw
      by_cases cb : bt (w (2238 + (fr i).1)) k
      · rw [if_pos cb, if_pos cb]
        cases eq : (fr i).2.2.2.2.2 k with
        | none => rfl
        | some q =>
          show nI _ = nI _
          rw [ep _ (by have := hq i (by omega) k hk cb q eq; omega)]
      · rw [if_neg cb, if_neg cb]
end
/-- what else of the store stays -/
def RG (s s' : wt_S) : Prop := (∀ c, c < 110 → s' c = s c) ∧ s' 112 = s 112 ∧ s' 113 = s 113 ∧ s' 110 4 = s 110 4
theorem RG.refl {s : wt_S} : RG s s := ⟨fun _ _ => rfl, rfl, rfl, rfl⟩
theorem RG.trans {s s1 s2 : wt_S} (h : RG s s1) (h' : RG s1 s2) : RG s s2 := ⟨fun c hc => (h'.1 c hc).trans (h.1 c hc), h'.2.1.trans h.2.1, h'.2.2.1.trans h.2.2.1, h'.2.2.2.trans h.2.2.2⟩
theorem RG.uf {s : wt_S} {f : Nat → Int32} {a : Nat} (ha : a = 111 ∨ 114 ≤ a) : RG s (wt_uf s a f) :=
  ⟨fun c hc => wt_uf_ne (by omega), wt_uf_ne (by omega), wt_uf_ne (by omega), by rw [wt_uf_ne (by omega)]⟩
theorem RG.uo {s : wt_S} {k : Nat} {v : Int32} (hk : k ≠ 4) : RG s (wt_u s 110 k v) :=
  ⟨fun c hc => wt_u_ne (by omega), wt_u_ne (by omega), wt_u_ne (by omega), by rw [wt_u_nk (by omega)]⟩
theorem RG.of {s s' : wt_S} (h : RF s s') : RG s s' := ⟨h.1, h.2.1, h.2.2.1, h.2.2.2.1⟩
/-- the thought's own words are nobody's -/
theorem RR.w6 {w : Nat → Int32} {V : vV} {i : Nat} {v : Int32} (h : RR w V) (hi : 3926 ≤ i ∧ i < 4073 ∧ (i - 3926) % 7 = 6) : RR (mj_upd w i v) V :=
  h.mk' (fun j hj => by
    rw [mj_upd_ne (by unfold vtr at hj; omega)]
    exact h.at hj) (vr_P_upd (by unfold vout; omega) h.2.1) (fun p hp => mj_upd_ne (by omega)) (fun _ hm => hm)
/-- the store holds the endless machine's state -/
def RE (s0 s : wt_S) (V : vV) (w : Nat → Int32) (S : eS) : Prop := s 110 5 = 1 ∧ RR (s 111) V ∧ RG s0 s ∧ vpe w V.1 ∧ Ipr w ∧ (∃ z, w 2051 = nI z ∧ z ≤ 80) ∧ s 111 (3954 + 6) = nI S.1 ∧ s 111 (3961 + 6) = nI (vus w S.2.1 S.1) ∧ s 111 (3968 + 6) = nI S.2.2.1 ∧ s 111 (4045 + 6) = nI S.2.2.2.1 ∧ s 111 (3947 + 6) = nI S.2.2.2.2 ∧ s 111 (3926 + 6) = 1 ∧ (0 < S.1 → s 111 (3982 + 6) = nI (vus w S.2.1 (S.1 - 1)) ∧ s 111 (3975 + 6) = nI (elf S).1) ∧ MR (s 114) w S.1 S.2.1 (vus w S.2.1)
section
variable {s0 s : wt_S} {V : vV} {w : Nat → Int32} {S : eS}
theorem RE.pr (h : RE s0 s V w S) : vpe w (s 111) := fun i hi => by
  rw [← h.2.2.2.1 i hi]
  exact h.2.1.at (by unfold vtr; omega)
/-- a word of the thought's own that nothing hangs on -/
theorem RE.u {i : Nat} {v : Int32} (h : RE s0 s V w S) (hi : 3926 ≤ i ∧ i < 4073 ∧ (i - 3926) % 7 = 6) (hn : i ≠ (3954 + 6) ∧ i ≠ (3961 + 6) ∧ i ≠ (3968 + 6) ∧ i ≠ (4045 + 6) ∧ i ≠ (3947 + 6) ∧ i ≠ (3926 + 6) ∧ i ≠ (3982 + 6) ∧ i ≠ (3975 + 6)) : RE s0 (wt_u s 111 i v) V w S := by
  obtain ⟨h1, h2, h3, h4, h5, h6, h7, h8, h9, h10, h11, h12, h13, h14⟩ := h
  refine ⟨by rw [wt_u_ne (by omega)]; exact h1, by rw [wt_u_at]; exact h2.w6 hi, h3.trans (RG.uf (Or.inl rfl)), h4, h5, h6, ?_, ?_, ?_, ?_, ?_, ?_, ?_, by rw [wt_u_ne (by omega)]; exact h14⟩
  · rw [wt_u_nk (by omega)]; exact h7
  · rw [wt_u_nk (by omega)]; exact h8
  · rw [wt_u_nk (by omega)]; exact h9
  · rw [wt_u_nk (by omega)]; exact h10
  · rw [wt_u_nk (by omega)]; exact h11
  · rw [wt_u_nk (by omega)]; exact h12
  · rw [wt_u_nk (by omega), wt_u_nk (by omega)]; exact h13
theorem RE.li {l : Nat} (h : RE s0 s V w S) : RE s0 (wt_u s 111 (3968 + 6) (nI l)) V w (eli S l) := by
  obtain ⟨h1, h2, h3, h4, h5, h6, h7, h8, h9, h10, h11, h12, h13, h14⟩ := h
  refine ⟨by rw [wt_u_ne (by omega)]; exact h1, by rw [wt_u_at]; exact h2.w6 (by omega), h3.trans (RG.uf (Or.inl rfl)), h4, h5, h6, ?_, ?_, ?_, ?_, ?_, ?_, ?_, by rw [wt_u_ne (by omega)]; exact h14⟩
  · rw [wt_u_nk (by omega)]; exact h7
  · rw [wt_u_nk (by omega)]; exact h8
  · rw [wt_u_self]; rfl
  · rw [wt_u_nk (by omega)]; exact h10
  · rw [wt_u_nk (by omega)]; exact h11
  · rw [wt_u_nk (by omega)]; exact h12
  · rw [wt_u_nk (by omega), wt_u_nk (by omega)]; exact h13
theorem RE.st (h : RE s0 s V w S) : RE s0 (wt_u s 111 (3947 + 6) (nI (S.2.2.2.2 + 1))) V w (S.1, S.2.1, S.2.2.1, S.2.2.2.1, S.2.2.2.2 + 1) := by
  obtain ⟨h1, h2, h3, h4, h5, h6, h7, h8, h9, h10, h11, h12, h13, h14⟩ := h
  refine ⟨by rw [wt_u_ne (by omega)]; exact h1, by rw [wt_u_at]; exact h2.w6 (by omega), h3.trans (RG.uf (Or.inl rfl)), h4, h5, h6, ?_, ?_, ?_, ?_, ?_, ?_, ?_, by rw [wt_u_ne (by omega)]; exact h14⟩
  · rw [wt_u_nk (by omega)]; exact h7
  · rw [wt_u_nk (by omega)]; exact h8
  · rw [wt_u_nk (by omega)]; exact h9
  · rw [wt_u_nk (by omega)]; exact h10
  · rw [wt_u_self]
  · rw [wt_u_nk (by omega)]; exact h12
  · rw [wt_u_nk (by omega), wt_u_nk (by omega)]; exact h13
theorem RE.fr {i k : Nat} {F : vF} {v : Int32} (h : RE s0 s V w S) (hi : i < S.1) (hk : k < vsz w (S.2.1 i).1) (h1' : F.1 = (S.2.1 i).1) (h4' : F.2.2.2.1 = (S.2.1 i).2.2.2.1) (hv : vsw w (vus w S.2.1) F k = v) (hs : ∀ k', k' ≠ k → vsw w (vus w S.2.1) F k' = vsw w (vus w S.2.1) (S.2.1 i) k') : RE s0 (wt_u s 114 (vus w S.2.1 i + 2 + k) v) V w (S.1, mj_upd S.2.1 i F, S.2.2) := by
  obtain ⟨h1, h2, h3, h4, h5, h6, h7, h8, h9, h10, h11, h12, h13, h14⟩ := h
  have hf1 : ∀ j, (mj_upd S.2.1 i F j).1 = (S.2.1 j).1 := fun j => by
    by_cases e : j = i
    · subst e; rw [mj_upd_self, h1']
    · rw [mj_upd_ne e]
  have ep : ∀ m, vus w (mj_upd S.2.1 i F) m = vus w S.2.1 m := fun m => vus_fn (fun j _ => hf1 j)
  have e1 : (wt_u s 114 (vus w S.2.1 i + 2 + k) v) 111 = s 111 := wt_u_ne (by omega)
  refine ⟨by rw [wt_u_ne (by omega)]; exact h1, by rw [e1]; exact h2, h3.trans (RG.uf (Or.inr (by omega))), h4, h5, h6, by rw [e1]; exact h7, ?_, by rw [e1]; exact h9, by rw [e1]; exact h10, by rw [e1]; exact h11, by rw [e1]; exact h12, ?_, ?_⟩
  · rw [e1]
    show _ = nI (vus w (mj_upd S.2.1 i F) S.1)
    rw [ep]; exact h8
  · intro h0
    rw [e1]
    refine ⟨?_, ?_⟩
    · show _ = nI (vus w (mj_upd S.2.1 i F) (S.1 - 1))
      rw [ep]; exact (h13 h0).1
    · show _ = nI (mj_upd S.2.1 i F (S.1 - 1)).1
      rw [hf1]; exact (h13 h0).2
  · rw [wt_u_at]
    exact h14.set2 hi hk h1' h4' hv hs
theorem RE.nu {i k : Nat} {v : Int32} (h : RE s0 s V w S) (hi : i < S.1) (hk : k < vsz w (S.2.1 i).1) (hb : ¬ bt (w (2238 + (S.2.1 i).1)) k) : RE s0 (wt_u s 114 (vus w S.2.1 i + 2 + k) v) V w (enu S i k v) := by
  refine h.fr hi hk rfl rfl ?_ (fun k' hk' => ?_)
  · unfold vsw
    show (if bt (w (2238 + (S.2.1 i).1)) k then _ else mj_upd (S.2.1 i).2.2.2.2.1 k v k) = v
    rw [if_neg hb, mj_upd_self]
  · unfold vsw
    show (if bt (w (2238 + (S.2.1 i).1)) k' then _ else mj_upd (S.2.1 i).2.2.2.2.1 k v k') = _
    rw [mj_upd_ne hk']
    rfl
theorem RE.po {i k : Nat} {q : Option (Nat × Nat)} (h : RE s0 s V w S) (hi : i < S.1) (hk : k < vsz w (S.2.1 i).1) (hb : bt (w (2238 + (S.2.1 i).1)) k) : RE s0 (wt_u s 114 (vus w S.2.1 i + 2 + k) (match q with | none => -1 | some x => nI (vus w S.2.1 x.1 + 2 + x.2))) V w (epo S i k q) := by
  refine h.fr hi hk rfl rfl ?_ (fun k' hk' => ?_)
  · unfold vsw
    show (if bt (w (2238 + (S.2.1 i).1)) k then (match mj_upd (S.2.1 i).2.2.2.2.2 k q k with | none => (-1 : Int32) | some x => nI (vus w S.2.1 x.1 + 2 + x.2)) else _) = _
    rw [if_pos hb, mj_upd_self]
  · unfold vsw
    show (if bt (w (2238 + (S.2.1 i).1)) k' then (match mj_upd (S.2.1 i).2.2.2.2.2 k q k' with | none => (-1 : Int32) | some x => nI (vus w S.2.1 x.1 + 2 + x.2)) else _) = _
    rw [mj_upd_ne hk']
    rfl
end
section
variable {w : Nat → Int32} {S : eS}
theorem EI.vw (h : EI w S) (hp : Ipr w) : ∀ n, n ≤ S.1 → vus w S.2.1 n ≤ 10 * n := fun n hn => vus_le (fun i hi => (hp.wd (h.2.1 i (by omega)).1).2)
theorem EI.fr {i : Nat} {F : vF} (h : EI w S) (h1 : F.1 = (S.2.1 i).1) (h4 : F.2.2.2.1 = (S.2.1 i).2.2.2.1)
    (hq : ∀ k, k < vsz w (S.2.1 i).1 → bt (w (2238 + (S.2.1 i).1)) k → ∀ q, F.2.2.2.2.2 k = some q → (S.2.1 i).2.2.2.2.2 k = some q ∨ (q.1 ≤ i ∧ q.2 < vsz w (S.2.1 q.1).1 ∧ ¬ bt (w (2238 + (S.2.1 q.1).1)) q.2)) : EI w (S.1, mj_upd S.2.1 i F, S.2.2) := by
  obtain ⟨a1, a2, a3, a4, a5, a6⟩ := h
  have e1 : ∀ j, (mj_upd S.2.1 i F j).1 = (S.2.1 j).1 := fun j => by
    by_cases e : j = i
    · subst e; rw [mj_upd_self, h1]
    · rw [mj_upd_ne e]
  have e4 : ∀ j, (mj_upd S.2.1 i F j).2.2.2.1 = (S.2.1 j).2.2.2.1 := fun j => by
    by_cases e : j = i
    · subst e; rw [mj_upd_self, h4]
    · rw [mj_upd_ne e]
  refine ⟨a1, fun j hj => ?_, ?_, fun j hj => ?_, fun j hj k hk hb q hqq => ?_, a6⟩
  · show (mj_upd S.2.1 i F j).1 < 10 ∧ 1 ≤ vsz w (mj_upd S.2.1 i F j).1
    rw [e1]; exact a2 j hj
  · show (mj_upd S.2.1 i F 0).2.2.2.1 = 0 ∨ (mj_upd S.2.1 i F 0).2.2.2.1 = 1024
    rw [e4]; exact a3
  · have := a4 j hj
    unfold vbk at this ⊢
    show (mj_upd S.2.1 i F (j + 1)).2.2.2.1 < 4096 ∧ (mj_upd S.2.1 i F (j + 1)).2.2.2.1 % 1024 / 32 = (mj_upd S.2.1 i F j).1 ∧ _
    simp only [e1, e4]
    exact this
  · have hk2 : k < vsz w (S.2.1 j).1 := by rw [← e1 j]; exact hk
    have hb2 : bt (w (2238 + (S.2.1 j).1)) k := by rw [← e1 j]; exact hb
    have hqq : (mj_upd S.2.1 i F j).2.2.2.2.2 k = some q := hqq
    show q.1 ≤ j ∧ q.2 < vsz w (mj_upd S.2.1 i F q.1).1 ∧ ¬ bt (w (2238 + (mj_upd S.2.1 i F q.1).1)) q.2
    rw [e1 q.1]
    by_cases e : j = i
    · subst e
      rw [mj_upd_self] at hqq
      rcases hq k hk2 hb2 q hqq with g | g
      · exact a5 j hj k hk2 hb2 q g
      · exact g
    · rw [mj_upd_ne e] at hqq
      exact a5 j hj k hk2 hb2 q hqq
theorem EI.nu {i k : Nat} {v : Int32} (h : EI w S) : EI w (enu S i k v) := h.fr rfl rfl (fun _ _ _ _ hq => Or.inl hq)
theorem EI.po {i k : Nat} {p : Nat × Nat} (h : EI w S) (h1 : p.1 ≤ i) (h2 : p.2 < vsz w (S.2.1 p.1).1) (h3 : ¬ bt (w (2238 + (S.2.1 p.1).1)) p.2) : EI w (epo S i k (some p)) := h.fr rfl rfl (fun k' _ _ q hq => by
  have hq : mj_upd (S.2.1 i).2.2.2.2.2 k (some p) k' = some q := hq
  by_cases e : k' = k
  · subst e
    rw [mj_upd_self] at hq
    cases hq
    exact Or.inr ⟨h1, h2, h3⟩
  · rw [mj_upd_ne e] at hq
    exact Or.inl hq)
theorem EI.li {l : Nat} (h : EI w S) (hl : l ≤ 16) : EI w (eli S l) := ⟨h.1, h.2.1, h.2.2.1, h.2.2.2.1, h.2.2.2.2.1, hl⟩
end
