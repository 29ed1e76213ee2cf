/-! ===== depth, need, out, spare: the reference ===== -/
theorem vs_ne {V : vV} {i j : Nat} {v : Int32} (h : j ≠ i) : (vs V i v).1 j = V.1 j := mj_upd_ne h
theorem vs_at {V : vV} {i : Nat} {v : Int32} : (vs V i v).1 i = v := mj_upd_self
theorem vcn_ne {V : vV} {k j : Nat} {v : Int32} (h : j ≠ 2054 + k) : (vcn V k v).1 j = V.1 j := mj_upd_ne h
theorem vlg1_ne {V : vV} {j : Nat} (h : j ≠ 2067) : (vlg1 V).1 j = V.1 j := mj_upd_ne h
theorem vlg1_at {V : vV} : (vlg1 V).1 2067 = V.1 2067 + 1 := vs_at
theorem vinc_ne {V : vV} {i j : Nat} (h : j ≠ i) : (vinc V i).1 j = V.1 j := mj_upd_ne h
theorem vinc_at {V : vV} {i : Nat} : (vinc V i).1 i = V.1 i + 1 := vs_at
theorem vdp_le {w : Nat → Int32} (hp : Ipr w) : ∀ {m f d : Nat}, f < 10 → vdp w m f = some d → vwd w f ≤ d ∧ d ≤ 10 * m := by
  intro m
  induction m with
  | zero => intro f d hf h; rw [vdp] at h; cases h
  | succ m ih =>
    intro f d hf h
    obtain ⟨M, e, h1, h2⟩ := vdp_spec.2 d h
    have hw := (hp.wd hf).2
    rcases h2 with h2 | ⟨g, g1, g2⟩
    · omega
    · have := (ih (vE_lt g1) g2).2
      omega
/-- the greatest of those that are called -/
def vmx (w : Nat → Int32) (m S : Nat) : Nat → Nat
  | 0 => 0
  | g + 1 => if S.testBit g then max (vmx w m S g) ((vdp w m g).getD 0) else vmx w m S g
theorem vmx_spec {w : Nat → Int32} {m S : Nat} : ∀ {n : Nat}, (∀ g, g < n → S.testBit g = true → (vdp w m g).getD 0 ≤ vmx w m S n) ∧ (vmx w m S n = 0 ∨ ∃ g, g < n ∧ S.testBit g = true ∧ vmx w m S n = (vdp w m g).getD 0) := by
  intro n
  induction n with
  | zero => exact ⟨fun g hg => absurd hg (by omega), Or.inl rfl⟩
  | succ n ih =>
    obtain ⟨h1, h2⟩ := ih
    unfold vmx
    by_cases c : S.testBit n = true
    · rw [if_pos c]
      refine ⟨fun g hg hs => ?_, ?_⟩
      · by_cases e : g = n
        · subst e; exact Nat.le_max_right _ _
        · exact Nat.le_trans (h1 g (by omega) hs) (Nat.le_max_left _ _)
      · by_cases em : vmx w m S n ≤ (vdp w m n).getD 0
        · exact Or.inr ⟨n, by omega, c, Nat.max_eq_right em⟩
        · rw [Nat.max_eq_left (by omega)]
          rcases h2 with h2 | ⟨g, g1, g2, g3⟩
          · exact Or.inl h2
          · exact Or.inr ⟨g, by omega, g2, g3⟩
    · rw [if_neg c]
      refine ⟨fun g hg hs => ?_, ?_⟩
      · by_cases e : g = n
        · subst e; exact absurd hs c
        · exact h1 g (by omega) hs
      · rcases h2 with h2 | ⟨g, g1, g2, g3⟩
        · exact Or.inl h2
        · exact Or.inr ⟨g, by omega, g2, g3⟩
section
variable {s : wt_S}
theorem q_depth (hp : Ipr (s 111)) : ∀ {m f d fu : Nat}, f < 10 → vdp (s 111) m f = some d → m ≤ fu → m ≤ 100 → gX11_depth fu s (nI f) = some (nI d, s) := by
  intro m
  induction m with
  | zero => intro f d fu hf h; rw [vdp] at h; cases h
  | succ m ih =>
    intro f d fu hf h hfu hm
    obtain ⟨fu, rfl⟩ : ∃ k, fu = k + 1 := ⟨fu - 1, by omega⟩
    obtain ⟨M, e, h1, h2⟩ := vdp_spec.2 d h
    have hS : vC (s 111) f < 1024 := vcb_lt
    have hM : vmx (s 111) m (vC (s 111) f) 10 = M := by
      obtain ⟨a1, a2⟩ := vmx_spec (w := s 111) (m := m) (S := vC (s 111) f) (n := 10)
      apply Nat.le_antisymm
      · rcases a2 with a2 | ⟨g, g1, g2, g3⟩
        · omega
        · obtain ⟨d', d1, d2⟩ := h1 g (vC_bit.mp g2)
          rw [g3, d1]
          exact d2
      · rcases h2 with h2 | ⟨g, g1, g2⟩
        · omega
        · have := a1 g (vE_lt g1) (vC_bit.mpr g1)
          rw [g2] at this
          exact this
    have bnd : ∀ n, n ≤ 10 → vmx (s 111) m (vC (s 111) f) n ≤ 10 * m := by
      intro n hn
      rcases (vmx_spec (w := s 111) (m := m) (S := vC (s 111) f) (n := n)).2 with a | ⟨g, g1, g2, g3⟩
      · omega
      · obtain ⟨d', d1, d2⟩ := h1 g (vC_bit.mp g2)
        have := (vdp_le hp (by omega) d1).2
        rw [g3, d1]
        exact this
    have loop : ∀ (k g fu2 : Nat), g + k = 10 → k < fu2 → gX11_depth1_11 (gX11_depth fu) fu2 s (nI f) (nI (vmx (s 111) m (vC (s 111) f) g)) (nI (vC (s 111) f)) (nI g) = some (nI d, s) := by
      intro k
      induction k with
      | zero =>
        intro g fu2 hg hk
        obtain ⟨fu2, rfl⟩ : ∃ k, fu2 = k + 1 := ⟨fu2 - 1, by omega⟩
        obtain rfl : g = 10 := by omega
        rw [gX11_depth1_11, if_pos (by decide), q_frameOf hf, cl_some, (hp.wd hf).1, nI_add, hM, e]
      | succ k ihk =>
        intro g fu2 hg hk
        obtain ⟨fu2, rfl⟩ : ∃ k, fu2 = k + 1 := ⟨fu2 - 1, by omega⟩
        have next := ihk (g + 1) fu2 (by omega) (by omega)
        rw [vmx] at next
        rw [gX11_depth1_11, nI_int (by omega), if_neg (by show ¬ (10 : Int) ≤ g; omega), q_has, cl_some, if_rbn]
        by_cases c : (vC (s 111) f).testBit g = true
        · obtain ⟨d', d1, d2⟩ := h1 g (vC_bit.mp c)
          have hb := bnd g (by omega)
          have hd := (vdp_le hp (by omega) d1).2
          rw [if_pos ((bt_nI hS (by omega)).mpr c), ih (by omega) d1 (by omega) (by omega), cl_some, nI_int (by omega), nI_int (by omega)]
          rw [if_pos c, d1] at next
          have next : gX11_depth1_11 (gX11_depth fu) fu2 s (nI f) (nI (max (vmx (s 111) m (vC (s 111) f) g) d')) (nI (vC (s 111) f)) (nI (g + 1)) = some (nI d, s) := next
          unfold gX11_depth1_50
          rw [nI_1]
          split
          · rw [Nat.max_eq_left (by omega)] at next
            exact next
          · rw [Nat.max_eq_right (by omega)] at next
            exact next
        · rw [if_neg (fun q => c ((bt_nI hS (by omega)).mp q)), nI_1]
          rw [if_neg c] at next
          exact next
    show gX11_depth1 (gX11_depth fu) s (nI f) = _
    unfold gX11_depth1
    rw [q_calledBy hp hf, cl_some]
    exact loop 10 0 wt_N (by omega) (by unfold wt_N; omega)
/-- DEEP as an answer -/
def vdI (o : Option Nat) : Int32 := match o with
  | some d => nI d
  | none => -2
theorem q_deepOf {f : Nat} (hp : Ipr (s 111)) (hf : f < 10) : gX11_deepOf s (nI f) = some (vdI (vdp (s 111) 10 f), s) := by
  unfold gX11_deepOf
  obtain ⟨h1, h2⟩ := q_isEndlessOne hp hf
  cases e : vdp (s 111) 10 f with
  | none =>
    rw [h1 ((vdp_end hf).mp e), cl_some, if_neg (by decide)]
    rfl
  | some d =>
    rw [h2 (fun q => by rw [(vdp_end hf).mpr q] at e; cases e), cl_some, if_pos rfl, q_depth hp hf e (by omega) (by omega), cl_some]
    rfl
theorem q_isMerged {f z : Nat} (hp : Ipr (s 111)) (hf : f < 10) (hr : s 111 2051 = nI z) (hz : z ≤ 80) : gX11_isMerged s (nI f) = some (rb (vmg (s 111) f = true), s) := by
  unfold gX11_isMerged vmg
  by_cases c : s 111 2050 = 0
  · rw [if_neg (by simp [c]), rb_neg (by simp [c])]
  · rw [if_pos c, q_deepOf hp hf, cl_some]
    cases e : vdp (s 111) 10 f with
    | none =>
      rw [if_pos (show vdI none = -2 from rfl), rb_neg (by simp)]
    | some d =>
      have hd := (vdp_le hp hf e).2
      have hne : ¬ nI d = -2 := fun q => by
        have := congrArg Int32.toInt q
        rw [nI_int (by omega), show (-2 : Int32).toInt = -2 by decide] at this
        omega
      show (if nI d = -2 then _ else if (s 111 2051).toInt < (nI d).toInt then _ else _) = _
      rw [if_neg hne, hr, nI_int (by omega), nI_int (by omega)]
      by_cases c2 : d ≤ z
      · rw [if_neg (by omega), rb_pos]
        simp [c]
        omega
      · rw [if_pos (by omega), rb_neg]
        simp
        omega
theorem q_needOf {f z : Nat} (hp : Ipr (s 111)) (hf : f < 10) (hr : s 111 2051 = nI z) (hz : z ≤ 80) : gX11_needOf s (nI f) = some (nI (vnd (s 111) f), s) ∧ vwd (s 111) f ≤ vnd (s 111) f ∧ vnd (s 111) f ≤ 100 := by
  unfold gX11_needOf vnd
  rw [q_isMerged hp hf hr hz, cl_some, if_rb]
  have hw := (hp.wd hf)
  by_cases c : vmg (s 111) f = true
  · rw [if_pos c, if_pos c, q_deepOf hp hf, cl_some]
    cases e : vdp (s 111) 10 f with
    | none => unfold vmg at c; rw [e] at c; simp at c
    | some d =>
      have := vdp_le hp hf e
      exact ⟨rfl, this.1, by show d ≤ 100; omega⟩
  · rw [if_neg c, if_neg c, q_frameOf hf, cl_some, hw.1]
    exact ⟨rfl, Nat.le_refl _, by omega⟩
end
theorem RS.prog {s : wt_S} {V : vV} (h : RS s V) : vpe V.1 (s 111) := fun i hi => by
  rcases hi with hi | hi | hi
  · exact h.pr hi
  · exact h.se (by omega)
  · exact h.se (by omega)
section
variable {s : wt_S} {V : vV} {t : Nat}
theorem q_merged {f z : Nat} (h : RS s V) (hp : Ipr V.1) (hf : f < 10) (hr : V.1 2051 = nI z) (hz : z ≤ 80) : gX11_isMerged s (nI f) = some (rb (vmg V.1 f = true), s) := by
  rw [← (h.prog.mg hp hf).1]
  exact q_isMerged (hp.ww h.prog) hf (by rw [h.se (by omega)]; exact hr) hz
theorem q_need {f z : Nat} (h : RS s V) (hp : Ipr V.1) (hf : f < 10) (hr : V.1 2051 = nI z) (hz : z ≤ 80) : gX11_needOf s (nI f) = some (nI (vnd V.1 f), s) ∧ vwd V.1 f ≤ vnd V.1 f ∧ vnd V.1 f ≤ 100 := by
  have := q_needOf (hp.ww h.prog) hf (by rw [h.se (by omega)]; exact hr) hz
  rw [(h.prog.mg hp hf).2, (h.prog.sz hf).2.1] at this
  exact this
theorem vga_at {i : Nat} (hi : i < 3923) : (vga V t).1 i = V.1 i ∨ ¬ (V.1 (3989 + t) = -1 ∨ ∃ k, k < 3 ∧ V.1 (3989 + t) = nI k) := by
  by_cases hs : V.1 (3989 + t) = -1 ∨ ∃ k, k < 3 ∧ V.1 (3989 + t) = nI k
  · left
    rw [vga_1, mj_upd_ne (by omega), mj_upd_ne (by omega), mj_upd_ne (by omega), mj_upd_ne (by omega), mj_upd_ne (by omega), mj_upd_ne (by omega)]
    rcases hs with e | ⟨k, hk, e⟩
    · rw [if_pos e]
    · rw [if_neg (by rw [e]; exact nI_m1 (by omega)), mj_upd_ne (by omega)]
  · exact Or.inr hs
theorem q_out {lim k : Nat} (h : RS s V) (hj : VJ lim V) (hl : lim = 2048) (ht : t < 6) (hs : V.1 (3989 + t) = -1 ∨ ∃ k, k < 3 ∧ V.1 (3989 + t) = nI k) (hk : V.1 2067 = nI k) (hk2 : k < 2147483600) : ∃ s', gX11_isOut s (nI t) = some ((), s') ∧ RS s' (vot V t) ∧ RF s s' := by
  obtain ⟨s1, a1, a2, a3⟩ := q_ga hj hl h ht hs
  have b2 := a2.u (i := 3926 + t) (v := 4) (vtt (by omega) ht) (Or.inr (by omega))
  obtain ⟨c1, c2⟩ := q_cnt (c := 1) (v := 1) b2 (by omega)
  have hlog : (vcn (vs (vga V t) (3926 + t) 4) 1 1).1 2067 = nI k := by
    rw [vcn_ne (by omega), vs_ne (by omega), (vga_at (by omega)).resolve_right (fun q => q hs), hk]
  obtain ⟨s2, d1, d2, d3⟩ := q_log (a := 8) (b := nI t) (c := -1) (d := -1) c2 hlog (by omega)
  refine ⟨s2, ?_, d2, RF.trans a3 (RF.trans (RF.uf (Or.inl rfl)) (RF.trans (RF.uf (Or.inl rfl)) d3))⟩
  unfold gX11_isOut
  rw [a1, cl_some, li_add, ix_nI (by omega) (by omega), wr_eq, show gX11_counts (wt_u s1 111 (3926 + t) 4) 1 1 = _ from c1, cl_some, d1, cl_some]
/-- the spare -/
theorem VM.sp {lim : Nat} {mm : Nat → Int32} {P : vP → Bool} (hI : VJ lim V) (h : VM mm V) (hP : ∀ t', t' < 6 → ∀ i, i < V.2.2.1 t' → ∀ q ∈ V.2.1, vkey t' (V.2.2.2 t' i).2.1 q = true → P q = true) : VM mm (vps V (V.2.1.filter P)) :=
  h.ps hI (fun _ _ _ => rfl) (fun t' ht' => ⟨Nat.le_refl _, fun i hi => ⟨rfl, (vat_eq (vfind_filter (hP t' ht' i hi))).1⟩⟩)
/-- no frame lies in a piece of such a number -/
def vnof (V : vV) (t n : Nat) : Prop := ∀ i, i < V.2.2.1 t → (V.2.2.2 t i).2.1 ≠ n
theorem vnof_P {n : Nat} (h : vnof V t n) : ∀ t', t' < 6 → ∀ i, i < V.2.2.1 t' → ∀ q ∈ V.2.1, vkey t' (V.2.2.2 t' i).2.1 q = true → (!vkey t n q) = true := by
  intro t' _ i hi q _ hk
  have hk : q.2.2.1 = t' ∧ q.2.2.2 = (V.2.2.2 t' i).2.1 := by simpa [vkey] using hk
  simp only [vkey, Bool.not_eq_true', decide_eq_false_iff_not]
  rintro ⟨e1, e2⟩
  have : t' = t := hk.1.symm.trans e1
  subst this
  exact h i hi (hk.2.symm.trans e2)
theorem q_spare {lim k : Nat} (h : RS s V) (hj : VJ lim V) (hl : lim = 2048) (ht : t < 6) (hn : vnof V t 1000) (hk : V.1 2067 = nI k) (hk2 : k < 2147483600) : ∃ s', gX11_givesSpare s (nI t) = some (rb ((V.2.1.find? (vkey t 1000)).isSome = true), s') ∧ RS s' (vsp V t) ∧ RF s s' := by
  have hpo := q_pieceOf (t := t) (number := 1000) h.2.2.1 (by rw [← hl]; exact hj.2.1) ht (by omega)
  have hpo : gX11_pieceOf s (nI t) 1000 = _ := hpo
  unfold gX11_givesSpare
  rw [hpo, cl_some]
  cases e : vfi (vkey t 1000) V.2.1 0 with
  | none =>
    have hf := vfi_find.1.mp e
    refine ⟨s, ?_, ?_, RF.refl⟩
    · rw [oI_none, if_neg (by simp), rb_neg (by rw [hf]; simp)]
    · unfold vsp
      rw [if_neg (by rw [hf]; simp)]
      exact h
  | some x =>
    obtain ⟨-, h2, h3⟩ := vfi_find.2 x e
    rw [Nat.sub_zero] at h2 h3
    have hl256 := h.2.2.1.2.1
    have hsome : (V.2.1.find? (vkey t 1000)).isSome = true := by rw [h2, List.getElem?_eq_getElem h3]; rfl
    obtain ⟨q, hq⟩ : ∃ q, V.2.1[x]? = some q := ⟨_, List.getElem?_eq_getElem h3⟩
    obtain ⟨s1, a1, a2, a3⟩ := q_log (a := 5) (b := nI t) (c := s 111 (2899 + x)) (d := s 111 (3155 + x)) h hk (by omega)
    obtain ⟨w2, b1, b2, b3⟩ := q_gives (s := s1) (ps := V.2.1) (k0 := x) a2.2.2.1 h3
    have hfe := vfi_erase hj.2.2.1 e
    rw [Nat.sub_zero] at hfe
    rw [hfe] at b2
    refine ⟨wt_uf s1 111 w2, ?_, ?_, RF.trans a3 (RF.uf (Or.inl rfl))⟩
    · rw [oI_some, if_pos (nI_m1 (by omega)), li_add, ix_nI (by omega) (by omega), li_add, ix_nI (by omega) (by omega), a1, cl_some, b1, cl_some, rb_pos hsome]
    · unfold vsp
      rw [if_pos hsome]
      refine a2.uf (a2.2.ps b3 b2 (fun mm hm => ?_))
      exact VM.sp (V := vlg1 V) (hj.vs (by omega)) hm (vnof_P (V := V) hn)
end
