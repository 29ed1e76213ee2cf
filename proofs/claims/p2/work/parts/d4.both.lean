/-! ===== both sides, an operation at a time ===== -/
theorem CI.re {F : Nat} {z s s' : wt_S} (h : CI F z s) (he : ∀ c, c < 110 → s' c = s c) : CI F s' s' := by
  obtain ⟨h1, h2, h3, h4, h5, h6, h7⟩ := h
  refine ⟨fun c hc => ?_, fun q hq f hf => ?_, ?_, ?_, ?_, ?_, fun c hc => rfl⟩
  · obtain ⟨a1, a2, a3⟩ := h1 c hc
    have hc' : c = 11 ∨ c = 40 ∨ c = 81 := hc
    exact ⟨by rw [he _ (by omega)]; exact a1, by rw [he _ (by omega)]; exact a2, fun k hk => by rw [he _ (by omega)]; exact a3 k hk⟩
  · have hq' : q = 5 ∨ q = 76 := hq
    rw [he _ (by omega), he _ (by omega)]; exact h2 q hq f hf
  · rw [he _ (by omega)]; exact h3
  · rw [he _ (by omega)]; exact h4
  · rw [he _ (by omega)]; exact h5
  · rw [he _ (by omega)]; exact h6
/-- what holds at the law's loop -/
def LJ (F B : Nat) (s : wt_S) : Prop := CI F s s ∧ s 4 6 = s 110 4 ∧ ∃ V Vk, RQ B s V Vk ∧ NW B s V ∧ KI B s Vk
/-- one operation of both: the answers are E -/
def LO (F B : Nat) (s : wt_S) (x : Option (Int32 × wt_S)) (y : wt_S → Option (Int32 × wt_S)) (E : Int32 → Int32 → Prop) : Prop := ∃ r s1 r2 s2, x = some (r, s1) ∧ s1 0 = s 0 ∧ y s1 = some (r2, s2) ∧ E r r2 ∧ LJ F B s2
def TR (_ _ : Int32) : Prop := True
section
variable {F F' B B' : Nat} {s s' : wt_S} {V Vk : vV} {x : Option (Int32 × wt_S)} {y : wt_S → Option (Int32 × wt_S)} {E : Int32 → Int32 → Prop}
theorem LJ.mono (h : LJ F B s) (hF : F ≤ F') (hB : B ≤ B') : LJ F' B' s := by
  obtain ⟨h1, h2, V, Vk, h3, h4, h5⟩ := h
  exact ⟨h1.mono hF, h2, V, Vk, h3.mk2 h3.1 (h3.2.1.mono hB) hB (RH.of RF.refl), h4.mono hB, h5.keep hB (fun _ _ => rfl)⟩
theorem LO.mono (h : LO F B s x y E) (hF : F ≤ F') (hB : B ≤ B') : LO F' B' s x y E := by
  obtain ⟨r, s1, r2, s2, e1, e2, e3, e4, e5⟩ := h
  exact ⟨r, s1, r2, s2, e1, e2, e3, e4, e5.mono hF hB⟩
theorem NW.re1 (h : NW B s V) (hc : ∀ c, c < 110 → s' c = s c) : NW B s' V := by
  obtain ⟨⟨zs, fr, hR⟩, hI, hW, hK, hT⟩ := h
  exact ⟨⟨zs, fr, hR.eq cx11 (fun c _ _ _ _ hc' => hc c (by omega))⟩, hI, hW, fun j hj => by rw [hc 1 (by omega), hc 2 (by omega), hc 3 (by omega)]; exact hK j hj, fun k hk => by rw [hc _ (by omega)]; exact hT k hk⟩
theorem lo_mk (h : LJ F B s) (hB : B ≤ B') (hx : Ok (fun _ s' => CI F' s s') x) (hs : ∀ V, RS s V → VI 2048 B V → NW B s V → ∃ r s1 V', x = some (r, s1) ∧ NW B' s1 V' ∧ (∀ c, c = 75 ∨ (77 ≤ c ∧ c ≤ 109) → s1 c = s c) ∧ ∀ s1', RS s1' V → ∃ r2 s2, y s1' = some (r2, s2) ∧ E r r2 ∧ RS s2 V' ∧ RH s1' s2) : LO F' B' s x y E := by
  obtain ⟨h1, h2, V, Vk, h3, h4, h5⟩ := h
  obtain ⟨r, s1, V', a1, a2, a3, a4⟩ := hs V h3.1 h3.2.1 h4
  obtain ⟨r', s1', b1, b2⟩ := hx
  rw [a1] at b1
  cases b1
  have e : ∀ c, (c = 0 ∨ 110 ≤ c) ∨ c = 4 → s1 c = s c := b2.2.2.2.2.2.2
  have hRS : RS s1 V := ⟨by rw [e 110 (by omega)]; exact h3.1.1, by rw [e 111 (by omega)]; exact h3.1.2⟩
  have hQ : RQ B s1 V Vk := ⟨hRS, h3.2.1, by rw [e 110 (by omega), e 113 (by omega)]; exact h3.2.2⟩
  obtain ⟨r2, s2, c1, c2, c3, c4⟩ := a4 s1 hRS
  refine ⟨r, s1, r2, s2, a1, e 0 (by omega), c1, c2, b2.re c4.1, ?_, V', Vk, hQ.mk2 c3 a2.2.1 hB c4, a2.re1 c4.1, h5.keep hB (fun c hc => ?_)⟩
  · rw [c4.1 4 (by omega), c4.2.2, e 4 (by omega), e 110 (by omega)]
    exact h2
  · rw [c4.1 c (by omega)]
    rcases hc with hc | hc
    · exact e c (Or.inr hc)
    · exact a3 c hc
/-- a question that changes nothing -/
theorem lo_pure (h : LJ F B s) (hx : Ok (fun _ s' => s' = s ∧ True) x) (hy : ∀ V s1, RS s1 V → VI 2048 B V → Ok (fun _ s' => RO s1 s') (y s1)) : LO F B s x y TR := by
  obtain ⟨r, s', e, e1, -⟩ := hx
  subst e1
  refine lo_mk h (Nat.le_refl _) ⟨r, s', e, h.1⟩ (fun V hr hI hn => ⟨r, s', V, e, hn, fun _ _ => rfl, fun s1' h' => ?_⟩)
  obtain ⟨r2, s2, b1, b2⟩ := hy V s1' h' hI
  exact ⟨r2, s2, b1, trivial, h'.ro b2, RH.of b2.1⟩
/-- a question that walks or marks -/
theorem lo_walk (h : LJ F B s) (hx : Ok (fun _ s' => CI F s s') x) (hf : FP s x) (hy : ∀ V s1, RS s1 V → VI 2048 B V → Ok (fun _ s' => RO s1 s') (y s1)) : LO F B s x y TR := by
  refine lo_mk h (Nat.le_refl _) hx (fun V hr hI hn => ?_)
  obtain ⟨r, s', e, -⟩ := hx
  have hk : ∀ c, c ≠ 27 → c ≠ 71 → c ≠ 72 → s' c = s c := fun c c1 c2 c3 => hf r s' e c (fun q => by unfold KQ at q; omega)
  obtain ⟨⟨zs, fr, hR⟩, hI2, hW, hK, hT⟩ := hn
  refine ⟨r, s', V, e, ⟨⟨zs, fr, hR.eq cx11 (fun c _ _ _ c4 hc => hk c (by omega) (by omega) (by omega))⟩, hI2, hW, fun j hj => by rw [hk 1 (by omega) (by omega) (by omega), hk 2 (by omega) (by omega) (by omega), hk 3 (by omega) (by omega) (by omega)]; exact hK j hj, fun k hk' => by rw [hk _ (by omega) (by omega) (by omega)]; exact hT k hk'⟩, fun c hc => hk c (by omega) (by omega) (by omega), fun s1' h' => ?_⟩
  obtain ⟨r2, s2, b1, b2⟩ := hy V s1' h' hI
  exact ⟨r2, s2, b1, trivial, h'.ro b2, RH.of b2.1⟩
theorem lo_set {a b : Int32} (h : LJ F B s) (hF : F ≤ 1999990000) : LO F B s (gX10_set s a b) (fun s1 => gX11_set s1 a b) Eq :=
  lo_mk h (Nat.le_refl _) (ok_im (oX10_set (by omega) h.1) (fun _ _ e => e.1)) (fun V hr hI hn => by
    obtain ⟨s0, -, -, -, hI'⟩ := q_set (x := a) (v := b) hr hI
    obtain ⟨s1, a1, a2, a3⟩ := c_setop hn hI'
    refine ⟨_, s1, _, a1, a2, fun c hc => a3 c (by omega), fun s1' h' => ?_⟩
    obtain ⟨s2, b1, b2, b3, -⟩ := q_set (x := a) (v := b) h' hI
    exact ⟨_, s2, b1, rfl, b2, RH.of b3⟩)
theorem lo_function {a b c : Int32} (h : LJ F B s) (hF : F ≤ 1999990000) : LO F B s (gX10_function s a b c) (fun s1 => gX11_function s1 a b c) Eq :=
  lo_mk h (Nat.le_refl _) (ok_im (oX10_function (by omega) h.1) (fun _ _ e => e.1)) (fun V hr hI hn => by
    obtain ⟨s0, -, -, -, hI'⟩ := q_function (x := a) (z := b) (p := c) hr hI
    obtain ⟨s1, a1, a2, a3⟩ := c_functionop hn hI'
    refine ⟨_, s1, _, a1, a2, fun c hc => a3 c (by omega), fun s1' h' => ?_⟩
    obtain ⟨s2, b1, b2, b3, -⟩ := q_function (x := a) (z := b) (p := c) h' hI
    exact ⟨_, s2, b1, rfl, b2, RH.of b3⟩)
theorem lo_line {k a b c d : Int32} (h : LJ F B s) (hF : F ≤ 1999990000) : LO F B s (gX10_line s k a b c d) (fun s1 => gX11_line s1 k a b c d) Eq :=
  lo_mk h (Nat.le_refl _) (oX10_line (by omega) h.1) (fun V hr hI hn => by
    obtain ⟨s0, -, -, -, hI'⟩ := q_line (x := k) (kind := a) (a := b) (b := c) (c := d) hr hI
    obtain ⟨s1, a1, a2, a3⟩ := c_lineop hn hI'
    refine ⟨_, s1, _, a1, a2, fun c hc => a3 c (by omega), fun s1' h' => ?_⟩
    obtain ⟨s2, b1, b2, b3, -⟩ := q_line (x := k) (kind := a) (a := b) (b := c) (c := d) h' hI
    exact ⟨_, s2, b1, rfl, b2, RH.of b3⟩)
theorem lo_start {a b c d : Int32} (h : LJ F B s) (hF : F ≤ 1999990000) (hB : B ≤ 2147200000) : LO (F + 1) (B + 3) s (gX10_start s a b c d) (fun s1 => gX11_start s1 a b c d) Eq :=
  lo_mk h (Nat.le_add_right _ _) (ok_im (oX10_start (by omega) h.1) (fun _ _ e => e.1)) (fun V hr hI hn => by
    obtain ⟨s1, a1, a2, a3⟩ := c_startop (x := a) (f := b) (a := c) (mode := d) hn
    refine ⟨_, s1, _, a1, a2, fun c hc => a3 c (by omega), fun s1' h' => ?_⟩
    obtain ⟨s2, b1, b2, b3, -⟩ := q_start (x := a) (f := b) (a := c) (mode := d) h' hI (by omega)
    exact ⟨_, s2, b1, rfl, b2, RH.of b3⟩)
theorem lo_step {a b : Int32} (h : LJ F B s) (hF : F + 4401 ≤ 1999990000) (hB : B ≤ 2147200000) : LO (F + 4401) (B + 800) s (gX10_step s a b) (fun s1 => gX11_step s1 a b) Eq :=
  lo_mk h (Nat.le_add_right _ _) (oX10_step hF h.1) (fun V hr hI hn => by
    obtain ⟨s1, a1, a2, a3⟩ := c_stepop (x := a) (n := b) (Z := vZ) hn
    refine ⟨_, s1, _, a1, a2, fun c hc => a3 c (by omega), fun s1' h' => ?_⟩
    obtain ⟨s2, b1, b2, b3, -⟩ := q_step (x := a) (n := b) hd_all h' hI (by omega)
    exact ⟨_, s2, b1, rfl, b2, RH.of b3⟩)
theorem lo_round {a : Int32} (h : LJ F B s) (hF : F + 2401800 ≤ 1999990000) (hB : B ≤ 2147200000) : LO (F + 2401800) (B + 2400) s (gX10_round s a) (fun s1 => gX11_round s1 a) Eq :=
  lo_mk h (Nat.le_add_right _ _) (oX10_round hF h.1) (fun V hr hI hn => by
    obtain ⟨s1, a1, a2, a3⟩ := c_roundop (n := a) (Z := vZ) hn
    refine ⟨_, s1, _, a1, a2, fun c hc => a3 c (by omega), fun s1' h' => ?_⟩
    obtain ⟨s2, b1, b2, b3, -⟩ := q_round (n := a) hd_all h' hI (by omega)
    exact ⟨_, s2, b1, rfl, b2, RH.of b3⟩)
theorem lo_stop {a : Int32} (h : LJ F B s) (hF : F ≤ 1999990000) : LO F B s (gX10_stop s a) (fun s1 => gX11_stop s1 a) Eq :=
  lo_mk h (Nat.le_refl _) (ok_im (oX10_stop (by omega) h.1) (fun _ _ e => e.1)) (fun V hr hI hn => by
    obtain ⟨s1, a1, a2, a3⟩ := c_stopop (x := a) hn
    refine ⟨_, s1, _, a1, a2, fun c hc => a3 c (by omega), fun s1' h' => ?_⟩
    obtain ⟨s2, b1, b2, b3⟩ := q_stop (x := a) h' hI
    exact ⟨_, s2, b1, rfl, b2, RH.of b3⟩)
theorem lo_quiet {a : Int32} (h : LJ F B s) (hF : F ≤ 1999990000) (hB : B ≤ 2147200000) : LO F (B + 1) s (gX10_quiet s a) (fun s1 => gX11_quiet s1 a) Eq :=
  lo_mk h (Nat.le_add_right _ _) (ok_im (oX10_quiet (by omega) h.1) (fun _ _ e => e.1)) (fun V hr hI hn => by
    obtain ⟨s1, a1, a2, a3⟩ := c_quietop (x := a) hn
    refine ⟨_, s1, _, a1, a2, fun c hc => a3 c (by omega), fun s1' h' => ?_⟩
    obtain ⟨s2, b1, b2, b3, -⟩ := q_quiet (x := a) h' hI (by omega)
    exact ⟨_, s2, b1, rfl, b2, RH.of b3⟩)
theorem lo_join {a : Int32} (h : LJ F B s) (hF : F ≤ 1999990000) (hB : B ≤ 2147200000) : LO F (B + 1) s (gX10_join s a) (fun s1 => gX11_join s1 a) Eq :=
  lo_mk h (Nat.le_add_right _ _) (ok_im (oX10_join (by omega) h.1) (fun _ _ e => e.1)) (fun V hr hI hn => by
    obtain ⟨s1, a1, a2, a3⟩ := c_joinop (x := a) hn
    refine ⟨_, s1, _, a1, a2, fun c hc => a3 c (by omega), fun s1' h' => ?_⟩
    obtain ⟨s2, b1, b2, b3, -⟩ := q_join (x := a) h' hI (by omega)
    exact ⟨_, s2, b1, rfl, b2, RH.of b3⟩)
theorem lo_compact (h : LJ F B s) (hF : F ≤ 1999990000) (hB : B ≤ 2147200000) : LO F (B + 256) s (gX10_compact s) (fun s1 => gX11_compact s1) Eq :=
  lo_mk h (Nat.le_add_right _ _) (oX10_compact (by omega) h.1) (fun V hr hI hn => by
    obtain ⟨s1, a1, a2, a3⟩ := c_compactop hn
    refine ⟨_, s1, _, a1, a2, fun c hc => a3 c (by omega), fun s1' h' => ?_⟩
    obtain ⟨s2, b1, b2, b3⟩ := q_compact h' hI (by omega)
    exact ⟨_, s2, b1, rfl, b2, RH.of b3⟩)
theorem lo_deep {a : Int32} (h : LJ F B s) (hF : F ≤ 1999990000) : LO F B s (gX10_deep s a) (fun s1 => gX11_deep s1 a) TR := lo_pure h (oX10_deep (by omega) h.1) (fun V s1 a b => k_deep a b)
theorem lo_need {a : Int32} (h : LJ F B s) (hF : F ≤ 1999990000) : LO F B s (gX10_need s a) (fun s1 => gX11_need s1 a) TR := lo_pure h (oX10_need (by omega) h.1) (fun V s1 a b => k_need a b)
theorem lo_task {a b : Int32} (h : LJ F B s) (hF : F ≤ 1999990000) : LO F B s (gX10_task s a b) (fun s1 => gX11_task s1 a b) TR := lo_pure h (oX10_task (by omega) h.1) (fun V s1 a b => k_task a b)
theorem lo_piece {a b c : Int32} (h : LJ F B s) (hF : F ≤ 1999990000) : LO F B s (gX10_piece s a b c) (fun s1 => gX11_piece s1 a b c) TR := lo_pure h (oX10_piece (by omega) h.1) (fun V s1 a b => k_piece a b)
theorem lo_gap {a b : Int32} (h : LJ F B s) (hF : F ≤ 1999990000) : LO F B s (gX10_gap s a b) (fun s1 => gX11_gap s1 a b) TR := lo_pure h (oX10_gap (by omega) h.1) (fun V s1 g _ => by
  obtain ⟨v, e⟩ := k_gap (i := a) (what := b) g.2.2.1
  exact ⟨v, s1, e, RO.refl⟩)
theorem lo_log {a b : Int32} (h : LJ F B s) (hB : B ≤ 2147200000) : LO F B s (gX10_log s a b) (fun s1 => gX11_log s1 a b) TR := lo_pure h (oX10_log h.1) (fun V s1 a b => k_log a b (by omega))
theorem lo_count {a : Int32} (h : LJ F B s) (hF : F ≤ 1999990000) : LO F B s (gX10_count s a) (fun s1 => gX11_count s1 a) TR := lo_pure h (oX10_count (by omega) h.1) (fun V s1 a b => k_count)
theorem lo_look {a : Int32} (h : LJ F B s) (hF : F ≤ 1999990000) : LO F B s (gX10_look s a) (fun s1 => gX11_look s1 a) TR := lo_pure h (oX10_look (by omega) h.1) (fun V s1 a b => k_look a)
theorem lo_frame {a b c : Int32} (h : LJ F B s) (hF : F ≤ 1999990000) : LO F B s (gX10_frame s a b c) (fun s1 => gX11_frame s1 a b c) TR := lo_walk h (oX10_frame (by omega) h.1) (fX10_frame FR.refl) (fun V s1 a b => k_frame a b)
theorem lo_slot {a b c d : Int32} (h : LJ F B s) (hF : F ≤ 1999990000) : LO F B s (gX10_slot s a b c d) (fun s1 => gX11_slot s1 a b c d) TR := lo_walk h (oX10_slot (by omega) h.1) (fX10_slot FR.refl) (fun V s1 a b => k_slot a b)
theorem lo_never {a : Int32} (h : LJ F B s) (hF : F ≤ 1999990000) : LO F B s (gX10_never s a) (fun s1 => gX11_never s1 a) TR := lo_walk h (oX10_never (by omega) h.1) (fX10_never FR.refl) (fun V s1 a b => k_never a b)
theorem lo_endless {a b c : Int32} (h : LJ F B s) (hF : F + 4001 ≤ 1999990000) : LO (F + 4001) B s (gX10_endless s a b c) (fun s1 => gX11_endless s1 a b c) TR :=
  lo_mk h (Nat.le_refl _) (oX10_endless hF h.1) (fun V hr hI hn => by
    obtain ⟨s1, a1, a2, a3⟩ := c_endlessop (f := a) (a := b) (what := c) (Z := vZ) hn
    refine ⟨_, s1, _, a1, a2, fun c hc => a3 c (by omega), fun s1' h' => ?_⟩
    obtain ⟨r2, s2, b1, b2, b3⟩ := k_endless (f := a) (a := b) (what := c) h' hI
    exact ⟨r2, s2, b1, trivial, b2, RH.of b3⟩)
theorem lo_land {a b c : Int32} (h : LJ F B s) (hF : F + 400 ≤ 1999990000) (hB : B ≤ 2147200000) : LO (F + 400) B s (gX10_land s a b c) (fun s1 => gX11_land s1 a b c) TR :=
  lo_mk h (Nat.le_refl _) (oX10_land hF h.1) (fun V hr hI hn => by
    obtain ⟨s1, a1, a2, a3⟩ := c_landop (x := a) (n := b) (what := c) (Z := vZ) hn
    refine ⟨_, s1, _, a1, a2, fun c hc => a3 c (by omega), fun s1' h' => ?_⟩
    obtain ⟨r2, s2, b1, b2, b3⟩ := k_land (x := a) (n := b) (what := c) h' hI (by omega)
    exact ⟨r2, s2, b1, trivial, b2, b3⟩)
theorem lo_alone {a b c d : Int32} (h : LJ F B s) (hF : F + 4001 ≤ 1999990000) (hB : B ≤ 2147200000) : LO (F + 4001) B s (gX10_alone s a b c d) (fun s1 => gX11_alone s1 a b c d) TR :=
  lo_mk h (Nat.le_refl _) (oX10_alone hF h.1) (fun V hr hI hn => by
    obtain ⟨r, s1, a1, -⟩ := oX10_alone (i1 := a) (i2 := b) (i3 := c) (i4 := d) hF h.1
    obtain ⟨a2, a3⟩ := c_aloneop hn a1
    refine ⟨_, s1, _, a1, a2, fun c hc => a3 c (by omega), fun s1' h' => ?_⟩
    obtain ⟨r2, s2, b1, b2, b3⟩ := k_alone (f := a) (a := b) (mode := c) (what := d) h' hI (by omega)
    exact ⟨r2, s2, b1, trivial, b2, b3⟩)
/-- the reference's image: what it then is -/
theorem k_image2 {a : Int32} (h : RQ B s V Vk) : ∃ s', gX11_image s a = some ((if a ≠ 0 then 1 else s 110 4), s') ∧ RQ B s' (if a ≠ 0 then V else if s 110 4 = 0 then V else Vk) (if a ≠ 0 then V else Vk) ∧ s' 110 4 = (if a ≠ 0 then 1 else s 110 4) ∧ ∀ c, c < 110 → s' c = s c := by
  obtain ⟨h1, h2, h3⟩ := h
  unfold gX11_image gX11_image_13 gX11_image_42
  by_cases cx : a ≠ 0
  · obtain ⟨g, e1, e2⟩ := q_copies (r1 := 111) (r2 := 113) (by omega) (s := s)
    rw [if_pos cx, if_neg cx, e1, cl_some, wr_eq, if_pos cx, if_pos cx, if_pos cx]
    refine ⟨_, rfl, ⟨⟨?_, ?_⟩, h2, Or.inr ⟨wt_u_self, ?_, h2⟩⟩, wt_u_self, fun c hc => by rw [wt_u_ne (by omega), wt_uf_ne (by omega)]⟩
    · rw [wt_u_nk (by omega), wt_uf_ne (by omega)]; exact h1.1
    · rw [wt_u_ne (by omega), wt_uf_ne (by omega)]; exact h1.2
    · rw [wt_u_ne (by omega), wt_uf_at]
      exact h1.2.eq e2
  · have cx0 : a = 0 := by simpa using cx
    have hr : (if a ≠ 0 then (1 : Int32) else s 110 4) = s 110 4 := if_neg cx
    rw [hr, if_neg cx, if_neg cx, if_neg cx]
    rcases h3 with e | ⟨e, k1, k2⟩
    · rw [if_neg (by rw [e]; simp), if_pos e, e]
      exact ⟨s, rfl, ⟨h1, h2, Or.inl e⟩, e, fun _ _ => rfl⟩
    · obtain ⟨g, e1, e2⟩ := q_copies (r1 := 113) (r2 := 111) (by omega) (s := s)
      rw [if_pos (by rw [e]; decide), if_pos cx0, e1, cl_some, wr_eq, if_neg (by rw [e]; decide), e]
      refine ⟨_, rfl, ⟨⟨?_, ?_⟩, k2, Or.inr ⟨wt_u_self, ?_, k2⟩⟩, wt_u_self, fun c hc => by rw [wt_u_ne (by omega), wt_uf_ne (by omega)]⟩
      · rw [wt_u_nk (by omega), wt_uf_ne (by omega)]; exact h1.1
      · rw [wt_u_ne (by omega), wt_uf_at]; exact k1.eq e2
      · rw [wt_u_ne (by omega), wt_uf_ne (by omega)]; exact k1
theorem lo_image {a : Int32} (h : LJ F B s) : LO F B s (gX10_image s a) (fun s1 => gX11_image s1 a) Eq := by
  obtain ⟨h1, h2, V, Vk, h3, h4, h5⟩ := h
  have hz : s 4 6 = 0 ∨ s 4 6 = 1 := by
    rw [h2]
    rcases h3.2.2 with e | e
    · exact Or.inl e
    · exact Or.inr e.1
  obtain ⟨r, s1, b1, b2, -⟩ := oX10_image (i1 := a) h1 hz
  obtain ⟨s1', a1, a2, a3, a4, a5⟩ := c_imageop (x := a) h4 h5
  rw [a1] at b1
  cases b1
  have hQ : RQ B s1 V Vk := ⟨⟨by rw [a5 110 (by omega)]; exact h3.1.1, by rw [a5 111 (by omega)]; exact h3.1.2⟩, h3.2.1, by rw [a5 110 (by omega), a5 113 (by omega)]; exact h3.2.2⟩
  obtain ⟨s2, c1, c2, c3, c4⟩ := k_image2 (a := a) hQ
  have e110 : s1 110 4 = s 4 6 := by rw [a5 110 (by omega)]; exact h2.symm
  rw [e110] at c1 c2 c3
  refine ⟨_, s1, _, s2, a1, a5 0 (Or.inr rfl), c1, rfl, b2.re c4, ?_, _, _, c2, a2.re1 c4, a3.keep (Nat.le_refl _) (fun c hc => c4 c (by omega))⟩
  rw [c4 4 (by omega), c3, a4]
end
