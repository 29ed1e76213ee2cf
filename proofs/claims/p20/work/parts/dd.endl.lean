section
/-! ===== endless: the class's picture against the reference's small machine ===== -/
/-- the same frame, but for COVERED -/
def EF (F G : vF) : Prop := F.1 = G.1 ∧ F.2.2.2.1 % 1024 = G.2.2.2.1 % 1024 ∧ (2048 ≤ F.2.2.2.1 ↔ 2048 ≤ G.2.2.2.1) ∧ F.2.2.2.1 / 1024 % 2 = 0 ∧ F.2.2.2.2 = G.2.2.2.2
/-- the picture is the small machine's state -/
def EW (w : Nat → Int32) (V : vV) (S : eS) : Prop := V.2.2.1 0 = S.1 ∧ (∀ i, i < S.1 → EF (V.2.2.2 0 i) (S.2.1 i)) ∧ V.1 3926 = 1 ∧ V.1 3933 = 0 ∧ (V.1 3968 = nI S.2.2.1 ∧ S.2.2.1 ≤ 16) ∧ V.1 3947 = nI S.2.2.2.2 ∧ (V.1 4045 = nI S.2.2.2.1 ∧ S.2.2.2.1 ≤ 10000) ∧ (∀ i, 2228 ≤ i → i < 2898 → V.1 i = w i) ∧ V.1 2048 = nI 10000 ∧ V.1 2050 = 0 ∧ V.1 2052 = 1 ∧ V.1 2053 = nI 1000000 ∧ V.2.1 = [(0, 10000, 0, 0)] ∧ ∀ k, 1 ≤ k → k < 6 → V.1 (3926 + k) = 0
/-- how the frames lie -/
def EG (w : Nat → Int32) (V : vV) (S : eS) : Prop := (∀ i, i < S.1 → (V.2.2.2 0 i).2.1 = 0 ∧ (V.2.2.2 0 i).2.2.1 = vus w S.2.1 i) ∧ V.1 3961 = nI (vus w S.2.1 S.1) ∧ V.1 4066 = nI 1 ∧ vus w S.2.1 S.1 ≤ 10000 ∧ ∀ i, i < S.1 → (S.2.1 i).1 < 10
section
variable {w : Nat → Int32} {V V' : vV} {S : eS} {B i k l f bk : Nat} {v a : Int32} {q : Option (Nat × Nat)} {Z : (Nat → Int32) → Int32 → Int32 → Int32 → Bool}
theorem geo_vus {ps : List vP} {t n : Nat} {fr : Nat → vF} (h : Geo w ps t 1 n fr) : ∀ i, i < n → (fr i).2.1 = 0 ∧ (fr i).2.2.1 = vus w fr i := by
  intro i
  induction i with
  | zero =>
    intro hi
    have := (h.1 0 hi).1
    exact ⟨by omega, h.2.1.1⟩
  | succ i ih =>
    intro hi
    obtain ⟨a1, a2⟩ := ih (by omega)
    have h1 := (h.1 (i + 1) hi).1
    rcases h.2.2 i hi with ⟨e1, e2⟩ | ⟨e1, e2⟩
    · exact ⟨by omega, by rw [e2, a2]; rfl⟩
    · omega
theorem vus_two {w w' : Nat → Int32} {fr fr' : Nat → vF} : ∀ {n : Nat}, (∀ i, i < n → (fr' i).1 = (fr i).1 ∧ (fr i).1 < 10) → (∀ f, f < 10 → w' (2228 + f) = w (2228 + f)) → vus w' fr' n = vus w fr n := by
  intro n
  induction n with
  | zero => intro _ _; rfl
  | succ n ih =>
    intro h1 h2
    show vus w' fr' n + vwd w' (fr' n).1 = vus w fr n + vwd w (fr n).1
    obtain ⟨a1, a2⟩ := h1 n (Nat.lt_succ_self n)
    rw [ih (fun i hi => h1 i (Nat.lt_succ_of_lt hi)) h2, a1]
    unfold vwd vsz
    rw [h2 _ a2]
theorem vud_0a {fr : Nat → vF} : ∀ {n : Nat}, (∀ i, i < n → (fr i).2.1 = 0) → vud w fr 0 n = vus w fr n := by
  intro n
  induction n with
  | zero => intro _; rfl
  | succ n ih =>
    intro h
    show vud w fr 0 n + (if (fr n).2.1 = 0 then vwd w (fr n).1 else 0) = vus w fr n + vwd w (fr n).1
    rw [ih (fun i hi => h i (by omega)), if_pos (h n (by omega))]
/-- a scalar that is none of those -/
theorem EW.s {j : Nat} (h : EW w V S) (hj : (2054 ≤ j ∧ j < 2228) ∨ (2898 ≤ j ∧ j ≠ 3926 ∧ j ≠ 3927 ∧ j ≠ 3928 ∧ j ≠ 3929 ∧ j ≠ 3930 ∧ j ≠ 3931 ∧ j ≠ 3933 ∧ j ≠ 3968 ∧ j ≠ 3947 ∧ j ≠ 4045)) : EW w (vs V j v) S := by
  obtain ⟨a1, a2, a3, a4, a5, a6, a7, a8, a9, b1, b2, b3, b4, b5⟩ := h
  refine ⟨a1, a2, ?_, ?_, ⟨?_, a5.2⟩, ?_, ⟨?_, a7.2⟩, fun i i1 i2 => ?_, ?_, ?_, ?_, ?_, b4, fun k k1 k2 => ?_⟩
  · rw [vs_ne (by omega)]; exact a3
  · rw [vs_ne (by omega)]; exact a4
  · rw [vs_ne (by omega)]; exact a5.1
  · rw [vs_ne (by omega)]; exact a6
  · rw [vs_ne (by omega)]; exact a7.1
  · rw [vs_ne (by omega)]; exact a8 i i1 i2
  · rw [vs_ne (by omega)]; exact a9
  · rw [vs_ne (by omega)]; exact b1
  · rw [vs_ne (by omega)]; exact b2
  · rw [vs_ne (by omega)]; exact b3
  · rw [vs_ne (by omega)]; exact b5 k k1 k2
theorem EG.s {j : Nat} (h : EG w V S) (hj : j ≠ 3961 ∧ j ≠ 4066) : EG w (vs V j v) S := ⟨h.1, by rw [vs_ne (by omega)]; exact h.2.1, by rw [vs_ne (by omega)]; exact h.2.2.1, h.2.2.2⟩
theorem EW.li (h : EW w V S) (hl : l ≤ 16) : EW w (vs V 3968 (nI l)) (eli S l) := by
  obtain ⟨a1, a2, a3, a4, a5, a6, a7, a8, a9, b1, b2, b3, b4, b5⟩ := h
  refine ⟨a1, a2, ?_, ?_, ⟨vs_at, hl⟩, ?_, ⟨?_, a7.2⟩, fun i i1 i2 => ?_, ?_, ?_, ?_, ?_, b4, fun k k1 k2 => ?_⟩
  · rw [vs_ne (by omega)]; exact a3
  · rw [vs_ne (by omega)]; exact a4
  · rw [vs_ne (by omega)]; exact a6
  · rw [vs_ne (by omega)]; exact a7.1
  · rw [vs_ne (by omega)]; exact a8 i i1 i2
  · rw [vs_ne (by omega)]; exact a9
  · rw [vs_ne (by omega)]; exact b1
  · rw [vs_ne (by omega)]; exact b2
  · rw [vs_ne (by omega)]; exact b3
  · rw [vs_ne (by omega)]; exact b5 k k1 k2
theorem EG.li (h : EG w V S) : EG w (vs V 3968 v) (eli S l) := ⟨h.1, by rw [vs_ne (by omega)]; exact h.2.1, by rw [vs_ne (by omega)]; exact h.2.2.1, h.2.2.2⟩
theorem EW.st {m : Nat} (h : EW w V S) (hm : m = S.2.2.2.2 + 1) : EW w (vcn (vinc V 3947) 2 1) (S.1, S.2.1, S.2.2.1, S.2.2.2.1, m) := by
  refine EW.s ?_ (Or.inl (by omega))
  obtain ⟨a1, a2, a3, a4, a5, a6, a7, a8, a9, b1, b2, b3, b4, b5⟩ := h
  unfold vinc
  refine ⟨a1, a2, ?_, ?_, ⟨?_, a5.2⟩, ?_, ⟨?_, a7.2⟩, fun i i1 i2 => ?_, ?_, ?_, ?_, ?_, b4, fun k k1 k2 => ?_⟩
  · rw [vs_ne (by omega)]; exact a3
  · rw [vs_ne (by omega)]; exact a4
  · rw [vs_ne (by omega)]; exact a5.1
  · rw [vs_at, a6, hm]; exact nI_add _ 1
  · rw [vs_ne (by omega)]; exact a7.1
  · rw [vs_ne (by omega)]; exact a8 i i1 i2
  · rw [vs_ne (by omega)]; exact a9
  · rw [vs_ne (by omega)]; exact b1
  · rw [vs_ne (by omega)]; exact b2
  · rw [vs_ne (by omega)]; exact b3
  · rw [vs_ne (by omega)]; exact b5 k k1 k2
theorem EW.nu (h : EW w V S) : EW w (vnu V 0 i k v) (enu S i k v) := by
  obtain ⟨a1, a2, a3⟩ := h
  refine ⟨a1, fun j hj => ?_, a3⟩
  have := a2 j hj
  unfold vnu
  show EF ((vfr V 0 i _).2.2.2 0 j) (mj_upd S.2.1 i (eNu (S.2.1 i) k v) j)
  by_cases e : j = i
  · subst e
    rw [vfr_at, mj_upd_self]
    obtain ⟨c1, c2, c3, c4, c5⟩ := this
    refine ⟨c1, c2, c3, c4, ?_⟩
    show (mj_upd (V.2.2.2 0 j).2.2.2.2.1 k v, (V.2.2.2 0 j).2.2.2.2.2) = (mj_upd (S.2.1 j).2.2.2.2.1 k v, (S.2.1 j).2.2.2.2.2)
    rw [c5]
  · rw [vfr_ne (fun q => e q.2), mj_upd_ne e]
    exact this
theorem EW.po (h : EW w V S) : EW w (vpo V 0 i k q) (epo S i k q) := by
  obtain ⟨a1, a2, a3⟩ := h
  refine ⟨a1, fun j hj => ?_, a3⟩
  have := a2 j hj
  unfold vpo
  show EF ((vfr V 0 i _).2.2.2 0 j) (mj_upd S.2.1 i (ePo (S.2.1 i) k q) j)
  by_cases e : j = i
  · subst e
    rw [vfr_at, mj_upd_self]
    obtain ⟨c1, c2, c3, c4, c5⟩ := this
    refine ⟨c1, c2, c3, c4, ?_⟩
    show ((V.2.2.2 0 j).2.2.2.2.1, mj_upd (V.2.2.2 0 j).2.2.2.2.2 k q) = ((S.2.1 j).2.2.2.2.1, mj_upd (S.2.1 j).2.2.2.2.2 k q)
    rw [c5]
  · rw [vfr_ne (fun q => e q.2), mj_upd_ne e]
    exact this
theorem EW.lf (h : EW w V S) (hn : 0 < S.1) : EF (vlf V 0) (elf S) := by
  unfold vlf elf
  rw [h.1]
  exact h.2.1 _ (by omega)
theorem EF.nm {F G : vF} (h : EF F G) {x : Int32} : vnm F x = vnm G x := by
  unfold vnm
  rw [h.2.2.2.2]
theorem EF.ha {F G : vF} (h : EF F G) (hp : ∀ i, 2228 ≤ i → i < 2898 → V.1 i = w i) (hf : f < 10) (hF : F.1 < 10) : vha V.1 f F k = vha w f G k := by
  unfold vha
  rw [hp (2238 + F.1) (by omega) (by omega), hp (2238 + f) (by omega) (by omega), h.1, h.2.2.2.2]
/-- what a call does -/
theorem ew_call {h2 : Int32 × Option (Nat × Nat)} (h : EW w V S) (hg : EG w V S) (hp : Ipr w) (hf : f < 10) (hb : bk < 1024 ∨ (2048 ≤ bk ∧ bk < 3072)) : (vus w S.2.1 S.1 + vwd w f ≤ 10000 → EW w (vcl 10000 V 0 f bk h2) (epu w S f bk h2)) ∧ (10000 < vus w S.2.1 S.1 + vwd w f → (vcl 10000 V 0 f bk h2).1 3926 = 4) := by
  obtain ⟨a1, a2, a3, a4, a5, a6, a7, a8, a9, b1, b2, b3, b4, b5⟩ := id h
  obtain ⟨g1, g2, g3, g4, g5⟩ := hg
  have hwd := (hp.wd hf).2
  have hlc : vlc V 0 = false := by
    unfold vlc
    rw [a1]
    by_cases e : 0 < S.1
    · have := (a2 (S.1 - 1) (by omega)).2.2.2.1
      rw [this]
      simp
    · simp [e]
  have hmg : ∀ {w' : Nat → Int32}, w' 2050 = 0 → vmg w' f = false := fun {w'} e => by
    unfold vmg
    rw [e]
    simp
  have hwdV : vwd V.1 f = vwd w f := by
    unfold vwd vsz
    rw [a8 _ (by omega) (by omega)]
  have hnd : vnd V.1 f = vwd w f := by
    unfold vnd
    rw [hmg b1, hwdV]
    rfl
  have hnp : vnp V 0 = 1 := by
    unfold vnp
    rw [g3]
    rfl
  have hat : vat V.2.1 0 0 = 0 := by rw [b4]; rfl
  have hln : vln V.2.1 0 0 = 10000 := by rw [b4]; rfl
  have hend : vend V 0 = 10000 := by
    unfold vend
    rw [hnp, hat, hln]
  have htop : vtop V 0 = vus w S.2.1 S.1 := by
    unfold vtop
    rw [a1]
    by_cases e : S.1 = 0
    · rw [if_pos e, hat, e]; rfl
    · obtain ⟨m, hm⟩ : ∃ m, S.1 = m + 1 := ⟨S.1 - 1, by omega⟩
      obtain ⟨c1, c2⟩ := g1 m (by omega)
      have hF := (a2 m (by omega)).1
      have hG := g5 m (by omega)
      rw [if_neg e, hm, Nat.add_sub_cancel]
      unfold vpl
      rw [c1, hat, c2, hF]
      show 0 + vus w S.2.1 m + vwd V.1 (S.2.1 m).1 = vus w S.2.1 m + vwd w (S.2.1 m).1
      have : vwd V.1 (S.2.1 m).1 = vwd w (S.2.1 m).1 := by
        unfold vwd vsz
        rw [a8 _ (by omega) (by omega)]
      rw [this, Nat.zero_add]
  unfold vcl vrm
  rw [hlc, if_neg (by simp), htop, hend, hnd, hmg b1]
  refine ⟨fun c => ?_, fun c => ?_⟩
  · rw [if_pos c]
    show EW w (vpu (vcn (vinc V 4003) 3 1) 0 f (bk + (if false = true then 1024 else 0)) h2.1 h2.2) (epu w S f bk h2)
    rw [if_neg (by simp), Nat.add_zero]
    have hU : EW w (vcn (vinc V 4003) 3 1) S := (h.s (Or.inr (by omega))).s (Or.inl (by omega))
    have hUg : EG w (vcn (vinc V 4003) 3 1) S := (EG.s ⟨g1, g2, g3, g4, g5⟩ (by omega)).s (by omega)
    generalize vcn (vinc V 4003) 3 1 = U at hU hUg
    obtain ⟨a1, a2, a3, a4, a5, a6, a7, a8, a9, b1, b2, b3, b4, b5⟩ := hU
    obtain ⟨g1, g2, g3, g4, g5⟩ := hUg
    have e2 := vpu_2 (V := U) (t := 0) (f := f) (bk := bk) (a := h2.1) (q := h2.2)
    obtain ⟨e1, -, -, e68, -⟩ := vpu_w (V := U) (t := 0) (f := f) (bk := bk) (a := h2.1) (q := h2.2)
    have em := vpu_m (V := U) (t := 0) (f := f) (bk := bk) (a := h2.1) (q := h2.2)
    have hzw : U.1 3961 + (U.1 (2228 + f) + 2) = nI (vus w S.2.1 S.1 + vwd w f) := by
      rw [g2, a8 _ (by omega) (by omega), (hp.sz hf).1, show nI (vsz w f) + 2 = nI (vsz w f + 2) from nI_add _ 2, nI_add]
      rfl
    refine ⟨?_, fun j hj => ?_, ?_, ?_, ⟨?_, Nat.zero_le _⟩, ?_, ⟨?_, ?_⟩, fun i i1 i2 => ?_, ?_, ?_, ?_, ?_, ?_, fun k k1 k2 => ?_⟩
    · rw [e2]
      show mj_upd U.2.2.1 0 (U.2.2.1 0 + 1) 0 = S.1 + 1
      rw [mj_upd_self, a1]
    · rw [e2]
      have hj : j < S.1 + 1 := hj
      show EF ((vfr U 0 (U.2.2.1 0) (vfn U 0 f bk h2.1 h2.2)).2.2.2 0 j) (mj_upd S.2.1 S.1 (eFr f (ebk w S f bk) h2) j)
      rw [a1]
      by_cases e : j = S.1
      · subst e
        rw [vfr_at, mj_upd_self]
        refine ⟨rfl, ?_, ?_, ?_, rfl⟩
        · show bk % 1024 = ebk w S f bk % 1024
          unfold ebk
          split <;> omega
        · show 2048 ≤ bk ↔ 2048 ≤ ebk w S f bk
          unfold ebk
          split <;> omega
        · show bk / 1024 % 2 = 0
          omega
      · rw [vfr_ne (fun q => e q.2), mj_upd_ne e]
        exact a2 j (by omega)
    · rw [e1 _ (by omega) (by omega) (by omega) (by omega) (by omega) (by omega)]; exact a3
    · rw [e1 _ (by omega) (by omega) (by omega) (by omega) (by omega) (by omega)]; exact a4
    · exact e68
    · rw [e1 _ (by omega) (by omega) (by omega) (by omega) (by omega) (by omega)]; exact a6
    · have em : (vpu U 0 f bk h2.1 h2.2).1 4045 = if (U.1 3961 + (U.1 (2228 + f) + 2)).toInt ≤ (U.1 4045).toInt then U.1 4045 else U.1 3961 + (U.1 (2228 + f) + 2) := em
      rw [em, hzw, a7.1, nI_int (by omega), nI_int (by have := a7.2; omega)]
      show _ = nI (max S.2.2.2.1 (vus w S.2.1 S.1 + vwd w f))
      by_cases e : vus w S.2.1 S.1 + vwd w f ≤ S.2.2.2.1
      · rw [if_pos (by omega), Nat.max_eq_left e]
      · rw [if_neg (by omega), Nat.max_eq_right (by omega)]
    · show max S.2.2.2.1 (vus w S.2.1 S.1 + vwd w f) ≤ 10000
      have := a7.2
      omega
    · rw [e1 _ (by omega) (by omega) (by omega) (by omega) (by omega) (by omega)]; exact a8 i i1 i2
    · rw [e1 _ (by omega) (by omega) (by omega) (by omega) (by omega) (by omega)]; exact a9
    · rw [e1 _ (by omega) (by omega) (by omega) (by omega) (by omega) (by omega)]; exact b1
    · rw [e1 _ (by omega) (by omega) (by omega) (by omega) (by omega) (by omega)]; exact b2
    · rw [e1 _ (by omega) (by omega) (by omega) (by omega) (by omega) (by omega)]; exact b3
    · rw [e2]; exact b4
    · rw [e1 _ (by omega) (by omega) (by omega) (by omega) (by omega) (by omega)]; exact b5 k k1 k2
  · rw [if_neg (by omega)]
    have hU4 : (vcn (vinc V 4003) 3 1).1 3933 = 0 := by
      rw [show vcn (vinc V 4003) 3 1 = vs (vinc V 4003) 2057 ((vinc V 4003).1 2057 + 1) from rfl, vs_ne (by omega)]
      unfold vinc
      rw [vs_ne (by omega)]
      exact a4
    have hps : (vcn (vinc V 4003) 3 1).2.1 = [(0, 10000, 0, 0)] := b4
    generalize hU : vcn (vinc V 4003) 3 1 = U at hU4 hps
    have hw : 20000 ≤ vdbl (vuse U 0 + vwd w f) 16 (2 * vln U.2.1 0 0) := by
      have hl : vln U.2.1 0 0 = 10000 := by rw [hps]; rfl
      rw [hl]
      have : ∀ (m n : Nat), n ≤ vdbl (vuse U 0 + vwd w f) m n := by
        intro m
        induction m with
        | zero => intro n; exact Nat.le_refl _
        | succ m ih =>
          intro n
          show n ≤ if n < vuse U 0 + vwd w f then vdbl (vuse U 0 + vwd w f) m (n * 2) else n
          by_cases e : n < vuse U 0 + vwd w f
          · rw [if_pos e]
            exact Nat.le_trans (by omega) (ih (n * 2))
          · rw [if_neg e]
            exact Nat.le_refl _
      exact this 16 (2 * 10000)
    have hgap : vgap 10000 0 U.2.1 (vdbl (vuse U 0 + vwd w f) 16 (2 * vln U.2.1 0 0)) = none := by
      generalize vdbl (vuse U 0 + vwd w f) 16 (2 * vln U.2.1 0 0) = W at hw
      rw [hps]
      show (if 0 + W ≤ 0 then some 0 else if 0 + 10000 + W ≤ 10000 then some (0 + 10000) else none) = none
      rw [if_neg (by omega), if_neg (by omega)]
    show (match (match vgr 10000 U 0 (vwd w f) with
      | (true, V2) => (true, V2)
      | (false, V2) => (false, vot V2 0)) with
      | (true, V1) => vpu V1 0 f (bk + (if false = true then 1024 else 0)) h2.1 h2.2
      | (false, V1) => V1).1 3926 = 4
    rw [vgr_c0 (t := 0) hU4 hgap]
    show (vot U 0).1 3926 = 4
    unfold vot vlg1
    rw [vs_ne (by omega)]
    show (vs (vs (vga U 0) (3926 + 0) 4) 2055 _).1 3926 = 4
    rw [vs_ne (by omega), vs_at]
end
end
section
/-! ===== endless: returns, foreign calls, a step, the run ===== -/
section
variable {w : Nat → Int32} {V V' : vV} {S : eS} {B i k l f bk : Nat} {v a : Int32} {Z : (Nat → Int32) → Int32 → Int32 → Int32 → Bool}
theorem vga_k {i : Nat} (hs : (V.1 3989).toInt.toNat < 3) (hi : ¬ (3923 ≤ i ∧ i < 3926) ∧ i ≠ 3989 ∧ i ≠ 3996 ∧ i ≠ 4066 ∧ i ≠ 3954 ∧ i ≠ 3961 ∧ i ≠ 3975) : (vga V 0).1 i = V.1 i := by
  rw [vga_1, mj_upd_ne (by omega), mj_upd_ne (by omega), mj_upd_ne (by omega), mj_upd_ne (by omega), mj_upd_ne (by omega), mj_upd_ne (by omega)]
  have hs' : (V.1 (3989 + 0)).toInt.toNat < 3 := hs
  by_cases c : V.1 (3989 + 0) = -1
  · rw [if_pos c]
  · rw [if_neg c, mj_upd_ne (by omega)]
/-- sides change only -/
theorem EW.fv {words : Int32} (h : EW w V S) (hs : (V.1 3989).toInt.toNat < 3) : EW w (vfv V 0 words) S := by
  have h1 : EW w (vs (vcn V 9 1) (3996 + 0) (V.1 (3996 + 0) - words)) S := (h.s (Or.inl (by omega))).s (Or.inr (by omega))
  by_cases c : 0 < (V.1 (3996 + 0) - words).toInt
  · rw [vfv_a c]
    exact h1
  · rw [vfv_b c]
    have hs' : (V.1 (3989 + 0)).toInt.toNat < 3 := hs
    exact (h1.s (Or.inr (by omega))).s (Or.inr (by omega))
theorem EW.one (h : EW w V S) : EW w (vs V 3926 1) S := by
  obtain ⟨a1, a2, a3, a4, a5, a6, a7, a8, a9, b1, b2, b3, b4, b5⟩ := h
  refine ⟨a1, a2, vs_at, ?_, ⟨?_, a5.2⟩, ?_, ⟨?_, a7.2⟩, fun i i1 i2 => ?_, ?_, ?_, ?_, ?_, b4, fun k k1 k2 => ?_⟩
  · rw [vs_ne (by omega)]; exact a4
  · rw [vs_ne (by omega)]; exact a5.1
  · rw [vs_ne (by omega)]; exact a6
  · rw [vs_ne (by omega)]; exact a7.1
  · rw [vs_ne (by omega)]; exact a8 i i1 i2
  · rw [vs_ne (by omega)]; exact a9
  · rw [vs_ne (by omega)]; exact b1
  · rw [vs_ne (by omega)]; exact b2
  · rw [vs_ne (by omega)]; exact b3
  · rw [vs_ne (by omega)]; exact b5 k k1 k2
/-- what a return does -/
theorem ew_ret (h : EW w V S) (hs : (V.1 3989).toInt.toNat < 3) (hn : 1 ≤ S.1) (hb : 2 ≤ S.1 → (V.2.2.2 0 (S.1 - 1)).2.2.2.1 % 1024 / 32 < 10 ∧ (V.2.2.2 0 (S.1 - 1)).2.2.2.1 % 32 - 1 < 16) : match ert w S v with
    | .inr v' => (vrt Z V 0 v).1 3926 = 3 ∧ (vrt Z V 0 v).1 3940 = v' ∧ (vrt Z V 0 v).1 3947 = nI S.2.2.2.2 ∧ (vrt Z V 0 v).1 4045 = nI S.2.2.2.1
    | .inl S' => EW w (vrt Z V 0 v) S' := by
  obtain ⟨a1, a2, a3, a4, a5, a6, a7, a8, a9, b1, b2, b3, b4, b5⟩ := id h
  by_cases c : S.1 ≤ 1
  · have e1 : S.1 = 1 := by omega
    have ht : ert w S v = .inr v := by unfold ert; rw [if_pos c]
    rw [ht]
    show (vrt Z V 0 v).1 3926 = 3 ∧ (vrt Z V 0 v).1 3940 = v ∧ (vrt Z V 0 v).1 3947 = nI S.2.2.2.2 ∧ (vrt Z V 0 v).1 4045 = nI S.2.2.2.1
    have hr : ∃ U : vV, (∀ i, i ≠ 3961 → i ≠ 3954 → U.1 i = V.1 i) ∧ vrt Z V 0 v = vdn Z U 0 v := by
      unfold vrt
      dsimp only
      rw [a1, e1, if_pos rfl]
      exact ⟨_, fun i i1 i2 => by
        show (vs (vs V (3961 + 0) _) (3954 + 0) _).1 i = V.1 i
        rw [vs_ne (by omega), vs_ne (by omega)], rfl⟩
    obtain ⟨U, hU, hr⟩ := hr
    rw [hr]
    have hq : ∀ i, i = 3926 ∨ i = 3940 ∨ i = 3947 ∨ i = 4045 → (vdn Z U 0 v).1 i = (vs (vs U 3926 3) 3940 v).1 i := fun i hi => by
      have hside : ((vs (vs U 3926 3) 3940 v).1 3989).toInt.toNat < 3 := by
        rw [vs_ne (by omega), vs_ne (by omega), hU _ (by omega) (by omega)]
        exact hs
      have hga := vga_k (V := vs (vs U 3926 3) 3940 v) (i := i) hside (by omega)
      unfold vdn
      dsimp only
      have h1 : (vlg1 (vcn (vga (vs (vs U (3926 + 0) 3) (3940 + 0) v) 0) 0 1)).1 i = (vs (vs U 3926 3) 3940 v).1 i := by
        unfold vlg1
        rw [vs_ne (by omega)]
        show (vs (vga (vs (vs U 3926 3) 3940 v) 0) 2054 _).1 i = _
        rw [vs_ne (by omega)]
        exact hga
      split
      · unfold vinc
        rw [vs_ne (by omega)]
        exact h1
      · exact h1
    refine ⟨?_, ?_, ?_, ?_⟩
    · rw [hq _ (Or.inl rfl), vs_ne (by omega), vs_at]
    · rw [hq _ (Or.inr (Or.inl rfl)), vs_at]
    · rw [hq _ (Or.inr (Or.inr (Or.inl rfl))), vs_ne (by omega), vs_ne (by omega), hU _ (by omega) (by omega)]; exact a6
    · rw [hq _ (Or.inr (Or.inr (Or.inr rfl))), vs_ne (by omega), vs_ne (by omega), hU _ (by omega) (by omega)]; exact a7.1
  · obtain ⟨hb1, hb2⟩ := hb (by omega)
    have hlf := h.lf (by omega)
    have hB : (elf S).2.2.2.1 % 1024 = (V.2.2.2 0 (S.1 - 1)).2.2.2.1 % 1024 := by
      have := hlf.2.1
      unfold vlf at this
      rw [a1] at this
      exact this.symm
    have hB2 : (elf S).2.2.2.1 % 32 = (V.2.2.2 0 (S.1 - 1)).2.2.2.1 % 32 := by omega
    have ht : ert w S v = .inl (enu (S.1 - 1, S.2.1, (V.2.2.2 0 (S.1 - 1)).2.2.2.1 % 32, S.2.2.2) (S.1 - 2) (w (vco ((V.2.2.2 0 (S.1 - 1)).2.2.2.1 % 1024 / 32) ((V.2.2.2 0 (S.1 - 1)).2.2.2.1 % 32 - 1) + 3)).toInt.toNat v) := by
      unfold ert
      rw [if_neg c, hB, hB2]
    rw [ht]
    show EW w (vrt Z V 0 v) (enu (S.1 - 1, S.2.1, (V.2.2.2 0 (S.1 - 1)).2.2.2.1 % 32, S.2.2.2) (S.1 - 2) (w (vco ((V.2.2.2 0 (S.1 - 1)).2.2.2.1 % 1024 / 32) ((V.2.2.2 0 (S.1 - 1)).2.2.2.1 % 32 - 1) + 3)).toInt.toNat v)
    unfold vrt
    dsimp only
    rw [a1, if_neg (show ¬ S.1 - 1 = 0 by omega), if_neg (show ¬ V.1 (3933 + 0) = 1 by rw [show V.1 (3933 + 0) = V.1 3933 from rfl, a4]; decide)]
    generalize (V.2.2.2 0 (S.1 - 1)).2.2.2.1 = bb at *
    have hc : vco (bb % 1024 / 32) (bb % 32 - 1) + 3 < 2898 ∧ 2228 ≤ vco (bb % 1024 / 32) (bb % 32 - 1) + 3 := by
      unfold vco
      omega
    have hpop : EW w (vnf (vs (vs V (3961 + 0) (V.1 (3961 + 0) - (V.1 (2228 + (V.2.2.2 0 (S.1 - 1)).1) + 2))) (3954 + 0) (V.1 (3954 + 0) - 1)) 0 (S.1 - 1)) (S.1 - 1, S.2) := by
      have h1 : EW w (vs (vs V (3961 + 0) (V.1 (3961 + 0) - (V.1 (2228 + (V.2.2.2 0 (S.1 - 1)).1) + 2))) (3954 + 0) (V.1 (3954 + 0) - 1)) S := (h.s (Or.inr (by omega))).s (Or.inr (by omega))
      obtain ⟨c1, c2, c3⟩ := h1
      refine ⟨?_, fun j hj => ?_, c3⟩
      · show mj_upd V.2.2.1 0 (S.1 - 1) 0 = S.1 - 1
        rw [mj_upd_self]
      · have hj : j < S.1 - 1 := hj
        exact c2 j (by omega)
    generalize hU : vnf (vs (vs V (3961 + 0) (V.1 (3961 + 0) - (V.1 (2228 + (V.2.2.2 0 (S.1 - 1)).1) + 2))) (3954 + 0) (V.1 (3954 + 0) - 1)) 0 (S.1 - 1) = U at hpop
    have hU89 : U.1 3989 = V.1 3989 := by
      rw [← hU]
      rfl
    have h2 : EW w (vs (vs U (3982 + 0) (nI (vpl U 0 (S.1 - 1 - 1)))) (3975 + 0) (nI (bb % 1024 / 32))) (S.1 - 1, S.2) := (hpop.s (Or.inr (by omega))).s (Or.inr (by omega))
    have h3 : EW w (vs (vs (vs U (3982 + 0) (nI (vpl U 0 (S.1 - 1 - 1)))) (3975 + 0) (nI (bb % 1024 / 32))) (3968 + 0) (nI (bb % 32))) (S.1 - 1, S.2.1, bb % 32, S.2.2.2) := h2.li (l := bb % 32) (by omega)
    rw [a8 _ hc.2 hc.1, show S.1 - 1 - 1 = S.1 - 2 by omega]
    rw [show S.1 - 1 - 1 = S.1 - 2 by omega] at h3
    have h4 := h3.nu (i := S.1 - 2) (k := (w (vco (bb % 1024 / 32) (bb % 32 - 1) + 3)).toInt.toNat) (v := v)
    by_cases c2 : 2048 ≤ bb
    · rw [if_pos c2]
      refine h4.fv ?_
      show (U.1 3989).toInt.toNat < 3
      rw [hU89]
      exact hs
    · rw [if_neg c2]
      exact h4
/-- what a foreign call does -/
theorem ew_fg {words fI slot : Int32} {c x : Nat} (h : EW w V S) (hg : EG w V S) (hp : Ipr w) (hn : 1 ≤ S.1) (hsd : (V.1 3989 = -1 ∧ V.1 3923 = -1) ∨ ∃ k, k < 3 ∧ V.1 3989 = nI k) (hc : V.1 3996 = nI c ∧ c ≤ 900000) (hx : words = nI x ∧ x ≤ 40) (hG : (elf S).1 < 10) : (∀ f, f < 10 → fI = nI f → tld w fI → (vus w S.2.1 S.1 + vwd w f ≤ 10000 → EW w (vfg 10000 V 0 words fI slot) (epu w S f (32 * (elf S).1 + S.2.2.1 + 2048) (vha w f (elf S) slot.toInt.toNat))) ∧ (10000 < vus w S.2.1 S.1 + vwd w f → (vfg 10000 V 0 words fI slot).1 3926 = 4)) ∧ (¬ tld w fI → EW w (vfg 10000 V 0 words fI slot) (enu S (S.1 - 1) slot.toInt.toNat (3 * vnm (elf S) slot + 1))) := by
  obtain ⟨a1, a2, a3, a4, a5, a6, a7, a8, a9, b1, b2, b3, b4, b5⟩ := id h
  have hv : ∃ U, vsd V 0 = some U ∧ EW w U S ∧ EG w U S ∧ (∃ k, k < 3 ∧ U.1 3989 = nI k) ∧ U.1 3996 = nI c ∧ U.1 2053 = nI 1000000 := by
    unfold vsd
    rcases hsd with ⟨e1, e2⟩ | ⟨k, k3, e1⟩
    · have hf : vfs V.1 (V.1 2052).toInt.toNat 0 = some 0 := by
        rw [b2]
        show (if V.1 (3923 + 0) = -1 then some 0 else vfs V.1 0 (0 + 1)) = some 0
        rw [if_pos e2]
      rw [if_pos (show V.1 (3989 + 0) = -1 from e1), hf]
      refine ⟨_, rfl, (h.s (Or.inr (by omega))).s (Or.inr (by omega)), (hg.s (by omega)).s (by omega), ⟨0, by omega, vs_at⟩, ?_, ?_⟩
      · rw [vs_ne (by omega), vs_ne (by omega)]; exact hc.1
      · rw [vs_ne (by omega), vs_ne (by omega)]; exact b3
    · rw [if_neg (show ¬ V.1 (3989 + 0) = -1 by rw [show V.1 (3989 + 0) = V.1 3989 from rfl, e1]; exact nI_nm (by omega))]
      exact ⟨V, rfl, h, hg, ⟨k, k3, e1⟩, hc.1, b3⟩
  obtain ⟨U, u1, u2, u3, ⟨ku, ku3, u4⟩, u5, u6⟩ := hv
  have hW : EW w (vs U 3926 1) S := u2.one
  have hadd : (vs U (3926 + 0) 1).1 (3996 + 0) + words = nI (c + x) := by
    rw [vs_ne (by omega), hx.1, show U.1 (3996 + 0) = U.1 3996 from rfl, u5, nI_add]
  have hle : ((vs U (3926 + 0) 1).1 (3996 + 0) + words).toInt ≤ ((vs U (3926 + 0) 1).1 2053).toInt := by
    rw [hadd, vs_ne (by omega), u6, nI_int (by have := hx.2; omega), nI_int (by omega)]
    have := hx.2
    omega
  have hvh := vhs_1 u1 hle
  rw [hadd] at hvh
  have hT : EW w (vs (vs U (3926 + 0) 1) (3996 + 0) (nI (c + x))) S := hW.s (Or.inr (by omega))
  have hTg : EG w (vs (vs U (3926 + 0) 1) (3996 + 0) (nI (c + x))) S := (u3.s (by omega)).s (by omega)
  have hT89 : (vs (vs U (3926 + 0) 1) (3996 + 0) (nI (c + x))).1 3989 = nI ku := by
    rw [vs_ne (by omega), vs_ne (by omega)]; exact u4
  unfold vfg
  rw [hvh]
  dsimp only
  generalize vs (vs U (3926 + 0) 1) (3996 + 0) (nI (c + x)) = T at hT hTg hT89
  have hlf := hT.lf (by omega)
  have htl : tld T.1 fI ↔ tld w fI := by
    unfold tld
    constructor
    · intro q
      have hq : fI.toInt.toNat < 10 := by omega
      rw [hT.2.2.2.2.2.2.2.1 _ (by omega) (by omega)] at q
      exact q
    · intro q
      have hq : fI.toInt.toNat < 10 := by omega
      rw [hT.2.2.2.2.2.2.2.1 _ (by omega) (by omega)]
      exact q
  refine ⟨fun f hf hfI ht => ?_, fun ht => ?_⟩
  · rw [if_pos (htl.mpr ht)]
    have hft : fI.toInt.toNat = f := by rw [hfI, nI_int (by omega)]; rfl
    have hbk : 32 * (vlf T 0).1 + (T.1 (3968 + 0)).toInt.toNat + 2048 = 32 * (elf S).1 + S.2.2.1 + 2048 := by
      rw [hlf.1, show T.1 (3968 + 0) = T.1 3968 from rfl, hT.2.2.2.2.1.1, nI_int (by have := hT.2.2.2.2.1.2; omega)]
      rfl
    have hl16 := hT.2.2.2.2.1.2
    rw [hft, hbk, hlf.ha hT.2.2.2.2.2.2.2.1 hf (by rw [hlf.1]; exact hG)]
    exact ew_call hT hTg hp hf (by omega)
  · rw [if_neg (fun q => ht (htl.mp q))]
    have h1 := hT.nu (i := S.1 - 1) (k := slot.toInt.toNat) (v := 3 * vnm (elf S) slot + 1)
    rw [← hlf.nm] at h1
    have h2 : EW w (vfv (vnu T 0 (S.1 - 1) slot.toInt.toNat (3 * vnm (vlf T 0) slot + 1)) 0 words) (enu S (S.1 - 1) slot.toInt.toNat (3 * vnm (vlf T 0) slot + 1)) := h1.fv (by
      show (T.1 3989).toInt.toNat < 3
      rw [hT89, nI_int (by omega)]
      exact ku3)
    rw [hT.1, ← hlf.nm]
    exact h2
end
end
section
/-! ===== endless: a step, the run, the answers ===== -/
section
variable {w : Nat → Int32} {V V' : vV} {S S' : eS} {B i k l f bk : Nat} {v a : Int32} {Z : (Nat → Int32) → Int32 → Int32 → Int32 → Bool}
theorem vos_40 {ps : List vP} {t N : Nat} {fr : Nat → vF} (hp : Ipr w) (h : Ifr w ps t N fr) : ∀ m, m ≤ N → vos w fr m ≤ 40 * m := by
  intro m
  induction m with
  | zero => intro _; exact Nat.le_refl _
  | succ m ih =>
    intro hm
    have hi := ih (by omega)
    have : vfo w (fr m) ≤ 40 := by
      unfold vfo
      by_cases c : 2048 ≤ (fr m).2.2.2.1
      · rw [if_pos c]
        cases m with
        | zero =>
          rcases h.2.1 with e | e
          · omega
          · omega
        | succ j =>
          obtain ⟨b1, b2, b3, b4, b5⟩ := h.2.2.1 j (by omega)
          rcases b5 with ⟨e, -⟩ | ⟨-, e, -⟩
          · omega
          · have hg := (h.1 j (by omega)).1
            have hl := (hp (fr j).1 hg).2.2 _ b4
            obtain ⟨⟨n, n1, n2, n3⟩, -⟩ := hl.2.2.2.2.2.2.2.2.2 e
            rw [b2, n1, nI_int (by omega)]
            exact n3
      · rw [if_neg c]
        exact Nat.zero_le _
    show vos w fr m + vfo w (fr m) ≤ 40 * (m + 1)
    omega
theorem eln_le {kind A b c : Int32} (e : eln w S l kind A b c = .inl S') : S'.1 ≤ S.1 + 1 ∧ S.1 ≤ S'.1 + 1 ∧ S'.2.2.2.2 = S.2.2.2.2 := by
  unfold eln at e
  dsimp only at e
  by_cases k0 : kind = 0
  · rw [if_pos k0] at e
    injection e with e
    subst e
    exact ⟨Nat.le_succ _, Nat.le_succ _, rfl⟩
  rw [if_neg k0] at e
  by_cases k1 : kind = 1
  · rw [if_pos k1] at e
    injection e with e
    subst e
    exact ⟨Nat.le_succ _, Nat.le_succ _, rfl⟩
  rw [if_neg k1] at e
  by_cases k2 : kind = 2
  · rw [if_pos k2] at e
    injection e with e
    subst e
    exact ⟨Nat.le_succ _, Nat.le_succ _, rfl⟩
  rw [if_neg k2] at e
  by_cases k3 : kind = 3
  · rw [if_pos k3] at e
    injection e with e
    subst e
    exact ⟨Nat.le_succ _, Nat.le_succ _, rfl⟩
  rw [if_neg k3] at e
  by_cases k4 : kind = 4
  · rw [if_pos k4] at e
    injection e with e
    subst e
    exact ⟨Nat.le_succ _, Nat.le_succ _, rfl⟩
  rw [if_neg k4] at e
  by_cases k5 : kind = 5
  · rw [if_pos k5] at e
    injection e with e
    subst e
    cases (elf S).2.2.2.2.2 A.toInt.toNat with
    | none => exact ⟨Nat.le_succ _, Nat.le_succ _, rfl⟩
    | some q => exact ⟨Nat.le_succ _, Nat.le_succ _, rfl⟩
  rw [if_neg k5] at e
  by_cases k6 : kind = 6
  · rw [if_pos k6] at e
    injection e with e
    subst e
    by_cases q : tld w A
    · rw [if_pos q]
      exact ⟨Nat.le_refl _, by show S.1 ≤ S.1 + 1 + 1; omega, rfl⟩
    · rw [if_neg q]
      exact ⟨Nat.le_succ _, Nat.le_succ _, rfl⟩
  rw [if_neg k6] at e
  by_cases k7 : kind = 7
  · rw [if_pos k7] at e
    injection e with e
    subst e
    by_cases q : (vnm (elf S) A).toInt ≤ 0
    · rw [if_pos q]
      exact ⟨Nat.le_succ _, Nat.le_succ _, rfl⟩
    · rw [if_neg q]
      exact ⟨Nat.le_succ _, Nat.le_succ _, rfl⟩
  rw [if_neg k7] at e
  by_cases k8 : kind = 8
  · rw [if_pos k8] at e
    unfold ert at e
    by_cases q : S.1 ≤ 1
    · rw [if_pos q] at e
      cases e
    · rw [if_neg q] at e
      injection e with e
      subst e
      refine ⟨?_, ?_, rfl⟩
      · show S.1 - 1 ≤ S.1 + 1
        omega
      · show S.1 ≤ S.1 - 1 + 1
        omega
  rw [if_neg k8] at e
  by_cases k9 : kind = 9
  · rw [if_pos k9] at e
    injection e with e
    subst e
    by_cases q : tld w b
    · rw [if_pos q]
      exact ⟨Nat.le_refl _, by show S.1 ≤ S.1 + 1 + 1; omega, rfl⟩
    · rw [if_neg q]
      exact ⟨Nat.le_succ _, Nat.le_succ _, rfl⟩
  rw [if_neg k9] at e
  injection e with e
  subst e
  exact ⟨Nat.le_succ _, Nat.le_succ _, rfl⟩
theorem eln_inr {kind A b c : Int32} (e : eln w S l kind A b c = .inr v) : S.1 ≤ 1 := by
  unfold eln at e
  dsimp only at e
  by_cases k0 : kind = 0
  · rw [if_pos k0] at e
    cases e
  rw [if_neg k0] at e
  by_cases k1 : kind = 1
  · rw [if_pos k1] at e
    cases e
  rw [if_neg k1] at e
  by_cases k2 : kind = 2
  · rw [if_pos k2] at e
    cases e
  rw [if_neg k2] at e
  by_cases k3 : kind = 3
  · rw [if_pos k3] at e
    cases e
  rw [if_neg k3] at e
  by_cases k4 : kind = 4
  · rw [if_pos k4] at e
    cases e
  rw [if_neg k4] at e
  by_cases k5 : kind = 5
  · rw [if_pos k5] at e
    cases e
  rw [if_neg k5] at e
  by_cases k6 : kind = 6
  · rw [if_pos k6] at e
    cases e
  rw [if_neg k6] at e
  by_cases k7 : kind = 7
  · rw [if_pos k7] at e
    cases e
  rw [if_neg k7] at e
  by_cases k8 : kind = 8
  · rw [if_pos k8] at e
    unfold ert at e
    by_cases q : S.1 ≤ 1
    · exact q
    · rw [if_neg q] at e
      cases e
  rw [if_neg k8] at e
  by_cases k9 : kind = 9
  · rw [if_pos k9] at e
    cases e
  rw [if_neg k9] at e
  cases e
theorem est_le (e : est w S = .inl S') : S'.1 ≤ S.1 + 1 ∧ S.1 ≤ S'.1 + 1 ∧ S'.2.2.2.2 = S.2.2.2.2 + 1 := by
  unfold est at e
  dsimp only at e
  split at e
  · exact eln_le (S := eli (S.1, S.2.1, S.2.2.1, S.2.2.2.1, S.2.2.2.2 + 1) (S.2.2.1 + 1)) e
  · unfold ert at e
    split at e
    · cases e
    · injection e with e
      subst e
      refine ⟨?_, ?_, rfl⟩
      · show S.1 - 1 ≤ S.1 + 1
        omega
      · show S.1 ≤ S.1 - 1 + 1
        rename_i c
        have c : ¬ S.1 ≤ 1 := c
        omega
theorem est_inr (e : est w S = .inr v) : S.1 ≤ 1 := by
  unfold est at e
  dsimp only at e
  split at e
  · exact eln_inr (S := eli (S.1, S.2.1, S.2.2.1, S.2.2.2.1, S.2.2.2.2 + 1) (S.2.2.1 + 1)) e
  · unfold ert at e
    split at e
    · rename_i c
      exact c
    · cases e
theorem eru_none : ∀ (m : Nat) (S : eS), m < S.1 → eru w m S = none := by
  intro m
  induction m with
  | zero => intro S _; rfl
  | succ m ih =>
    intro S h
    unfold eru
    cases e : est w S with
    | inr v => have := est_inr e; omega
    | inl S' =>
      have := est_le e
      exact ih S' (by omega)
theorem vrl_idle {lim : Nat} (h : vby V 0 = false) : ∀ n, vrl lim Z 0 n V = V := by
  intro n
  cases n with
  | zero => rfl
  | succ n =>
    unfold vrl
    rw [h, if_neg (by simp)]
/-- what a step of the picture is, against one of the small machine -/
def EP (w : Nat → Int32) (V' : vV) (S : eS) : eS ⊕ Int32 → Prop
  | .inr v => V'.1 3926 = 3 ∧ V'.1 3940 = v ∧ V'.1 3947 = nI (S.2.2.2.2 + 1) ∧ V'.1 4045 = nI S.2.2.2.1
  | .inl S' => EW w V' S' ∨ (V'.1 3926 = 4 ∧ 1001 ≤ S'.1)
theorem ew_step (h : EW w V S) (hI : VI 10000 B V) (hp : Ipr w) : EP w (vst 10000 Z V 0) S (est w S) := by
  obtain ⟨a1, a2, a3, a4, a5, a6, a7, a8, a9, b1, b2, b3, b4, b5⟩ := id h
  have hb : vbz V.1 0 := Or.inl a3
  obtain ⟨np, z, z2, z3, k, l, hP, h0, -⟩ := hI.opn (by omega) hb (by omega)
  obtain ⟨hj, hc, -, -, -, -, -, -, -⟩ := hP
  have hnp1 : np = 1 := by
    rcases hc.2.2.2.2.1 with ⟨-, e, -⟩ | e
    · exact e
    · have e : V.1 3933 = 1 := e
      rw [a4] at e
      exact absurd e (by decide)
  subst hnp1
  obtain ⟨hgeo, -, hIf, -, -⟩ := hc.2.2.2.2.2.2.1 h0
  obtain ⟨-, n', np', e0, -, -, -, -, -, -, -, -, -, -, -, -, c14, -, -, -⟩ := hI.bz (by omega) h0
  have hlim := hc.n hj (by omega)
  rw [a1] at hgeo hIf h0 hlim
  have hfn : ∀ i, i < S.1 → (V.2.2.2 0 i).1 = (S.2.1 i).1 ∧ (S.2.1 i).1 < 10 := fun i hi => by
    have e1 := (a2 i hi).1
    have e2 := (hIf.1 i hi).1
    exact ⟨e1, by rw [← e1]; exact e2⟩
  have hvu : ∀ n, n ≤ S.1 → vus V.1 (V.2.2.2 0) n = vus w S.2.1 n := fun n hn => vus_two (fun i hi => hfn i (by omega)) (fun f hf => a8 _ (by omega) (by omega))
  have hG : EG w V S := by
    refine ⟨fun i hi => ?_, ?_, hc.2.1, ?_, fun i hi => (hfn i hi).2⟩
    · obtain ⟨d1, d2⟩ := geo_vus hgeo i hi
      exact ⟨d1, by rw [d2, hvu i (by omega)]⟩
    · have := hc.2.2.2.2.2.1
      rw [a1, hvu _ (Nat.le_refl _)] at this
      exact this
    · have := hlim.2
      rw [hvu _ (Nat.le_refl _)] at this
      exact this
  have hlf := h.lf h0
  have hg10 : (elf S).1 < 10 := (hfn (S.1 - 1) (by omega)).2
  have hsid : (V.1 3989).toInt.toNat < 3 := by
    rcases hI.sid (t := 0) (by omega) with e | ⟨k, k3, e⟩
    · rw [show V.1 3989 = V.1 (3989 + 0) from rfl, e]; decide
    · rw [show V.1 3989 = V.1 (3989 + 0) from rfl, e, nI_int (by omega)]; exact k3
  have hbk : 2 ≤ S.1 → (V.2.2.2 0 (S.1 - 1)).2.2.2.1 % 1024 / 32 < 10 ∧ (V.2.2.2 0 (S.1 - 1)).2.2.2.1 % 32 - 1 < 16 := fun hn => by
    obtain ⟨d1, d2, d3, d4, -⟩ := hIf.2.2.1 (S.1 - 2) (by omega)
    rw [show S.1 - 2 + 1 = S.1 - 1 by omega] at d1 d2 d3 d4
    have hg := (hIf.1 (S.1 - 2) (by omega)).1
    have hli := (hI.2.1.li hg).2
    exact ⟨by rw [d2]; exact hg, by omega⟩
  have hV1 : EW w (vcn (vinc V 3947) 2 1) (S.1, S.2.1, S.2.2.1, S.2.2.2.1, S.2.2.2.2 + 1) := h.st rfl
  have hV1g : EG w (vcn (vinc V 3947) 2 1) (S.1, S.2.1, S.2.2.1, S.2.2.2.1, S.2.2.2.2 + 1) := by
    have h1 : EG w (vs (vs V 3947 (V.1 3947 + 1)) 2056 ((vs V 3947 (V.1 3947 + 1)).1 2056 + 1)) S := (hG.s (by omega)).s (by omega)
    exact h1
  have hV1e : ∀ i, i ≠ 3947 → i ≠ 2056 → (vcn (vinc V 3947) 2 1).1 i = V.1 i := fun i i1 i2 => by
    show (vs (vs V 3947 (V.1 3947 + 1)) 2056 _).1 i = V.1 i
    rw [vs_ne i2, vs_ne i1]
  have hl3 : (V.1 (3968 + 0)).toInt.toNat = S.2.2.1 := by
    rw [show V.1 (3968 + 0) = V.1 3968 from rfl, a5.1, nI_int (by have := a5.2; omega)]
    rfl
  have hvl : vli V.1 (vlf V 0).1 = vli w (elf S).1 := by
    unfold vli
    rw [hlf.1, a8 _ (by omega) (by omega)]
  have hli16 := (hp.li hg10).2
  unfold vst est
  dsimp only
  rw [hl3, hvl]
  show EP w _ S (if S.2.2.1 < vli w (elf S).1 then _ else _)
  by_cases hl : S.2.2.1 < vli w (elf S).1
  · rw [if_pos hl, if_pos hl]
    have hco : ∀ j, j < 4 → V.1 (vco (vlf V 0).1 S.2.2.1 + j) = w (vco (elf S).1 S.2.2.1 + j) := fun j hj => by
      rw [hlf.1]
      exact a8 _ (by unfold vco; omega) (by unfold vco; omega)
    have hc0 := hco 0 (by omega)
    have hc1 := hco 1 (by omega)
    have hc2 := hco 2 (by omega)
    have hc3 := hco 3 (by omega)
    rw [Nat.add_zero, Nat.add_zero] at hc0
    rw [hc0, hc1, hc2, hc3]
    have hlin := (hp (elf S).1 hg10).2.2 S.2.2.1 hl
    unfold vlin at hlin
    generalize hS1 : ((S.1, S.2.1, S.2.2.1, S.2.2.2.1, S.2.2.2.2 + 1) : eS) = S1 at hV1 hV1g
    have hS11 : S1.1 = S.1 := by rw [← hS1]
    have hS12 : S1.2.1 = S.2.1 := by rw [← hS1]
    have hS13 : S1.2.2.1 = S.2.2.1 := by rw [← hS1]
    have hS14 : S1.2.2.2.1 = S.2.2.2.1 := by rw [← hS1]
    have hS15 : S1.2.2.2.2 = S.2.2.2.2 + 1 := by rw [← hS1]
    have hUe : vs (vcn (vinc V 3947) 2 1) (3968 + 0) ((vcn (vinc V 3947) 2 1).1 (3968 + 0) + 1) = vs (vcn (vinc V 3947) 2 1) 3968 (nI (S.2.2.1 + 1)) := by
      rw [show (vcn (vinc V 3947) 2 1).1 (3968 + 0) = V.1 3968 from hV1e 3968 (by omega) (by omega), a5.1, show nI S.2.2.1 + 1 = nI (S.2.2.1 + 1) from nI_add _ 1]
    rw [show vs (vcn (vinc V (3947 + 0)) 2 1) (3968 + 0) ((vcn (vinc V (3947 + 0)) 2 1).1 (3968 + 0) + 1) = vs (vcn (vinc V 3947) 2 1) 3968 (nI (S.2.2.1 + 1)) from hUe]
    have hU : EW w (vs (vcn (vinc V 3947) 2 1) 3968 (nI (S.2.2.1 + 1))) (eli S1 (S.2.2.1 + 1)) := hV1.li (by omega)
    have hUg : EG w (vs (vcn (vinc V 3947) 2 1) 3968 (nI (S.2.2.1 + 1))) (eli S1 (S.2.2.1 + 1)) := hV1g.li
    have hUs : ∀ i, i ≠ 3947 → i ≠ 2056 → i ≠ 3968 → (vs (vcn (vinc V 3947) 2 1) 3968 (nI (S.2.2.1 + 1))).1 i = V.1 i := fun i i1 i2 i3 => by
      rw [vs_ne i3]
      exact hV1e i i1 i2
    have hUf : (vs (vcn (vinc V 3947) 2 1) 3968 (nI (S.2.2.1 + 1))).2.2.2 = V.2.2.2 := rfl
    generalize vs (vcn (vinc V 3947) 2 1) 3968 (nI (S.2.2.1 + 1)) = U at hU hUg hUs hUf
    generalize hT : eli S1 (S.2.2.1 + 1) = T at hU hUg
    have hT1 : T.1 = S.1 := by rw [← hT]; exact hS11
    have hT2 : T.2.1 = S.2.1 := by rw [← hT]; exact hS12
    have hT3 : T.2.2.1 = S.2.2.1 + 1 := by rw [← hT]; rfl
    have hT4 : T.2.2.2.1 = S.2.2.2.1 := by rw [← hT]; exact hS14
    have hT5 : T.2.2.2.2 = S.2.2.2.2 + 1 := by rw [← hT]; exact hS15
    have hTe : elf T = elf S := by
      unfold elf
      rw [hT1, hT2]
    have hUn : U.2.2.1 0 = S.1 := hU.1.trans hT1
    have hUlf : EF (vlf U 0) (elf T) := hU.lf (by omega)
    have hUg10 : (vlf U 0).1 < 10 := by rw [hUlf.1, hTe]; exact hg10
    have inl : ∀ {V' : vV} {S' : eS}, EW w V' S' → EP w V' S (.inl S') := fun q => Or.inl q
    -- a call, or out
    have hcall : ∀ (f bk : Nat) (h2 : Int32 × Option (Nat × Nat)), f < 10 → (bk < 1024 ∨ (2048 ≤ bk ∧ bk < 3072)) → EP w (vcl 10000 U 0 f bk h2) S (.inl (epu w T f bk h2)) := fun f bk h2 hf hbk2 => by
      obtain ⟨d1, d2⟩ := ew_call (h2 := h2) hU hUg hp hf hbk2
      by_cases c : vus w T.2.1 T.1 + vwd w f ≤ 10000
      · exact Or.inl (d1 c)
      · refine Or.inr ⟨d2 (by omega), ?_⟩
        show 1001 ≤ T.1 + 1
        have q1 : vus w T.2.1 T.1 ≤ 10 * T.1 := vus_le (fun i hi => (hp.wd (hUg.2.2.2.2 i hi)).2)
        have q2 := (hp.wd hf).2
        omega
    generalize hK : w (vco (elf S).1 S.2.2.1) = K at hlin
    generalize hA : w (vco (elf S).1 S.2.2.1 + 1) = A at hlin
    generalize hBb : w (vco (elf S).1 S.2.2.1 + 2) = Bb at hlin
    generalize hCc : w (vco (elf S).1 S.2.2.1 + 3) = Cc at hlin
    obtain ⟨⟨k0, k10⟩, l0, l12, l3, l4, l5, l6, l7, l8, l9⟩ := hlin
    have hkk : K = 0 ∨ K = 1 ∨ K = 2 ∨ K = 3 ∨ K = 4 ∨ K = 5 ∨ K = 6 ∨ K = 7 ∨ K = 8 ∨ K = 9 ∨ K = 10 := by
      obtain ⟨m, m1, m2, m3, m4⟩ := i_nat (x := K) k0
      have : m = 0 ∨ m = 1 ∨ m = 2 ∨ m = 3 ∨ m = 4 ∨ m = 5 ∨ m = 6 ∨ m = 7 ∨ m = 8 ∨ m = 9 ∨ m = 10 := by omega
      rcases this with e | e | e | e | e | e | e | e | e | e | e
      · exact Or.inl (by rw [m2, e]; rfl)
      · exact Or.inr (Or.inl (by rw [m2, e]; rfl))
      · exact Or.inr (Or.inr (Or.inl (by rw [m2, e]; rfl)))
      · exact Or.inr (Or.inr (Or.inr (Or.inl (by rw [m2, e]; rfl))))
      · exact Or.inr (Or.inr (Or.inr (Or.inr (Or.inl (by rw [m2, e]; rfl)))))
      · exact Or.inr (Or.inr (Or.inr (Or.inr (Or.inr (Or.inl (by rw [m2, e]; rfl))))))
      · exact Or.inr (Or.inr (Or.inr (Or.inr (Or.inr (Or.inr (Or.inl (by rw [m2, e]; rfl)))))))
      · exact Or.inr (Or.inr (Or.inr (Or.inr (Or.inr (Or.inr (Or.inr (Or.inl (by rw [m2, e]; rfl))))))))
      · exact Or.inr (Or.inr (Or.inr (Or.inr (Or.inr (Or.inr (Or.inr (Or.inr (Or.inl (by rw [m2, e]; rfl)))))))))
      · exact Or.inr (Or.inr (Or.inr (Or.inr (Or.inr (Or.inr (Or.inr (Or.inr (Or.inr (Or.inl (by rw [m2, e]; rfl))))))))))
      · exact Or.inr (Or.inr (Or.inr (Or.inr (Or.inr (Or.inr (Or.inr (Or.inr (Or.inr (Or.inr (by rw [m2, e]; rfl))))))))))
    have htl : ∀ x : Int32, tld U.1 x ↔ tld w x := fun x => by
      unfold tld
      constructor
      · intro q
        have hq : x.toInt.toNat < 10 := by omega
        rw [hU.2.2.2.2.2.2.2.1 _ (by omega) (by omega)] at q
        exact q
      · intro q
        have hq : x.toInt.toNat < 10 := by omega
        rw [hU.2.2.2.2.2.2.2.1 _ (by omega) (by omega)]
        exact q
    rcases hkk with rfl | rfl | rfl | rfl | rfl | rfl | rfl | rfl | rfl | rfl | rfl
    · rw [vln1_0, hUn, ← hT1]
      exact inl hU.nu
    · rw [vln1_1, hUn, ← hT1, hUlf.nm, hUlf.nm]
      exact inl hU.nu
    · rw [vln1_2, hUn, ← hT1, hUlf.nm, hUlf.nm]
      exact inl hU.nu
    · rw [vln1_3, hUn, ← hT1]
      exact inl hU.po
    · rw [vln1_4, hUn, ← hT1]
      show EP w _ S (.inl (enu T (T.1 - 1) A.toInt.toNat (match (elf T).2.2.2.2.2 Bb.toInt.toNat with | none => 0 | some q => (T.2.1 q.1).2.2.2.2.1 q.2)))
      obtain ⟨j, j1, j2, j3⟩ := (l4 rfl).2
      have e5 : (vlf U 0).2.2.2.2.2 = (elf T).2.2.2.2.2 := by rw [hUlf.2.2.2.2]
      rw [e5]
      have hv : (match (elf T).2.2.2.2.2 Bb.toInt.toNat with | none => (0 : Int32) | some q => (U.2.2.2 0 q.1).2.2.2.2.1 q.2) = (match (elf T).2.2.2.2.2 Bb.toInt.toNat with | none => 0 | some q => (T.2.1 q.1).2.2.2.2.1 q.2) := by
        cases eq : (elf T).2.2.2.2.2 Bb.toInt.toNat with
        | none => rfl
        | some q =>
          have hj0 : Bb.toInt.toNat = j := by rw [j1, nI_int (by have := (hp.sz hg10).2; omega)]; rfl
          have eS := (a2 (S.1 - 1) (by omega))
          have hfS : (V.2.2.2 0 (S.1 - 1)).2.2.2.2.2 = (elf S).2.2.2.2.2 := by
            rw [eS.2.2.2.2]
            rfl
          have hzz : vsz V.1 (V.2.2.2 0 (S.1 - 1)).1 = vsz w (elf S).1 := by
            unfold vsz
            rw [(hfn (S.1 - 1) (by omega)).1]
            exact congrArg (fun x : Int32 => x.toInt.toNat) (a8 _ (by have := (hfn (S.1 - 1) (by omega)).2; omega) (by have := (hfn (S.1 - 1) (by omega)).2; omega))
          have hbt : bt (V.1 (2238 + (V.2.2.2 0 (S.1 - 1)).1)) j := by
            rw [(hfn (S.1 - 1) (by omega)).1, a8 _ (by have := (hfn (S.1 - 1) (by omega)).2; omega) (by have := (hfn (S.1 - 1) (by omega)).2; omega)]
            exact j3
          have := hIf.2.2.2.2.2 (S.1 - 1) (by omega) j (by rw [hzz]; exact j2) hbt q (by rw [hfS, ← hTe, ← hj0]; exact eq)
          have hq1 : q.1 < T.1 := by omega
          show (U.2.2.2 0 q.1).2.2.2.2.1 q.2 = (T.2.1 q.1).2.2.2.2.1 q.2
          rw [(hU.2.1 q.1 hq1).2.2.2.2]
      show EP w (vnu U 0 (T.1 - 1) A.toInt.toNat (match (elf T).2.2.2.2.2 Bb.toInt.toNat with | none => (0 : Int32) | some q => (U.2.2.2 0 q.1).2.2.2.2.1 q.2)) S _
      rw [hv]
      exact inl hU.nu
    · rw [vln1_5]
      show EP w _ S (.inl (match (elf T).2.2.2.2.2 A.toInt.toNat with | none => T | some q => enu T q.1 q.2 (vnm (elf T) Bb)))
      have e5 : (vlf U 0).2.2.2.2.2 = (elf T).2.2.2.2.2 := by rw [hUlf.2.2.2.2]
      rw [e5, hUlf.nm]
      cases eq : (elf T).2.2.2.2.2 A.toInt.toNat with
      | none => exact inl hU
      | some q => exact inl hU.nu
    · rw [vln1_6]
      show EP w _ S (.inl (if tld w A then epu w T A.toInt.toNat (32 * (elf T).1 + S.2.2.1 + 1) (vha w A.toInt.toNat (elf T) Bb.toInt.toNat) else enu T (T.1 - 1) Cc.toInt.toNat 0))
      by_cases ct : tld w A
      · rw [if_pos ct, if_pos ((htl A).mpr ct)]
        have hA10 : A.toInt.toNat < 10 := by unfold tld at ct; omega
        rw [hUlf.ha hU.2.2.2.2.2.2.2.1 hA10 hUg10, hUlf.1]
        exact hcall _ _ _ hA10 (by rw [hTe]; omega)
      · rw [if_neg ct, if_neg (fun q => ct ((htl A).mp q)), hUn, ← hT1]
        exact inl hU.nu
    · rw [vln1_7]
      show EP w _ S (.inl (if (vnm (elf T) A).toInt ≤ 0 then T else eli T Bb.toInt.toNat))
      rw [hUlf.nm]
      obtain ⟨l', e1, e2⟩ := (l7 rfl).2
      by_cases ct : (vnm (elf T) A).toInt ≤ 0
      · rw [if_pos ct, if_pos ct]
        exact inl hU
      · rw [if_neg ct, if_neg ct, e1, nI_int (by omega)]
        exact inl (hU.li (l := l') (by omega))
    · rw [vln1_8]
      show EP w _ S (ert w T (vnm (elf T) A))
      rw [hUlf.nm]
      have hr := ew_ret (v := vnm (elf T) A) (Z := Z) hU (by rw [hUs _ (by omega) (by omega) (by omega)]; exact hsid) (by omega) (fun q => by rw [hT1, hUf]; exact hbk (by omega))
      cases er : ert w T (vnm (elf T) A) with
      | inr v' =>
        rw [er] at hr
        obtain ⟨d1, d2, d3, d4⟩ := hr
        exact ⟨d1, d2, by rw [d3, hT5], by rw [d4, hT4]⟩
      | inl S' =>
        rw [er] at hr
        exact Or.inl hr
    · rw [vln1_9]
      show EP w _ S (.inl (if tld w Bb then epu w T Bb.toInt.toNat (32 * (elf T).1 + S.2.2.1 + 1 + 2048) (vha w Bb.toInt.toNat (elf T) Cc.toInt.toNat) else enu T (T.1 - 1) Cc.toInt.toNat (3 * vnm (elf T) Cc + 1)))
      obtain ⟨⟨x, x1, x2, x3⟩, hBf, -⟩ := l9 rfl
      have hvos := vos_40 hI.2.1 hIf S.1 (Nat.le_refl _)
      have hc96 : U.1 3996 = nI (vos V.1 (V.2.2.2 0) S.1) := by
        rw [hUs _ (by omega) (by omega) (by omega)]
        rw [← e0, a1] at c14
        exact c14
      have hsd : (U.1 3989 = -1 ∧ U.1 3923 = -1) ∨ ∃ k, k < 3 ∧ U.1 3989 = nI k := by
        rw [hUs _ (by omega) (by omega) (by omega), hUs _ (by omega) (by omega) (by omega)]
        rcases hI.sid (t := 0) (by omega) with e | e
        · refine Or.inl ⟨e, ?_⟩
          rcases hI.2.2.2.1 0 (by omega) with q | ⟨t', t1, t2, t3⟩
          · exact q
          · exfalso
            by_cases et : t' = 0
            · rw [et, e] at t3
              exact absurd t3 (by decide)
            · have hid := hI.2.2.2.2.2 t' t1
              have h0' := b5 t' (by omega) t1
              rcases hid with ⟨q, -⟩ | q
              · rcases q with q | q
                · rw [h0'] at q; exact absurd q (by decide)
                · rw [h0'] at q; exact absurd q (by decide)
              · have := q.2.2.2.2.2.1
                rw [this] at t3
                exact absurd t3 (by decide)
        · exact Or.inr e
      obtain ⟨d1, d2⟩ := ew_fg (words := A) (fI := Bb) (slot := Cc) (x := x) hU hUg hp (by omega) hsd ⟨hc96, by omega⟩ ⟨x1, x3⟩ (by rw [hTe]; exact hg10)
      by_cases ct : tld w Bb
      · have hBe : ∃ f, f < 10 ∧ Bb = nI f ∧ Bb.toInt.toNat = f := by
          obtain ⟨f', f1, f2, f3, f4⟩ := tld_nat ct
          exact ⟨f', f1, f2, f3⟩
        obtain ⟨f', f1, f2, f3⟩ := hBe
        obtain ⟨d3, d4⟩ := d1 f' f1 f2 ct
        rw [if_pos ct, f3, show 32 * (elf T).1 + S.2.2.1 + 1 + 2048 = 32 * (elf T).1 + T.2.2.1 + 2048 by rw [hT3]; omega]
        by_cases cv : vus w T.2.1 T.1 + vwd w f' ≤ 10000
        · exact Or.inl (d3 cv)
        · refine Or.inr ⟨d4 (by omega), ?_⟩
          show 1001 ≤ T.1 + 1
          have q1 : vus w T.2.1 T.1 ≤ 10 * T.1 := vus_le (fun i hi => (hp.wd (hUg.2.2.2.2 i hi)).2)
          have q2 := (hp.wd f1).2
          omega
      · rw [if_neg ct]
        exact Or.inl (d2 ct)
    · rw [vln1_10]
      have hq : vqu 10000 U 0 = (false, U) := vqu_0 (t := 0) hU.2.2.2.1 (Or.inr (Or.inl (by
        have e1 : vln U.2.1 0 0 = 10000 := by rw [hU.2.2.2.2.2.2.2.2.2.2.2.2.1]; rfl
        rw [e1, hU.2.2.2.2.2.2.2.2.1, nI_int (by omega)]
        decide)))
      rw [hq]
      exact inl hU
  · rw [if_neg hl, if_neg hl]
    have hr := ew_ret (v := 0) (Z := Z) hV1 (by rw [hV1e _ (by omega) (by omega)]; exact hsid) (by show 1 ≤ S.1; omega) hbk
    show EP w (vrt Z (vcn (vinc V 3947) 2 1) 0 0) S (ert w (S.1, S.2.1, S.2.2.1, S.2.2.2.1, S.2.2.2.2 + 1) 0)
    cases er : ert w (S.1, S.2.1, S.2.2.1, S.2.2.2.1, S.2.2.2.2 + 1) 0 with
    | inr v' =>
      rw [er] at hr
      exact hr
    | inl S' =>
      rw [er] at hr
      exact Or.inl hr
end
end
section
/-! ===== endless: the same answers ===== -/
section
variable {w W : Nat → Int32} {F B f : Nat} {s : wt_S} {V : vV} {S : eS} {a : Int32} {Z : (Nat → Int32) → Int32 → Int32 → Int32 → Bool}
/-- how the picture stands behind the run -/
def EZP (V' : vV) : Option (Int32 × Nat × Nat) → Prop
  | some r => V'.1 3926 = 3 ∧ V'.1 3940 = r.1 ∧ V'.1 3947 = nI r.2.1 ∧ V'.1 4045 = nI r.2.2
  | none => V'.1 3926 ≠ 3
theorem ew_run (hp : Ipr w) : ∀ (m B : Nat) (V : vV) (S : eS), EW w V S → VI 10000 B V → S.2.2.2.2 + m = 2000 → S.1 ≤ S.2.2.2.2 + 1 → EZP (vrl 10000 Z 0 m V) (eru w m S) := by
  intro m
  induction m with
  | zero =>
    intro B V S h hI hm hs
    show V.1 3926 ≠ 3
    rw [h.2.2.1]
    decide
  | succ m ih =>
    intro B V S h hI hm hs
    have hb : vby V 0 = true := vby_iff.mpr (Or.inl h.2.2.1)
    have hst := ew_step (Z := Z) h hI hp
    have hI' := vi_st (Z := Z) hI (t := 0) (by omega) (Or.inl h.2.2.1) (by omega)
    unfold vrl eru
    rw [if_pos hb]
    cases e : est w S with
    | inr v =>
      rw [e] at hst
      obtain ⟨d1, d2, d3, d4⟩ := hst
      have hby : vby (vst 10000 Z V 0) 0 = false := by
        cases q : vby (vst 10000 Z V 0) 0 with
        | false => rfl
        | true =>
          have d1 : (vst 10000 Z V 0).1 (3926 + 0) = 3 := d1
          rcases vby_iff.mp q with x | x
          · rw [d1] at x; exact absurd x (by decide)
          · rw [d1] at x; exact absurd x (by decide)
      rw [vrl_idle hby]
      exact ⟨d1, d2, d3, d4⟩
    | inl S' =>
      rw [e] at hst
      have hle := est_le e
      rcases hst with hst | ⟨d1, d2⟩
      · exact ih (B + 4) _ S' hst hI' (by omega) (by omega)
      · have hby : vby (vst 10000 Z V 0) 0 = false := by
          cases q : vby (vst 10000 Z V 0) 0 with
          | false => rfl
          | true =>
            have d1 : (vst 10000 Z V 0).1 (3926 + 0) = 4 := d1
            rcases vby_iff.mp q with x | x
            · rw [d1] at x; exact absurd x (by decide)
            · rw [d1] at x; exact absurd x (by decide)
        rw [vrl_idle hby]
        show EZP _ (eru w m S')
        rw [eru_none m S' (by omega)]
        show (vst 10000 Z V 0).1 3926 ≠ 3
        rw [d1]
        decide
theorem vET_end (hp : Ipr W) (hf : f < 10) (hs1 : 1 ≤ vsz W f) : EZP (vET Z W f a) (eend W (nI f) a) := by
  have hpw : ∀ i, 2228 ≤ i → i < 2898 → ecw W i = W i := fun i i1 i2 => by unfold ecw; rw [if_pos (Or.inl ⟨i1, i2⟩)]
  have hpe : Ipr (ecw W) := (hp.wp (fun i hi => hpw i hi.1 hi.2) : Ipr (ecw W))
  have hI0 : VI 10000 0 (vnw vEA W) := vi_nw hp ise_en
  have hs1' : 1 ≤ vsz (vnw vEA W).1 f := by rw [(vnw_pp.sz hf).1]; exact hs1
  have hI := vi_bg (a := a) (mode := 0) hI0 (by omega) (by omega) (nw_id (t := 0) (by omega)) hf hs1' (Or.inl rfl)
  have e48 : (vnw vEA W).1 2048 = nI 10000 := vnw_se (i := 0) (by omega)
  have hbt : (vnw vEA W).1 (2238 + f) = ecw W (2238 + f) := by
    rw [hpw _ (by omega) (by omega)]
    exact vnw_pp _ ⟨by omega, by omega⟩
  have hvbg : (vbg 10000 (vnw vEA W) 0 f a 0).2 = vcl 10000 (vb5 (vnw vEA W) 0 0 10000 (nI f) a 0) 0 f 0 (if bt (ecw W (2238 + f)) 0 then 0 else a, none) := by
    unfold vbg
    have hg : vgap 10000 0 (vnw vEA W).2.1 ((vnw vEA W).1 2048).toInt.toNat = some 0 := by
      rw [e48, nI_int (by omega)]
      show (if 0 + 10000 ≤ 10000 then some 0 else none) = some 0
      rw [if_pos (by omega)]
    rw [hg]
    dsimp only
    rw [e48, nI_int (by omega), hbt]
    rfl
  have hne : ∀ i, (i < 3926 ∨ 4073 ≤ i ∨ (i - 3926) % 7 ≠ 0) → (vb5 (vnw vEA W) 0 0 10000 (nI f) a 0).1 i = (vnw vEA W).1 i := fun i hi => vb5_ne (by omega) hi
  have hcr : ∀ c, 3926 ≤ c → c ≤ 4066 → (c - 3926) % 7 = 0 → c ≠ 3975 → c ≠ 3989 → (vcr (vnw vEA W) 0).1 c = 0 := fun c c1 c2 c3 c4 c5 => by
    unfold vcr
    rw [vs_ne (by omega), vs_ne (by omega)]
    show (if 3926 + 7 * 0 ≤ c ∧ c < 4073 ∧ (c - 3926) % 7 = 0 then (0 : Int32) else (vnw vEA W).1 c) = 0
    rw [if_pos ⟨by omega, by omega, c3⟩]
  have hb5 : ∀ c, c ≠ 3926 → c ≠ 3933 → c ≠ 4066 → c ≠ 4052 → c ≠ 4059 → (vb5 (vnw vEA W) 0 0 10000 (nI f) a 0).1 c = (vcr (vnw vEA W) 0).1 c := fun c c1 c2 c3 c4 c5 => by
    unfold vb5
    rw [vs_ne (by omega), vs_ne (by omega), vs_ne (by omega), vs_ne (by omega), vs_ne (by omega)]
    rfl
  have h26 : (vb5 (vnw vEA W) 0 0 10000 (nI f) a 0).1 3926 = 1 := by
    unfold vb5
    rw [vs_ne (by omega), vs_ne (by omega), vs_ne (by omega), vs_ne (by omega)]
    exact vs_at
  have h33 : (vb5 (vnw vEA W) 0 0 10000 (nI f) a 0).1 3933 = 0 := by
    unfold vb5
    rw [vs_ne (by omega), vs_ne (by omega), vs_ne (by omega)]
    exact vs_at
  have h66 : (vb5 (vnw vEA W) 0 0 10000 (nI f) a 0).1 4066 = nI 1 := by
    unfold vb5
    rw [vs_ne (by omega), vs_ne (by omega)]
    exact vs_at
  have hE : EW (ecw W) (vb5 (vnw vEA W) 0 0 10000 (nI f) a 0) e00 := by
    refine ⟨rfl, fun i hi => absurd hi (Nat.not_lt_zero i), h26, h33, ⟨?_, Nat.zero_le _⟩, ?_, ⟨?_, Nat.zero_le _⟩, fun i i1 i2 => ?_, ?_, ?_, ?_, ?_, rfl, fun k k1 k2 => ?_⟩
    · rw [hb5 _ (by omega) (by omega) (by omega) (by omega) (by omega), hcr _ (by omega) (by omega) (by omega) (by omega) (by omega)]; rfl
    · rw [hb5 _ (by omega) (by omega) (by omega) (by omega) (by omega), hcr _ (by omega) (by omega) (by omega) (by omega) (by omega)]; rfl
    · rw [hb5 _ (by omega) (by omega) (by omega) (by omega) (by omega), hcr _ (by omega) (by omega) (by omega) (by omega) (by omega)]; rfl
    · rw [hne i (by omega), hpw i i1 i2]
      exact vnw_pp i ⟨i1, i2⟩
    · rw [hne _ (by omega)]; exact e48
    · rw [hne _ (by omega)]; exact (vnw_se (i := 2) (by omega)).trans (by decide)
    · rw [hne _ (by omega)]; exact (vnw_se (i := 4) (by omega)).trans (by decide)
    · rw [hne _ (by omega)]; exact (vnw_se (i := 5) (by omega)).trans (by decide)
    · rw [hne _ (by omega)]; exact vnw_0 (by omega)
  have hEg : EG (ecw W) (vb5 (vnw vEA W) 0 0 10000 (nI f) a 0) e00 := by
    refine ⟨fun i hi => absurd hi (Nat.not_lt_zero i), ?_, h66, Nat.zero_le _, fun i hi => absurd hi (Nat.not_lt_zero i)⟩
    rw [hb5 _ (by omega) (by omega) (by omega) (by omega) (by omega), hcr _ (by omega) (by omega) (by omega) (by omega) (by omega)]
    rfl
  have hwd := (hpe.wd hf).2
  have hcl := (ew_call (bk := 0) (h2 := (if bt (ecw W (2238 + f)) 0 then 0 else a, none)) hE hEg hpe hf (Or.inl (by omega))).1 (by show 0 + vwd (ecw W) f ≤ 10000; omega)
  rw [hvbg] at hI
  unfold vET eend
  rw [hvbg, show (nI f).toInt.toNat = f by rw [nI_int (by omega)]; rfl]
  exact ew_run hpe 2000 3 _ (ein (ecw W) f a) hcl hI rfl (Nat.le_refl _)
theorem q_endlessE {f a what : Int32} (h : RS s V) (hI : VI 2048 B V) : ∃ s', gX11_endless s f a what = some (vendl Z V f a what, s') ∧ RS s' V ∧ RF s s' := by
  have q0 : (0 : Int32).toInt = 0 := by decide
  have q2 : (2 : Int32).toInt = 2 := by decide
  unfold gX11_endless gX11_endless_26
  rw [q_isTold, cl_some, if_rb]
  by_cases c1 : tld V.1 f
  · rw [if_pos (h.prog.tl.mpr c1), q_isIn, cl_some, if_rb, q0, q2]
    by_cases c2 : 0 ≤ what.toInt ∧ what.toInt ≤ 2
    · obtain ⟨z, z1, z2, z3⟩ := hI.1.2.2.2.1
      obtain ⟨s', e1, e2, e3, e4⟩ := e_run (a := a) h hI.2.1 ⟨z, z1, z3⟩ c1
      rw [if_pos c2, e1, cl_some, if_rbn]
      obtain ⟨f', f1, rfl, f3, f4⟩ := tld_nat c1
      have hE := vET_end (Z := Z) (a := a) hI.2.1 f1 f4
      have hv : vendl Z V (nI f') a what = (if (vET Z V.1 f' a).1 3926 = 3 then (if what ≠ 0 then (if what ≠ 1 then (vET Z V.1 f' a).1 4045 else (vET Z V.1 f' a).1 3947) else (vET Z V.1 f' a).1 3940) else -1000000000) := by
        unfold vendl
        rw [if_pos ⟨c1, c2⟩, f3]
      rw [hv]
      cases er : eend V.1 (nI f') a with
      | none =>
        rw [er] at hE
        rw [if_neg (by simp), if_neg hE]
        exact ⟨s', rfl, e2, e3⟩
      | some r =>
        rw [er] at hE
        obtain ⟨d1, d2, d3, d4⟩ := hE
        obtain ⟨g1, g2, g3⟩ := e4 r er
        have g1 : s' 111 3946 = r.1 := g1
        have g2 : s' 111 3953 = nI r.2.1 := g2
        have g3 : s' 111 4051 = nI r.2.2 := g3
        rw [if_pos (by rfl), if_pos d1, d2, d3, d4, g1, g2, g3]
        by_cases w0 : what ≠ 0
        · rw [if_pos w0, if_pos w0]
          by_cases w1 : what ≠ 1
          · rw [if_pos w1, if_pos w1]; exact ⟨s', rfl, e2, e3⟩
          · rw [if_neg w1, if_neg w1]; exact ⟨s', rfl, e2, e3⟩
        · rw [if_neg w0, if_neg w0]; exact ⟨s', rfl, e2, e3⟩
    · have hv : vendl Z V f a what = -1000000000 := by unfold vendl; rw [if_neg (fun e => c2 e.2)]
      rw [if_neg c2, hv]
      exact ⟨s, rfl, h, RF.refl⟩
  · have hv : vendl Z V f a what = -1000000000 := by unfold vendl; rw [if_neg (fun e => c1 e.1)]
    rw [if_neg (fun q => c1 (h.prog.tl.mp q)), hv]
    exact ⟨s, rfl, h, RF.refl⟩
theorem lo_endlessE {a b c : Int32} (h : LJ F B s) (hF : F + 4001 ≤ 1999990000) : LO (F + 4001) B s (gX10_endless s a b c) (fun s1 => gX11_endless s1 a b c) Eq :=
  lo_mk h (Nat.le_refl _) (oX10_endless hF h.1) (fun V hr hI hn => by
    obtain ⟨s1, a1, a2, a3⟩ := c_endlessop (f := a) (a := b) (what := c) (Z := vZ) hn
    refine ⟨_, s1, _, a1, a2, fun c hc => a3 c (by omega), fun s1' h' => ?_⟩
    obtain ⟨s2, b1, b2, b3⟩ := q_endlessE (f := a) (a := b) (what := c) (Z := vZ) h' hI
    exact ⟨_, s2, b1, rfl, b2, RH.of b3⟩)
end
end
section
/-! ===== more operations of the law, their answers held against each other (written by wip/p2/gen_ops2.py) ===== -/
theorem law_e_deep {L F B : Nat} {s : wt_S} {l3 : Int32} {P : Int32 → wt_S → Prop} {K : wt_S → Option (Int32 × wt_S)} (hL : L ≤ 3072) (hl : 0 ≤ l3.toInt ∧ l3.toInt + 6 ≤ L) (hF1 : F + 2401800 ≤ 1999990000) (hB1 : B + 2400 ≤ 2147200000) (h : LJ F B s) (go : ∀ s', LJ (F + 2401800) (B + 2400) s' → Ok P (K s')) : Ok P (wt_ix (l3 + 1) L fun k1 => (wt_cl (gX10_deep s (s 0 k1)) fun v s1 => (wt_ix (l3 + 1) L fun m1 => (wt_cl (gX11_deep s1 (s1 0 m1)) fun w s2 => (if v = w then K s2 else some (0, s2)))))) := by
  have hF0 : F ≤ 1999990000 := Nat.le_trans (Nat.le_add_right _ _) hF1
  have hB0 : B ≤ 2147200000 := Nat.le_trans (Nat.le_add_right _ _) hB1
  obtain ⟨r, s1, r2, s2, e1, e2, e3, e4, e5⟩ := lo_deepE (a := s 0 (l3.toInt.toNat + 1)) h
  rw [ix_l1 hL hl, e1, cl_some, ix_l1 hL hl, e2, show gX11_deep s1 (s 0 (l3.toInt.toNat + 1)) = some (r2, s2) from e3, cl_some, if_pos e4]
  exact go s2 (e5.mono (Nat.le_add_right _ _) (Nat.le_add_right _ _))
theorem law_e_need {L F B : Nat} {s : wt_S} {l3 : Int32} {P : Int32 → wt_S → Prop} {K : wt_S → Option (Int32 × wt_S)} (hL : L ≤ 3072) (hl : 0 ≤ l3.toInt ∧ l3.toInt + 6 ≤ L) (hF1 : F + 2401800 ≤ 1999990000) (hB1 : B + 2400 ≤ 2147200000) (h : LJ F B s) (go : ∀ s', LJ (F + 2401800) (B + 2400) s' → Ok P (K s')) : Ok P (wt_ix (l3 + 1) L fun k1 => (wt_cl (gX10_need s (s 0 k1)) fun v s1 => (wt_ix (l3 + 1) L fun m1 => (wt_cl (gX11_need s1 (s1 0 m1)) fun w s2 => (if v = w then K s2 else some (0, s2)))))) := by
  have hF0 : F ≤ 1999990000 := Nat.le_trans (Nat.le_add_right _ _) hF1
  have hB0 : B ≤ 2147200000 := Nat.le_trans (Nat.le_add_right _ _) hB1
  obtain ⟨r, s1, r2, s2, e1, e2, e3, e4, e5⟩ := lo_needE (a := s 0 (l3.toInt.toNat + 1)) h
  rw [ix_l1 hL hl, e1, cl_some, ix_l1 hL hl, e2, show gX11_need s1 (s 0 (l3.toInt.toNat + 1)) = some (r2, s2) from e3, cl_some, if_pos e4]
  exact go s2 (e5.mono (Nat.le_add_right _ _) (Nat.le_add_right _ _))
theorem law_e_task {L F B : Nat} {s : wt_S} {l3 : Int32} {P : Int32 → wt_S → Prop} {K : wt_S → Option (Int32 × wt_S)} (hL : L ≤ 3072) (hl : 0 ≤ l3.toInt ∧ l3.toInt + 6 ≤ L) (hF1 : F + 2401800 ≤ 1999990000) (hB1 : B + 2400 ≤ 2147200000) (h : LJ F B s) (go : ∀ s', LJ (F + 2401800) (B + 2400) s' → Ok P (K s')) : Ok P (wt_ix (l3 + 1) L fun k1 => (wt_ix (l3 + 2) L fun k2 => (wt_cl (gX10_task s (s 0 k1) (s 0 k2)) fun v s1 => (wt_ix (l3 + 1) L fun m1 => (wt_ix (l3 + 2) L fun m2 => (wt_cl (gX11_task s1 (s1 0 m1) (s1 0 m2)) fun w s2 => (if v = w then K s2 else some (0, s2)))))))) := by
  have hF0 : F ≤ 1999990000 := Nat.le_trans (Nat.le_add_right _ _) hF1
  have hB0 : B ≤ 2147200000 := Nat.le_trans (Nat.le_add_right _ _) hB1
  obtain ⟨r, s1, r2, s2, e1, e2, e3, e4, e5⟩ := lo_taskE (a := s 0 (l3.toInt.toNat + 1)) (b := s 0 (l3.toInt.toNat + 2)) h
  rw [ix_l1 hL hl, ix_l2 hL hl, e1, cl_some, ix_l1 hL hl, ix_l2 hL hl, e2, show gX11_task s1 (s 0 (l3.toInt.toNat + 1)) (s 0 (l3.toInt.toNat + 2)) = some (r2, s2) from e3, cl_some, if_pos e4]
  exact go s2 (e5.mono (Nat.le_add_right _ _) (Nat.le_add_right _ _))
theorem law_e_count {L F B : Nat} {s : wt_S} {l3 : Int32} {P : Int32 → wt_S → Prop} {K : wt_S → Option (Int32 × wt_S)} (hL : L ≤ 3072) (hl : 0 ≤ l3.toInt ∧ l3.toInt + 6 ≤ L) (hF1 : F + 2401800 ≤ 1999990000) (hB1 : B + 2400 ≤ 2147200000) (h : LJ F B s) (go : ∀ s', LJ (F + 2401800) (B + 2400) s' → Ok P (K s')) : Ok P (wt_ix (l3 + 1) L fun k1 => (wt_cl (gX10_count s (s 0 k1)) fun v s1 => (wt_ix (l3 + 1) L fun m1 => (wt_cl (gX11_count s1 (s1 0 m1)) fun w s2 => (if v = w then K s2 else some (0, s2)))))) := by
  have hF0 : F ≤ 1999990000 := Nat.le_trans (Nat.le_add_right _ _) hF1
  have hB0 : B ≤ 2147200000 := Nat.le_trans (Nat.le_add_right _ _) hB1
  obtain ⟨r, s1, r2, s2, e1, e2, e3, e4, e5⟩ := lo_countE (a := s 0 (l3.toInt.toNat + 1)) h
  rw [ix_l1 hL hl, e1, cl_some, ix_l1 hL hl, e2, show gX11_count s1 (s 0 (l3.toInt.toNat + 1)) = some (r2, s2) from e3, cl_some, if_pos e4]
  exact go s2 (e5.mono (Nat.le_add_right _ _) (Nat.le_add_right _ _))
theorem law_e_gap {L F B : Nat} {s : wt_S} {l3 : Int32} {P : Int32 → wt_S → Prop} {K : wt_S → Option (Int32 × wt_S)} (hL : L ≤ 3072) (hl : 0 ≤ l3.toInt ∧ l3.toInt + 6 ≤ L) (hF1 : F + 2401800 ≤ 1999990000) (hB1 : B + 2400 ≤ 2147200000) (h : LJ F B s) (go : ∀ s', LJ (F + 2401800) (B + 2400) s' → Ok P (K s')) : Ok P (wt_ix (l3 + 1) L fun k1 => (wt_ix (l3 + 2) L fun k2 => (wt_cl (gX10_gap s (s 0 k1) (s 0 k2)) fun v s1 => (wt_ix (l3 + 1) L fun m1 => (wt_ix (l3 + 2) L fun m2 => (wt_cl (gX11_gap s1 (s1 0 m1) (s1 0 m2)) fun w s2 => (if v = w then K s2 else some (0, s2)))))))) := by
  have hF0 : F ≤ 1999990000 := Nat.le_trans (Nat.le_add_right _ _) hF1
  have hB0 : B ≤ 2147200000 := Nat.le_trans (Nat.le_add_right _ _) hB1
  obtain ⟨r, s1, r2, s2, e1, e2, e3, e4, e5⟩ := lo_gapE (a := s 0 (l3.toInt.toNat + 1)) (b := s 0 (l3.toInt.toNat + 2)) h
  rw [ix_l1 hL hl, ix_l2 hL hl, e1, cl_some, ix_l1 hL hl, ix_l2 hL hl, e2, show gX11_gap s1 (s 0 (l3.toInt.toNat + 1)) (s 0 (l3.toInt.toNat + 2)) = some (r2, s2) from e3, cl_some, if_pos e4]
  exact go s2 (e5.mono (Nat.le_add_right _ _) (Nat.le_add_right _ _))
theorem law_e_piece {L F B : Nat} {s : wt_S} {l3 : Int32} {P : Int32 → wt_S → Prop} {K : wt_S → Option (Int32 × wt_S)} (hL : L ≤ 3072) (hl : 0 ≤ l3.toInt ∧ l3.toInt + 6 ≤ L) (hF1 : F + 2401800 ≤ 1999990000) (hB1 : B + 2400 ≤ 2147200000) (h : LJ F B s) (go : ∀ s', LJ (F + 2401800) (B + 2400) s' → Ok P (K s')) : Ok P (wt_ix (l3 + 1) L fun k1 => (wt_ix (l3 + 2) L fun k2 => (wt_ix (l3 + 3) L fun k3 => (wt_cl (gX10_piece s (s 0 k1) (s 0 k2) (s 0 k3)) fun v s1 => (wt_ix (l3 + 1) L fun m1 => (wt_ix (l3 + 2) L fun m2 => (wt_ix (l3 + 3) L fun m3 => (wt_cl (gX11_piece s1 (s1 0 m1) (s1 0 m2) (s1 0 m3)) fun w s2 => (if v = w then K s2 else some (0, s2)))))))))) := by
  have hF0 : F ≤ 1999990000 := Nat.le_trans (Nat.le_add_right _ _) hF1
  have hB0 : B ≤ 2147200000 := Nat.le_trans (Nat.le_add_right _ _) hB1
  obtain ⟨r, s1, r2, s2, e1, e2, e3, e4, e5⟩ := lo_pieceE (a := s 0 (l3.toInt.toNat + 1)) (b := s 0 (l3.toInt.toNat + 2)) (c := s 0 (l3.toInt.toNat + 3)) h
  rw [ix_l1 hL hl, ix_l2 hL hl, ix_l3 hL hl, e1, cl_some, ix_l1 hL hl, ix_l2 hL hl, ix_l3 hL hl, e2, show gX11_piece s1 (s 0 (l3.toInt.toNat + 1)) (s 0 (l3.toInt.toNat + 2)) (s 0 (l3.toInt.toNat + 3)) = some (r2, s2) from e3, cl_some, if_pos e4]
  exact go s2 (e5.mono (Nat.le_add_right _ _) (Nat.le_add_right _ _))
theorem law_e_frame {L F B : Nat} {s : wt_S} {l3 : Int32} {P : Int32 → wt_S → Prop} {K : wt_S → Option (Int32 × wt_S)} (hL : L ≤ 3072) (hl : 0 ≤ l3.toInt ∧ l3.toInt + 6 ≤ L) (hF1 : F + 2401800 ≤ 1999990000) (hB1 : B + 2400 ≤ 2147200000) (h : LJ F B s) (go : ∀ s', LJ (F + 2401800) (B + 2400) s' → Ok P (K s')) : Ok P (wt_ix (l3 + 1) L fun k1 => (wt_ix (l3 + 2) L fun k2 => (wt_ix (l3 + 3) L fun k3 => (wt_cl (gX10_frame s (s 0 k1) (s 0 k2) (s 0 k3)) fun v s1 => (wt_ix (l3 + 1) L fun m1 => (wt_ix (l3 + 2) L fun m2 => (wt_ix (l3 + 3) L fun m3 => (wt_cl (gX11_frame s1 (s1 0 m1) (s1 0 m2) (s1 0 m3)) fun w s2 => (if v = w then K s2 else some (0, s2)))))))))) := by
  have hF0 : F ≤ 1999990000 := Nat.le_trans (Nat.le_add_right _ _) hF1
  have hB0 : B ≤ 2147200000 := Nat.le_trans (Nat.le_add_right _ _) hB1
  obtain ⟨r, s1, r2, s2, e1, e2, e3, e4, e5⟩ := lo_frameE (a := s 0 (l3.toInt.toNat + 1)) (b := s 0 (l3.toInt.toNat + 2)) (c := s 0 (l3.toInt.toNat + 3)) h hF0
  rw [ix_l1 hL hl, ix_l2 hL hl, ix_l3 hL hl, e1, cl_some, ix_l1 hL hl, ix_l2 hL hl, ix_l3 hL hl, e2, show gX11_frame s1 (s 0 (l3.toInt.toNat + 1)) (s 0 (l3.toInt.toNat + 2)) (s 0 (l3.toInt.toNat + 3)) = some (r2, s2) from e3, cl_some, if_pos e4]
  exact go s2 (e5.mono (Nat.le_add_right _ _) (Nat.le_add_right _ _))
theorem law_e_slot {L F B : Nat} {s : wt_S} {l3 : Int32} {P : Int32 → wt_S → Prop} {K : wt_S → Option (Int32 × wt_S)} (hL : L ≤ 3072) (hl : 0 ≤ l3.toInt ∧ l3.toInt + 6 ≤ L) (hF1 : F + 2401800 ≤ 1999990000) (hB1 : B + 2400 ≤ 2147200000) (h : LJ F B s) (go : ∀ s', LJ (F + 2401800) (B + 2400) s' → Ok P (K s')) : Ok P (wt_ix (l3 + 1) L fun k1 => (wt_ix (l3 + 2) L fun k2 => (wt_ix (l3 + 3) L fun k3 => (wt_ix (l3 + 4) L fun k4 => (wt_cl (gX10_slot s (s 0 k1) (s 0 k2) (s 0 k3) (s 0 k4)) fun v s1 => (wt_ix (l3 + 1) L fun m1 => (wt_ix (l3 + 2) L fun m2 => (wt_ix (l3 + 3) L fun m3 => (wt_ix (l3 + 4) L fun m4 => (wt_cl (gX11_slot s1 (s1 0 m1) (s1 0 m2) (s1 0 m3) (s1 0 m4)) fun w s2 => (if v = w then K s2 else some (0, s2)))))))))))) := by
  have hF0 : F ≤ 1999990000 := Nat.le_trans (Nat.le_add_right _ _) hF1
  have hB0 : B ≤ 2147200000 := Nat.le_trans (Nat.le_add_right _ _) hB1
  obtain ⟨r, s1, r2, s2, e1, e2, e3, e4, e5⟩ := lo_slotE (a := s 0 (l3.toInt.toNat + 1)) (b := s 0 (l3.toInt.toNat + 2)) (c := s 0 (l3.toInt.toNat + 3)) (d := s 0 (l3.toInt.toNat + 4)) h hF0
  rw [ix_l1 hL hl, ix_l2 hL hl, ix_l3 hL hl, ix_l4 hL hl, e1, cl_some, ix_l1 hL hl, ix_l2 hL hl, ix_l3 hL hl, ix_l4 hL hl, e2, show gX11_slot s1 (s 0 (l3.toInt.toNat + 1)) (s 0 (l3.toInt.toNat + 2)) (s 0 (l3.toInt.toNat + 3)) (s 0 (l3.toInt.toNat + 4)) = some (r2, s2) from e3, cl_some, if_pos e4]
  exact go s2 (e5.mono (Nat.le_add_right _ _) (Nat.le_add_right _ _))
theorem law_e_land {L F B : Nat} {s : wt_S} {l3 : Int32} {P : Int32 → wt_S → Prop} {K : wt_S → Option (Int32 × wt_S)} (hL : L ≤ 3072) (hl : 0 ≤ l3.toInt ∧ l3.toInt + 6 ≤ L) (hF1 : F + 2401800 ≤ 1999990000) (hB1 : B + 2400 ≤ 2147200000) (h : LJ F B s) (go : ∀ s', LJ (F + 2401800) (B + 2400) s' → Ok P (K s')) : Ok P (wt_ix (l3 + 1) L fun k1 => (wt_ix (l3 + 2) L fun k2 => (wt_ix (l3 + 3) L fun k3 => (wt_cl (gX10_land s (s 0 k1) (s 0 k2) (s 0 k3)) fun v s1 => (wt_ix (l3 + 1) L fun m1 => (wt_ix (l3 + 2) L fun m2 => (wt_ix (l3 + 3) L fun m3 => (wt_cl (gX11_land s1 (s1 0 m1) (s1 0 m2) (s1 0 m3)) fun w s2 => (if v = w then K s2 else some (0, s2)))))))))) := by
  have hF0 : F ≤ 1999990000 := Nat.le_trans (Nat.le_add_right _ _) hF1
  have hB0 : B ≤ 2147200000 := Nat.le_trans (Nat.le_add_right _ _) hB1
  obtain ⟨r, s1, r2, s2, e1, e2, e3, e4, e5⟩ := lo_landE (a := s 0 (l3.toInt.toNat + 1)) (b := s 0 (l3.toInt.toNat + 2)) (c := s 0 (l3.toInt.toNat + 3)) h (Nat.le_trans (Nat.add_le_add_left (by decide) F) hF1) hB0
  rw [ix_l1 hL hl, ix_l2 hL hl, ix_l3 hL hl, e1, cl_some, ix_l1 hL hl, ix_l2 hL hl, ix_l3 hL hl, e2, show gX11_land s1 (s 0 (l3.toInt.toNat + 1)) (s 0 (l3.toInt.toNat + 2)) (s 0 (l3.toInt.toNat + 3)) = some (r2, s2) from e3, cl_some, if_pos e4]
  exact go s2 (e5.mono (Nat.add_le_add_left (by decide) _) (Nat.le_add_right _ _))
theorem law_e_endless {L F B : Nat} {s : wt_S} {l3 : Int32} {P : Int32 → wt_S → Prop} {K : wt_S → Option (Int32 × wt_S)} (hL : L ≤ 3072) (hl : 0 ≤ l3.toInt ∧ l3.toInt + 6 ≤ L) (hF1 : F + 2401800 ≤ 1999990000) (hB1 : B + 2400 ≤ 2147200000) (h : LJ F B s) (go : ∀ s', LJ (F + 2401800) (B + 2400) s' → Ok P (K s')) : Ok P (wt_ix (l3 + 1) L fun k1 => (wt_ix (l3 + 2) L fun k2 => (wt_ix (l3 + 3) L fun k3 => (wt_cl (gX10_endless s (s 0 k1) (s 0 k2) (s 0 k3)) fun v s1 => (wt_ix (l3 + 1) L fun m1 => (wt_ix (l3 + 2) L fun m2 => (wt_ix (l3 + 3) L fun m3 => (wt_cl (gX11_endless s1 (s1 0 m1) (s1 0 m2) (s1 0 m3)) fun w s2 => (if v = w then K s2 else some (0, s2)))))))))) := by
  have hF0 : F ≤ 1999990000 := Nat.le_trans (Nat.le_add_right _ _) hF1
  have hB0 : B ≤ 2147200000 := Nat.le_trans (Nat.le_add_right _ _) hB1
  obtain ⟨r, s1, r2, s2, e1, e2, e3, e4, e5⟩ := lo_endlessE (a := s 0 (l3.toInt.toNat + 1)) (b := s 0 (l3.toInt.toNat + 2)) (c := s 0 (l3.toInt.toNat + 3)) h (Nat.le_trans (Nat.add_le_add_left (by decide) F) hF1)
  rw [ix_l1 hL hl, ix_l2 hL hl, ix_l3 hL hl, e1, cl_some, ix_l1 hL hl, ix_l2 hL hl, ix_l3 hL hl, e2, show gX11_endless s1 (s 0 (l3.toInt.toNat + 1)) (s 0 (l3.toInt.toNat + 2)) (s 0 (l3.toInt.toNat + 3)) = some (r2, s2) from e3, cl_some, if_pos e4]
  exact go s2 (e5.mono (Nat.add_le_add_left (by decide) _) (Nat.le_add_right _ _))
end
