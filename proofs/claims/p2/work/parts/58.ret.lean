/-! ===== the reference returns ===== -/
theorem RS.set {s : wt_S} {V : vV} {t i k : Nat} {F : vF} {v : Int32} (h : RS s V) (hj : VJ 2048 V) (ht : t < 6) (hi : i < V.2.2.1 t) (hk : k < vsz V.1 (V.2.2.2 t i).1) (h1 : F.1 = (V.2.2.2 t i).1) (h2 : F.2.1 = (V.2.2.2 t i).2.1) (h3 : F.2.2.1 = (V.2.2.2 t i).2.2.1) (h4 : F.2.2.2.1 = (V.2.2.2 t i).2.2.2.1)
    (hv : vsw V.1 (vpl V t) F k = v) (hs : ∀ k', k' ≠ k → vsw V.1 (vpl V t) F k' = vsw V.1 (vpl V t) (V.2.2.2 t i) k') : RS (wt_u s 111 (vpl V t i + 2 + k) v) (vfr V t i F) := by
  have hf := (hj.fit ht hi).2.2
  unfold vwd at hf
  refine h.uf ?_
  obtain ⟨g1, g2, mm, g3, g4⟩ := h.2
  refine ⟨fun i hi => ?_, vr_P_upd (Or.inl (by omega)) g2, mj_upd mm (vpl V t i + 2 + k) v, fun p hp => mj_upd_eq2 (Or.inr (g3 p hp)), g4.set hj ht hi hk h1 h2 h3 h4 hv hs⟩
  rw [mj_upd_ne (by have := (vtr_out hi).2; omega)]
  exact g1 i hi
theorem RS.num {s : wt_S} {V : vV} {t i k : Nat} {v : Int32} (h : RS s V) (hj : VJ 2048 V) (ht : t < 6) (hi : i < V.2.2.1 t) (hk : k < vsz V.1 (V.2.2.2 t i).1) (hb : ¬ bt (V.1 (2238 + (V.2.2.2 t i).1)) k) : RS (wt_u s 111 (vpl V t i + 2 + k) v) (vnu V t i k v) := by
  refine h.set hj ht hi hk rfl rfl rfl rfl ?_ (fun k' hk' => ?_)
  · unfold vsw
    show (if bt (V.1 (2238 + (V.2.2.2 t i).1)) k then _ else mj_upd (V.2.2.2 t i).2.2.2.2.1 k v k) = v
    rw [if_neg hb, mj_upd_self]
  · unfold vsw
    show (if bt (V.1 (2238 + (V.2.2.2 t i).1)) k' then _ else mj_upd (V.2.2.2 t i).2.2.2.2.1 k v k') = _
    rw [mj_upd_ne hk']
section
variable {s : wt_S} {V : vV} {t : Nat}
theorem q_fover {ks : Nat} {words : Int32} (h : RS s V) (ht : t < 6) (hks : ks < 3) (hs : V.1 (3989 + t) = nI ks) : ∃ s', gX11_foreignOver s (nI t) words = some ((), s') ∧ RS s' (vfv V t words) ∧ RF s s' := by
  obtain ⟨a1, a2⟩ := q_cnt (c := 9) (v := 1) h (by omega)
  have hon : (vcn V 9 1).1 (3996 + t) = V.1 (3996 + t) := vcn_ne (by omega)
  have b2 := a2.u (i := 3996 + t) (v := V.1 (3996 + t) - words) (vtt (by omega) ht) (Or.inr (by omega))
  have hF : RF s (wt_u (wt_u s 111 (2054 + 9) (V.1 (2054 + 9) + 1)) 111 (3996 + t) (V.1 (3996 + t) - words)) := RF.trans (RF.uf (Or.inl rfl)) (RF.uf (Or.inl rfl))
  unfold gX11_foreignOver
  rw [show gX11_counts s 9 1 = _ from a1, cl_some, if_pos a2.1, li_add, ix_nI (by omega) (by omega), ix_nI (by omega) (by omega), wr_eq, a2.tk (c := 3996) (by omega) ht, hon, ix_nI (by omega) (by omega), wt_u_self]
  unfold vfv
  dsimp only
  rw [vs_at]
  by_cases c : 0 < (V.1 (3996 + t) - words).toInt
  · rw [if_pos c, if_neg (by show ¬ _ ≤ (0 : Int); omega)]
    exact ⟨_, rfl, b2, hF⟩
  · rw [if_neg c, if_pos (by show _ ≤ (0 : Int); omega), li_add, ix_nI (by omega) (by omega), b2.tk (c := 3989) (by omega) ht, vs_ne (by omega), vcn_ne (by omega), hs, li_add, ix_nI (by omega) (by omega), wr_eq, ix_nI (by omega) (by omega), wr_eq]
    have e : (nI ks).toInt.toNat = ks := by rw [nI_int (by omega)]; rfl
    rw [e]
    exact ⟨_, rfl, (b2.u (i := 3923 + ks) (v := -1) (Or.inr (Or.inr (Or.inl (by omega)))) (Or.inr (by omega))).u (vtt (by omega) ht) (Or.inr (by omega)), RF.trans hF (RF.trans (RF.uf (Or.inl rfl)) (RF.uf (Or.inl rfl)))⟩
/-- what is known of a run on an endless stack: D answers, Z says whether the result is another one -/
def HD (D : wt_S → Int32 → Int32 → Option (Int32 × wt_S)) (Z : (Nat → Int32) → Int32 → Int32 → Int32 → Bool) : Prop := (∀ s V f a, RS s V → Ipr V.1 → (∃ z, V.1 2051 = nI z ∧ z ≤ 80) → tld V.1 f → ∃ r s', D s f a = some (r, s') ∧ RS s' V ∧ RF s s' ∧ ∀ v, Z V.1 f a v = decide (r ≠ 0 ∧ s' 111 3946 ≠ v)) ∧ ∀ w w' f a v, Ipr w → vpe w w' → Z w' f a v = Z w f a v
theorem q_done {D : wt_S → Int32 → Int32 → Option (Int32 × wt_S)} {Z : (Nat → Int32) → Int32 → Int32 → Int32 → Bool} {k z2 : Nat} {v : Int32} (hD : HD D Z) (h : RS s V) (hj : VJ 2048 V) (ht : t < 6) (hs : V.1 (3989 + t) = -1 ∨ ∃ k, k < 3 ∧ V.1 (3989 + t) = nI k) (hk : V.1 2067 = nI k) (hk2 : k < 2147483300) (hr : V.1 2051 = nI z2) (hz : z2 ≤ 80) (hb : tld V.1 (V.1 (4052 + t))) : ∃ s', gX11_isDone D s (nI t) v = some ((), s') ∧ RS s' (vdn Z V t v) ∧ RF s s' := by
  have a1 := h.u (i := 3926 + t) (v := 3) (vtt (by omega) ht) (Or.inr (by omega))
  have a2 := a1.u (i := 3940 + t) (v := v) (vtt (by omega) ht) (Or.inr (by omega))
  generalize hVa : vs (vs V (3926 + t) 3) (3940 + t) v = Va at *
  have hw : vpe V.1 Va.1 := by rw [← hVa]; exact (vpe.upd (by omega)).trans (vpe.upd (by omega))
  have hja : VJ 2048 Va := hj.ww hw (by rw [← hVa]; rfl)
  have hat : ∀ i, i ≠ 3926 + t → i ≠ 3940 + t → Va.1 i = V.1 i := fun i g1 g2 => by rw [← hVa, vs_ne g2, vs_ne g1]
  have hsa : Va.1 (3989 + t) = -1 ∨ ∃ k, k < 3 ∧ Va.1 (3989 + t) = nI k := by rw [hat _ (by omega) (by omega)]; exact hs
  obtain ⟨s1, b1, b2, b3⟩ := q_ga hja rfl a2 ht hsa
  obtain ⟨c1, c2⟩ := q_cnt (c := 0) (v := 1) b2 (by omega)
  have hga : ∀ i, i < 3923 → (vga Va t).1 i = Va.1 i := fun i hi => (vga_at hi).resolve_right (fun q => q hsa)
  have hlog : (vcn (vga Va t) 0 1).1 2067 = nI k := by rw [vcn_ne (by omega), hga _ (by omega), hat _ (by omega) (by omega)]; exact hk
  obtain ⟨s2, d1, d2, d3⟩ := q_log (a := 9) (b := nI t) (c := -1) (d := -1) c2 hlog (by omega)
  have hbe : ∀ c, (c = 4052 ∨ c = 4059) → (vlg1 (vcn (vga Va t) 0 1)).1 (c + t) = V.1 (c + t) := fun c hc => by
    rw [vlg1_ne (by omega), vcn_ne (by omega), vga_1, mj_upd_ne (by omega), mj_upd_ne (by omega), mj_upd_ne (by omega), mj_upd_ne (by omega), mj_upd_ne (by omega), mj_upd_ne (by omega)]
    have : (if Va.1 (3989 + t) = -1 then Va.1 else mj_upd Va.1 (3923 + (Va.1 (3989 + t)).toInt.toNat) (-1)) (c + t) = Va.1 (c + t) := by
      rcases hsa with e | ⟨k, hk, e⟩
      · rw [if_pos e]
      · rw [if_neg (by rw [e]; exact nI_m1 (by omega)), e, nI_int (by omega), mj_upd_ne (by omega)]
    rw [this, hat _ (by omega) (by omega)]
  have hw7 : vpe V.1 (vlg1 (vcn (vga Va t) 0 1)).1 := hw.trans (fun i hi => by rw [vlg1_ne (by omega), vcn_ne (by omega), hga _ (by omega)])
  have hp7 : Ipr (vlg1 (vcn (vga Va t) 0 1)).1 := hj.1.ww hw7
  obtain ⟨r, s3, e1, e2, e3, e4⟩ := hD.1 s2 (vlg1 (vcn (vga Va t) 0 1)) (V.1 (4052 + t)) (V.1 (4059 + t)) d2 hp7 ⟨z2, by rw [hw7 2051 (Or.inr (Or.inr rfl))]; exact hr, hz⟩ (hw7.tl.mpr hb)
  have hZ : Z V.1 (V.1 (4052 + t)) (V.1 (4059 + t)) v = decide (r ≠ 0 ∧ s3 111 3946 ≠ v) := by rw [← e4 v]; exact (hD.2 _ _ _ _ _ hj.1 hw7).symm
  have hF3 : RF s s3 := RF.trans (RF.uf (Or.inl rfl)) (RF.trans (RF.uf (Or.inl rfl)) (RF.trans b3 (RF.trans (RF.uf (Or.inl rfl)) (RF.trans d3 e3))))
  unfold gX11_isDone
  rw [li_add, ix_nI (by omega) (by omega), wr_eq, li_add, ix_nI (by omega) (by omega), wr_eq, if_pos a2.1, b1, cl_some, show gX11_counts s1 0 1 = _ from c1, cl_some, d1, cl_some, li_add, ix_nI (by omega) (by omega), li_add, ix_nI (by omega) (by omega), d2.tk (c := 4052) (by omega) ht, d2.tk (c := 4059) (by omega) ht, hbe 4052 (Or.inl rfl), hbe 4059 (Or.inr rfl), e1, cl_some]
  unfold vdn
  dsimp only
  rw [hVa, hZ]
  by_cases cr : r = 0
  · rw [if_pos cr]
    refine ⟨s3, rfl, ?_, hF3⟩
    rw [if_neg (by simp [cr])]
    exact e2
  · rw [if_neg cr]
    by_cases cv : s3 111 3946 = v
    · rw [if_pos cv]
      refine ⟨s3, rfl, ?_, hF3⟩
      rw [if_neg (by simp [cv])]
      exact e2
    · rw [if_neg cv, wr_eq]
      refine ⟨_, rfl, ?_, RF.trans hF3 (RF.uf (Or.inl rfl))⟩
      rw [if_pos (by simp [cr, cv])]
      exact q_inc e2 (Or.inl (by omega)) (Or.inl (by omega))
end
