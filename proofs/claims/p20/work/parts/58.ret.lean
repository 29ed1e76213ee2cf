section
/-! ===== the reference returns ===== -/
theorem RS.set {s : wt_S} {V : vV} {t i k : Nat} {F : vF} {v : Int32} (h : RS s V) (hj : VJ 2048 V) (ht : t < 6) (hi : i < V.2.2.1 t) (hk : k < vsz V.1 (V.2.2.2 t i).1) (h1 : F.1 = (V.2.2.2 t i).1) (h2 : F.2.1 = (V.2.2.2 t i).2.1) (h3 : F.2.2.1 = (V.2.2.2 t i).2.2.1) (h4 : F.2.2.2.1 = (V.2.2.2 t i).2.2.2.1)
    (hv : vsw V.1 (vpl V t) F k = v) (hs : ∀ k', k' ≠ k → vsw V.1 (vpl V t) F k' = vsw V.1 (vpl V t) (V.2.2.2 t i) k') : RS (wt_u s 111 (vpl V t i + 2 + k) v) (vfr V t i F) := by
  have hf := (hj.fit ht hi).2.2
  unfold vwd at hf
  refine h.uf ?_
  obtain ⟨g1, g2, mm, g3, g4⟩ := h.2
  refine ⟨fun i hi => ?_, vr_P_upd (Or.inl (by omega)) g2, mj_upd mm (vpl V t i + 2 + k) v, fun p hp => mj_upd_eq2 (Or.inr (g3 p hp)), g4.set hj ht hi hk h1 h2 h3 h4 hv hs⟩
  rw [mj_upd_ne (by have := (vtr_out hi).2; omega)]
  exact g1 i hi
theorem RS.num {s : wt_S} {V : vV} {t i k : Nat} {v : Int32} (h : RS s V) (hj : VJ 2048 V) (ht : t < 6) (hi : i < V.2.2.1 t) (hk : k < vsz V.1 (V.2.2.2 t i).1) (hb : ¬ bt (V.1 (2238 + (V.2.2.2 t i).1)) k) : RS (wt_u s 111 (vpl V t i + 2 + k) v) (vnu V t i k v) := by
  refine h.set hj ht hi hk rfl rfl rfl rfl ?_ (fun k' hk' => ?_)
  · unfold vsw
    show (if bt (V.1 (2238 + (V.2.2.2 t i).1)) k then _ else mj_upd (V.2.2.2 t i).2.2.2.2.1 k v k) = v
    rw [if_neg hb, mj_upd_self]
  · unfold vsw
    show (if bt (V.1 (2238 + (V.2.2.2 t i).1)) k' then _ else mj_upd (V.2.2.2 t i).2.2.2.2.1 k v k') = _
    rw [mj_upd_ne hk']
section
variable {s : wt_S} {V : vV} {t : Nat}
theorem q_fover {ks : Nat} {words : Int32} (h : RS s V) (ht : t < 6) (hks : ks < 3) (hs : V.1 (3989 + t) = nI ks) : ∃ s', gX11_foreignOver s (nI t) words = some ((), s') ∧ RS s' (vfv V t words) ∧ RF s s' := by
  obtain ⟨a1, a2⟩ := q_cnt (c := 9) (v := 1) h (by omega)
  have hon : (vcn V 9 1).1 (3996 + t) = V.1 (3996 + t) := vcn_ne (by omega)
  have b2 := a2.u (i := 3996 + t) (v := V.1 (3996 + t) - words) (vtt (by omega) ht) (Or.inr (by omega))
  have hF : RF s (wt_u (wt_u s 111 (2054 + 9) (V.1 (2054 + 9) + 1)) 111 (3996 + t) (V.1 (3996 + t) - words)) := RF.trans (RF.uf (Or.inl rfl)) (RF.uf (Or.inl rfl))
  unfold gX11_foreignOver
  rw [show gX11_counts s 9 1 = _ from a1, cl_some, if_pos a2.1, li_add, ix_nI (by omega) (by omega), ix_nI (by omega) (by omega), wr_eq, a2.tk (c := 3996) (by omega) ht, hon, ix_nI (by omega) (by omega), wt_u_self]
  unfold vfv
  dsimp only
  rw [vs_at]
  by_cases c : 0 < (V.1 (3996 + t) - words).toInt
  · rw [if_pos c, if_neg (by show ¬ _ ≤ (0 : Int); omega)]
    exact ⟨_, rfl, b2, hF⟩
  · rw [if_neg c, if_pos (by show _ ≤ (0 : Int); omega), li_add, ix_nI (by omega) (by omega), b2.tk (c := 3989) (by omega) ht, vs_ne (by omega), vcn_ne (by omega), hs, li_add, ix_nI (by omega) (by omega), wr_eq, ix_nI (by omega) (by omega), wr_eq]
    have e : (nI ks).toInt.toNat = ks := by rw [nI_int (by omega)]; rfl
    rw [e]
    exact ⟨_, rfl, (b2.u (i := 3923 + ks) (v := -1) (Or.inr (Or.inr (Or.inl (by omega)))) (Or.inr (by omega))).u (vtt (by omega) ht) (Or.inr (by omega)), RF.trans hF (RF.trans (RF.uf (Or.inl rfl)) (RF.uf (Or.inl rfl)))⟩
/-- what is known of a run on an endless stack: D answers, Z says whether the result is another one -/
def HD (D : wt_S → Int32 → Int32 → Option (Int32 × wt_S)) (Z : (Nat → Int32) → Int32 → Int32 → Int32 → Bool) : Prop := (∀ s V f a, RS s V → Ipr V.1 → (∃ z, V.1 2051 = nI z ∧ z ≤ 80) → tld V.1 f → ∃ r s', D s f a = some (r, s') ∧ RS s' V ∧ RF s s' ∧ ∀ v, Z V.1 f a v = decide (r ≠ 0 ∧ s' 111 3946 ≠ v)) ∧ ∀ w w' f a v, Ipr w → vpe w w' → Z w' f a v = Z w f a v
theorem q_done {D : wt_S → Int32 → Int32 → Option (Int32 × wt_S)} {Z : (Nat → Int32) → Int32 → Int32 → Int32 → Bool} {k z2 : Nat} {v : Int32} (hD : HD D Z) (h : RS s V) (hj : VJ 2048 V) (ht : t < 6) (hs : V.1 (3989 + t) = -1 ∨ ∃ k, k < 3 ∧ V.1 (3989 + t) = nI k) (hk : V.1 2067 = nI k) (hk2 : k < 2147483300) (hr : V.1 2051 = nI z2) (hz : z2 ≤ 80) (hb : tld V.1 (V.1 (4052 + t))) : ∃ s', gX11_isDone D s (nI t) v = some ((), s') ∧ RS s' (vdn Z V t v) ∧ RF s s' := by
  have a1 := h.u (i := 3926 + t) (v := 3) (vtt (by omega) ht) (Or.inr (by omega))
  have a2 := a1.u (i := 3940 + t) (v := v) (vtt (by omega) ht) (Or.inr (by omega))
  generalize hVa : vs (vs V (3926 + t) 3) (3940 + t) v = Va at *
  have hw : vpe V.1 Va.1 := by rw [← hVa]; exact (vpe.upd (by omega)).trans (vpe.upd (by omega))
  have hja : VJ 2048 Va := hj.ww hw (by rw [← hVa]; rfl)
  have hat : ∀ i, i ≠ 3926 + t → i ≠ 3940 + t → Va.1 i = V.1 i := fun i g1 g2 => by rw [← hVa, vs_ne g2, vs_ne g1]
  have hsa : Va.1 (3989 + t) = -1 ∨ ∃ k, k < 3 ∧ Va.1 (3989 + t) = nI k := by rw [hat _ (by omega) (by omega)]; exact hs
  obtain ⟨s1, b1, b2, b3⟩ := q_ga hja rfl a2 ht hsa
  obtain ⟨c1, c2⟩ := q_cnt (c := 0) (v := 1) b2 (by omega)
  have hga : ∀ i, i < 3923 → (vga Va t).1 i = Va.1 i := fun i hi => (vga_at hi).resolve_right (fun q => q hsa)
  have hlog : (vcn (vga Va t) 0 1).1 2067 = nI k := by rw [vcn_ne (by omega), hga _ (by omega), hat _ (by omega) (by omega)]; exact hk
  obtain ⟨s2, d1, d2, d3⟩ := q_log (a := 9) (b := nI t) (c := -1) (d := -1) c2 hlog (by omega)
  have hbe : ∀ c, (c = 4052 ∨ c = 4059) → (vlg1 (vcn (vga Va t) 0 1)).1 (c + t) = V.1 (c + t) := fun c hc => by
    rw [vlg1_ne (by omega), vcn_ne (by omega), vga_1, mj_upd_ne (by omega), mj_upd_ne (by omega), mj_upd_ne (by omega), mj_upd_ne (by omega), mj_upd_ne (by omega), mj_upd_ne (by omega)]
    have : (if Va.1 (3989 + t) = -1 then Va.1 else mj_upd Va.1 (3923 + (Va.1 (3989 + t)).toInt.toNat) (-1)) (c + t) = Va.1 (c + t) := by
      rcases hsa with e | ⟨k, hk, e⟩
      · rw [if_pos e]
      · rw [if_neg (by rw [e]; exact nI_m1 (by omega)), e, nI_int (by omega), mj_upd_ne (by omega)]
    rw [this, hat _ (by omega) (by omega)]
  have hw7 : vpe V.1 (vlg1 (vcn (vga Va t) 0 1)).1 := hw.trans (fun i hi => by rw [vlg1_ne (by omega), vcn_ne (by omega), hga _ (by omega)])
  have hp7 : Ipr (vlg1 (vcn (vga Va t) 0 1)).1 := hj.1.ww hw7
  obtain ⟨r, s3, e1, e2, e3, e4⟩ := hD.1 s2 (vlg1 (vcn (vga Va t) 0 1)) (V.1 (4052 + t)) (V.1 (4059 + t)) d2 hp7 ⟨z2, by rw [hw7 2051 (Or.inr (Or.inr rfl))]; exact hr, hz⟩ (hw7.tl.mpr hb)
  have hZ : Z V.1 (V.1 (4052 + t)) (V.1 (4059 + t)) v = decide (r ≠ 0 ∧ s3 111 3946 ≠ v) := by rw [← e4 v]; exact (hD.2 _ _ _ _ _ hj.1 hw7).symm
  have hF3 : RF s s3 := RF.trans (RF.uf (Or.inl rfl)) (RF.trans (RF.uf (Or.inl rfl)) (RF.trans b3 (RF.trans (RF.uf (Or.inl rfl)) (RF.trans d3 e3))))
  unfold gX11_isDone
  rw [li_add, ix_nI (by omega) (by omega), wr_eq, li_add, ix_nI (by omega) (by omega), wr_eq, if_pos a2.1, b1, cl_some, show gX11_counts s1 0 1 = _ from c1, cl_some, d1, cl_some, li_add, ix_nI (by omega) (by omega), li_add, ix_nI (by omega) (by omega), d2.tk (c := 4052) (by omega) ht, d2.tk (c := 4059) (by omega) ht, hbe 4052 (Or.inl rfl), hbe 4059 (Or.inr rfl), e1, cl_some]
  unfold vdn
  dsimp only
  rw [hVa, hZ]
  by_cases cr : r = 0
  · rw [if_pos cr]
    refine ⟨s3, rfl, ?_, hF3⟩
    rw [if_neg (by simp [cr])]
    exact e2
  · rw [if_neg cr]
    by_cases cv : s3 111 3946 = v
    · rw [if_pos cv]
      refine ⟨s3, rfl, ?_, hF3⟩
      rw [if_neg (by simp [cv])]
      exact e2
    · rw [if_neg cv, wr_eq]
      refine ⟨_, rfl, ?_, RF.trans hF3 (RF.uf (Or.inl rfl))⟩
      rw [if_pos (by simp [cr, cv])]
      exact q_inc e2 (Or.inl (by omega)) (Or.inl (by omega))
end
end
section
section
variable {s : wt_S} {V : vV} {t np z k : Nat}
theorem vlin_c {w : Nat → Int32} {f l : Nat} (hp : Ipr w) (hf : f < 10) (hl : l < vli w f) (hk : w (vco f l) = 6 ∨ w (vco f l) = 9) : ∃ c, w (vco f l + 3) = nI c ∧ c < vsz w f ∧ ¬ bt (w (2238 + f)) c := by
  have h := (hp f hf).2.2 l hl
  unfold vlin vcan at h
  rcases hk with e | e
  · exact (h.2.2.2.2.2.2.1 e).2.2
  · exact (h.2.2.2.2.2.2.2.2.2 e).2.2
/-- the frames that are left when the last one goes -/
theorem Geo.drop {w : Nat → Int32} {ps : List vP} {np n : Nat} {fr : Nat → vF} (h : Geo w ps t np (n + 1) fr) (h0 : (fr n).2.2.1 = 0) (hw : ∀ i, i < n → 1 ≤ vwd w (fr i).1) : ∀ i, i < n → (fr i).2.1 < (fr n).2.1 := by
  intro i hi
  cases n with
  | zero => omega
  | succ n =>
    have h1 := h.mono (i := i) (j := n) (by omega) (by omega)
    rcases h.2.2 n (by omega) with ⟨e1, e2⟩ | ⟨e1, e2⟩
    · have := hw n (by omega)
      omega
    · omega
theorem q_returns {D : wt_S → Int32 → Int32 → Option (Int32 × wt_S)} {Z : (Nat → Int32) → Int32 → Int32 → Int32 → Bool} {z2 : Nat} {v : Int32} (hD : HD D Z) (h : RS s V) (hP : Vpre 2048 V t np z) (h0 : 0 < V.2.2.1 t) (hhot : V.1 2049 = 0 ∨ V.1 2049 = 1) (hs : V.1 (3989 + t) = -1 ∨ ∃ k, k < 3 ∧ V.1 (3989 + t) = nI k) (hk : V.1 2067 = nI k) (hk2 : k < 2147483200) (hr : V.1 2051 = nI z2) (hz2 : z2 ≤ 80) (hb : tld V.1 (V.1 (4052 + t))) (hcb : 2048 ≤ (V.2.2.2 t (V.2.2.1 t - 1)).2.2.2.1 → ∃ ks, ks < 3 ∧ V.1 (3989 + t) = nI ks) :
    ∃ s', gX11_returns D s (nI t) v = some ((), s') ∧ RS s' (vrt Z V t v) ∧ RF s s' := by
  obtain ⟨hj, hc, ht, hz, h8, hzl, hl, hl2, hq⟩ := hP
  obtain ⟨n, hn⟩ : ∃ n, V.2.2.1 t = n + 1 := ⟨V.2.2.1 t - 1, by omega⟩
  obtain ⟨d1, d2, d3, d4, d5⟩ := hc.2.2.2.2.2.2.1 h0
  have hN := (hc.n hj hl).1
  rw [hn] at d1 d2 d3 d4 d5 hcb
  rw [Nat.add_sub_cancel] at d2 d4 d5 hcb
  generalize hFF : V.2.2.2 t n = F at *
  have hi : n < V.2.2.1 t := by omega
  have hft := (d3.1 n (by omega)).1
  rw [hFF] at hft
  have hfit := hj.fit ht hi
  rw [hFF] at hfit
  have hfit2 := hfit.2.2
  unfold vwd at hfit2
  have hwd := h.wd hj rfl ht hi
  rw [hFF] at hwd
  have hbk := d3.bk (i := n) (by omega)
  rw [hFF] at hbk
  have a1 := h.u (i := 3961 + t) (v := V.1 (3961 + t) - (V.1 (2228 + F.1) + 2)) (vtt (by omega) ht) (Or.inr (by omega))
  have a2 := a1.u (i := 3954 + t) (v := V.1 (3954 + t) - 1) (vtt (by omega) ht) (Or.inr (by omega))
  have hjv : VJ 2048 (vs (vs V (3961 + t) (V.1 (3961 + t) - (V.1 (2228 + F.1) + 2))) (3954 + t) (V.1 (3954 + t) - 1)) := VJ.vs (VJ.vs hj (by omega)) (by omega)
  have a3 := a2.nf (t := t) (n := n) hjv.pt (by show n ≤ V.2.2.1 t; omega)
  have hj1 : VJ 2048 (vnf (vs (vs V (3961 + t) (V.1 (3961 + t) - (V.1 (2228 + F.1) + 2))) (3954 + t) (V.1 (3954 + t) - 1)) t n) := hjv.nf (by show n ≤ V.2.2.1 t; omega)
  have hst : ∀ X, gX11_returns D s (nI t) v = X ↔ (if (if n = 0 then (-1 : Int32) else nI (vpl V t (n - 1))) ≠ -1 then (if V.1 (3933 + t) ≠ 1 then gX11_returns_108 D (wt_u (wt_u s 111 (3961 + t) (V.1 (3961 + t) - (V.1 (2228 + F.1) + 2))) 111 (3954 + t) (V.1 (3954 + t) - 1)) (nI t) v (if n = 0 then (-1 : Int32) else nI (vpl V t (n - 1))) (nI F.2.2.2.1) else (wt_cl (gX11_leaves (wt_u (wt_u s 111 (3961 + t) (V.1 (3961 + t) - (V.1 (2228 + F.1) + 2))) 111 (3954 + t) (V.1 (3954 + t) - 1)) (nI t) (nI (vpl V t n))) fun _ s16 => gX11_returns_108 D s16 (nI t) v (if n = 0 then (-1 : Int32) else nI (vpl V t (n - 1))) (nI F.2.2.2.1))) else (wt_cl (gX11_isDone D (wt_u (wt_u s 111 (3961 + t) (V.1 (3961 + t) - (V.1 (2228 + F.1) + 2))) 111 (3954 + t) (V.1 (3954 + t) - 1)) (nI t) v) fun _ s17 => some ((), s17))) = X := by
    intro X
    unfold gX11_returns
    rw [li_add, ix_nI (by omega) (by omega), h.tk (c := 3982) (by omega) ht, d4, q_word0 h.1 (by omega), cl_some, hwd.1, li_add2, q_word0 h.1 (by omega), cl_some, hwd.2.1, li_add, ix_nI (by omega) (by omega), li_add, ix_nI (by omega) (by omega), h.tk (c := 3975) (by omega) ht, d5, q_frameOf hft, cl_some, ix_nI (by omega) (by omega), wr_eq, h.tk (c := 3961) (by omega) ht, h.pr (c := 2228 + F.1) (by omega), li_add, ix_nI (by omega) (by omega), ix_nI (by omega) (by omega), wr_eq, wt_u_nk (show 3954 + t ≠ 3961 + t by omega), h.tk (c := 3954) (by omega) ht, if_neg (show ¬ (wt_u (wt_u s 111 (3961 + t) (V.1 (3961 + t) - (V.1 (2228 + F.1) + 2))) 111 (3954 + t) (V.1 (3954 + t) - 1)) 110 5 ≠ 0 by rw [wt_u_ne (by omega), wt_u_ne (by omega), h.1]; simp), li_add, ix_nI (by omega) (by omega), wt_u_nk (show 3933 + t ≠ 3954 + t by omega), wt_u_nk (show 3933 + t ≠ 3961 + t by omega), h.tk (c := 3933) (by omega) ht]
  have hF2 : RF s (wt_u (wt_u s 111 (3961 + t) (V.1 (3961 + t) - (V.1 (2228 + F.1) + 2))) 111 (3954 + t) (V.1 (3954 + t) - 1)) := RF.trans (RF.uf (Or.inl rfl)) (RF.uf (Or.inl rfl))
  generalize hVV : vnf (vs (vs V (3961 + t) (V.1 (3961 + t) - (V.1 (2228 + F.1) + 2))) (3954 + t) (V.1 (3954 + t) - 1)) t n = V1 at *
  have hat : ∀ i, i ≠ 3961 + t → i ≠ 3954 + t → V1.1 i = V.1 i := fun i g1 g2 => by rw [← hVV]; exact (vs_ne g2).trans (vs_ne g1)
  have hw1 : vpe V.1 V1.1 := fun i g => hat i (by omega) (by omega)
  have hn1 : V1.2.2.1 t = n := by rw [← hVV]; exact mj_upd_self
  have hf1 : V1.2.2.2 = V.2.2.2 := by rw [← hVV]; rfl
  have hp1 : V1.2.1 = V.2.1 := by rw [← hVV]; rfl
  have hvrt : vrt Z V t v = (if n = 0 then vdn Z V1 t v else (let V2 := if V.1 (3933 + t) = 1 then vlv V1 t F else V1; let V3 := vs (vs (vs V2 (3982 + t) (nI (vpl V2 t (n - 1)))) (3975 + t) (nI (F.2.2.2.1 % 1024 / 32))) (3968 + t) (nI (F.2.2.2.1 % 32)); let c := vco (F.2.2.2.1 % 1024 / 32) (F.2.2.2.1 % 32 - 1); let V4 := vnu V3 t (n - 1) (V.1 (c + 3)).toInt.toNat v; if 2048 ≤ F.2.2.2.1 then vfv V4 t (V.1 (c + 1)) else V4)) := by
    unfold vrt
    rw [hn, Nat.add_sub_cancel]
    dsimp only
    rw [hFF, hVV]
  rw [hvrt]
  simp only [hst]
  by_cases c0 : n = 0
  · rw [if_pos c0, if_neg (by simp), if_pos c0]
    obtain ⟨s', e1, e2, e3⟩ := q_done (v := v) hD a3 hj1 ht (by rw [hat _ (by omega) (by omega)]; exact hs) (by rw [hat _ (by omega) (by omega)]; exact hk) (by omega) (by rw [hat _ (by omega) (by omega)]; exact hr) hz2 (by rw [hat _ (by omega) (by omega)]; exact hw1.tl.mpr hb)
    exact ⟨s', by rw [e1, cl_some], e2, RF.trans hF2 e3⟩
  · have hpm : vpl V t (n - 1) < 2048 := by
      have := (hj.fit ht (show n - 1 < V.2.2.1 t by omega)).2.2
      unfold vwd at this
      omega
    rw [if_neg c0, if_neg c0, if_pos (nI_m1 (by omega))]
    -- the frame below
    obtain ⟨m, rfl⟩ : ∃ m, n = m + 1 := ⟨n - 1, by omega⟩
    simp only [Nat.add_sub_cancel] at hpm ⊢
    have hvb := d3.2.2.1 m (by omega)
    rw [hFF] at hvb
    obtain ⟨b1, b2, b3, b4, b5⟩ := hvb
    have hfm := (d3.1 m (by omega)).1
    have hlim := (hj.1.li hfm).2
    obtain ⟨c, c1, c2, c3⟩ := vlin_c (l := F.2.2.2.1 % 32 - 1) hj.1 hfm b4 (by rcases b5 with ⟨-, e, -⟩ | ⟨-, e, -⟩; exact Or.inl e; exact Or.inr e)
    -- behind leaving
    have h108 : ∀ (V2 : vV) (s2 : wt_S), RS s2 V2 → VJ 2048 V2 → V2.2.2 = V1.2.2 → (∀ i, i ≠ 2067 → i ≠ 4066 + t → V2.1 i = V1.1 i) → vpl V2 t m = vpl V t m → RF s s2 → ∃ s', gX11_returns_108 D s2 (nI t) v (nI (vpl V t m)) (nI F.2.2.2.1) = some ((), s') ∧ RS s' (let V3 := vs (vs (vs V2 (3982 + t) (nI (vpl V2 t m))) (3975 + t) (nI (F.2.2.2.1 % 1024 / 32))) (3968 + t) (nI (F.2.2.2.1 % 32)); let c := vco (F.2.2.2.1 % 1024 / 32) (F.2.2.2.1 % 32 - 1); let V4 := vnu V3 t m (V.1 (c + 3)).toInt.toNat v; if 2048 ≤ F.2.2.2.1 then vfv V4 t (V.1 (c + 1)) else V4) ∧ RF s s' := by
      intro V2 s2 g1 g2 g3 g4 g5 g6
      have k1 := g1.u (i := 3982 + t) (v := nI (vpl V2 t m)) (vtt (by omega) ht) (Or.inr (by omega))
      have k2 := k1.u (i := 3975 + t) (v := nI (F.2.2.2.1 % 1024 / 32)) (vtt (by omega) ht) (Or.inr (by omega))
      have k3 := k2.u (i := 3968 + t) (v := nI (F.2.2.2.1 % 32)) (vtt (by omega) ht) (Or.inr (by omega))
      have hj3 : VJ 2048 (vs (vs (vs V2 (3982 + t) (nI (vpl V2 t m))) (3975 + t) (nI (F.2.2.2.1 % 1024 / 32))) (3968 + t) (nI (F.2.2.2.1 % 32))) := VJ.vs (VJ.vs (VJ.vs g2 (by omega)) (by omega)) (by omega)
      have e22 : V2.2.2.1 t = m + 1 := by rw [g3]; exact hn1
      have e23 : V2.2.2.2 = V.2.2.2 := by rw [g3, hf1]
      generalize hV3 : vs (vs (vs V2 (3982 + t) (nI (vpl V2 t m))) (3975 + t) (nI (F.2.2.2.1 % 1024 / 32))) (3968 + t) (nI (F.2.2.2.1 % 32)) = V3 at *
      have hV3w : ∀ i, i ≠ 2067 → i ≠ 4066 + t → i ≠ 3982 + t → i ≠ 3975 + t → i ≠ 3968 + t → V3.1 i = V1.1 i := fun i q1 q2 q3 q4 q5 => by rw [← hV3, vs_ne q5, vs_ne q4, vs_ne q3]; exact g4 i q1 q2
      have hV3p : ∀ i, 2228 ≤ i → i < 2898 → V3.1 i = V.1 i := fun i q1 q2 => by rw [hV3w i (by omega) (by omega) (by omega) (by omega) (by omega), hat i (by omega) (by omega)]
      have hV32 : V3.2.2.2 = V.2.2.2 := by rw [← hV3]; exact e23
      have hV3n : V3.2.2.1 t = m + 1 := by rw [← hV3]; exact e22
      have hV3l : vpl V3 t m = vpl V t m := by rw [← g5, ← hV3]; rfl
      have hszm : vsz V3.1 (V.2.2.2 t m).1 = vsz V.1 (V.2.2.2 t m).1 := by unfold vsz; rw [hV3p _ (by omega) (by omega)]
      have k4 : RS (wt_u (wt_u (wt_u (wt_u s2 111 (3982 + t) (nI (vpl V2 t m))) 111 (3975 + t) (nI (F.2.2.2.1 % 1024 / 32))) 111 (3968 + t) (nI (F.2.2.2.1 % 32))) 111 (vpl V3 t m + 2 + c) v) (vnu V3 t m c v) := k3.num hj3 ht (by omega) (by rw [hV32, hszm]; exact c2) (by rw [hV32, hV3p _ (by omega) (by omega)]; exact c3)
      have hcn : (V.1 (vco (F.2.2.2.1 % 1024 / 32) (F.2.2.2.1 % 32 - 1) + 3)).toInt.toNat = c := by
        rw [b2, c1, nI_int (by have := (hj.1.sz hfm).2; omega)]
        rfl
      have hszc := (hj.1.sz hfm).2
      have hpl8 := (hj.fit ht (show m < V.2.2.1 t by omega)).2.2
      unfold vwd at hpl8
      have hF4 : RF s (wt_u (wt_u (wt_u (wt_u s2 111 (3982 + t) (nI (vpl V2 t m))) 111 (3975 + t) (nI (F.2.2.2.1 % 1024 / 32))) 111 (3968 + t) (nI (F.2.2.2.1 % 32))) 111 (vpl V3 t m + 2 + c) v) := RF.trans g6 (RF.trans (RF.uf (Or.inl rfl)) (RF.trans (RF.uf (Or.inl rfl)) (RF.trans (RF.uf (Or.inl rfl)) (RF.uf (Or.inl rfl)))))
      dsimp only
      rw [hcn]
      unfold gX11_returns_108
      obtain ⟨bb1, bb2, bb3, bb4, -⟩ := bk_at hbk
      rw [bb3, bb4, li_add, ix_nI (by omega) (by omega), wr_eq, li_add, ix_nI (by omega) (by omega), wr_eq, li_add, ix_nI (by omega) (by omega), wr_eq, ix_nI (by omega) (by omega), ix_nI (by omega) (by omega), wt_u_self, wt_u_nk (show 3975 + t ≠ 3968 + t by omega), wt_u_self, li_sub (by omega), q_codeAt, cl_some, li_add2, ix_nI (by omega) (by omega), ← g5, k3.pr (c := 2258 + 4 * (16 * (F.2.2.2.1 % 1024 / 32) + (F.2.2.2.1 % 32 - 1)) + 3) (by omega), hV3p _ (by omega) (by omega), show V.1 (2258 + 4 * (16 * (F.2.2.2.1 % 1024 / 32) + (F.2.2.2.1 % 32 - 1)) + 3) = nI c by rw [b2]; exact c1, li_add2, nI_add, q_lays0 k3.1 (by omega), cl_some, show vpl V2 t m + 2 + c = vpl V3 t m + 2 + c by rw [g5, hV3l]]
      by_cases cc : 2048 ≤ F.2.2.2.1
      · obtain ⟨ks, ks1, ks2⟩ := hcb cc
        have hks4 : (vnu V3 t m c v).1 (3989 + t) = nI ks := by
          show V3.1 (3989 + t) = _
          rw [hV3w _ (by omega) (by omega) (by omega) (by omega) (by omega), hat _ (by omega) (by omega)]
          exact ks2
        obtain ⟨s', f1, f2, f3⟩ := q_fover (words := V.1 (vco (F.2.2.2.1 % 1024 / 32) (F.2.2.2.1 % 32 - 1) + 1)) k4 ht ks1 hks4
        rw [if_pos cc, if_neg (fun e => by have := bb2.mp e; omega), li_add2, ix_nI (by omega) (by omega), k4.pr (c := 2258 + 4 * (16 * (F.2.2.2.1 % 1024 / 32) + (F.2.2.2.1 % 32 - 1)) + 1) (by omega)]
        refine ⟨s', ?_, f2, RF.trans hF4 f3⟩
        rw [show (vnu V3 t m c v).1 (2258 + 4 * (16 * (F.2.2.2.1 % 1024 / 32) + (F.2.2.2.1 % 32 - 1)) + 1) = V.1 (vco (F.2.2.2.1 % 1024 / 32) (F.2.2.2.1 % 32 - 1) + 1) from hV3p _ (by omega) (by omega), f1, cl_some]
      · rw [if_neg cc, if_pos (bb2.mpr (by omega))]
        exact ⟨_, rfl, k4, hF4⟩
    by_cases cm : V.1 (3933 + t) = 1
    · rw [if_neg (by rw [cm]; simp), if_pos cm]
      have hi1 : Itp V1.2.1 t np := by rw [hp1]; exact hc.2.2.2.1
      have hof : F.2.2.1 = 0 → np ≠ 1 → vnof V1 t (np - 1) := fun e1 _ i gi => by
        rw [hn1] at gi
        rw [hf1]
        have := d1.drop (by rw [hFF]; exact e1) (fun i _ => by unfold vwd; omega) i gi
        rw [hFF] at this
        omega
      have hlt : ∀ i, i < V1.2.2.1 t → (V1.2.2.2 t i).2.1 < np := fun i gi => by
        rw [hn1] at gi
        rw [hf1]
        exact (d1.1 i (by omega)).1
      have hk1 : V1.1 2067 = nI k := by rw [hat _ (by omega) (by omega)]; exact hk
      obtain ⟨s2, l1, l2, l3⟩ := q_leaves (F := F) a3 hj1.2.1 hj1.2.2.1 hj1.pt ht (by rw [hat _ (by omega) (by omega)]; exact hc.2.1) hc.2.2.1 hi1 d2 (by unfold vpl at hfit2; rw [hFF] at hfit2; omega) hof (fun m' hm' i gi e => by have := hlt i gi; omega) (by rw [hat _ (by omega) (by omega)]; exact hhot) hk1 (by omega)
      obtain ⟨v1, v2, -, -, v5, np2, -, -, v8⟩ := vlv_inv (F := F) (z := 0) (lim := 2048) hj1 ht (by rw [hat _ (by omega) (by omega)]; exact hc.2.1) hc.2.2.1 hi1 d2 hof hlt hk1 (fun _ _ => Nat.zero_le _)
      have hplm : vpl (vlv V1 t F) t m = vpl V t m := by
        have := (v8.2 m (by rw [hn1]; omega)).2.1
        unfold vpl
        rw [show (vlv V1 t F).2.2.2 = V.2.2.2 by rw [v2, hf1]]
        rw [hf1, hp1] at this
        rw [this]
      obtain ⟨s', o1, o2, o3⟩ := h108 (vlv V1 t F) s2 l2 v1 v2 v5 hplm (RF.trans hF2 l3)
      refine ⟨s', ?_, o2, o3⟩
      have hvpl : vpl V t (m + 1) = vat V1.2.1 t F.2.1 + F.2.2.1 := by unfold vpl; rw [hFF, hp1]
      rw [hvpl, l1, cl_some]
      exact o1
    · rw [if_pos cm, if_neg cm]
      exact h108 V1 _ a3 hj1 rfl (fun _ _ _ => rfl) (by unfold vpl; rw [hf1, hp1]) hF2
end
end
section
/-! ===== sides, foreign calls, quiet, steps: what is done ===== -/
def vfs (w : Nat → Int32) : Nat → Nat → Option Nat
  | 0, _ => none
  | m + 1, k => if w (3923 + k) = -1 then some k else vfs w m (k + 1)
def vsd (V : vV) (t : Nat) : Option vV := if V.1 (3989 + t) = -1 then (match vfs V.1 (V.1 2052).toInt.toNat 0 with
  | none => none
  | some k => some (vs (vs V (3923 + k) (nI t)) (3989 + t) (nI k))) else some V
def vhs (V : vV) (t : Nat) (words : Int32) : Bool × vV := match vsd V t with
  | none => (false, vcn (vs (vs V (3926 + t) 2) (3968 + t) (V.1 (3968 + t) - 1)) 10 1)
  | some V1 =>
    let V2 := vs V1 (3926 + t) 1
    if (V2.1 (3996 + t) + words).toInt ≤ (V2.1 2053).toInt then (true, vs V2 (3996 + t) (V2.1 (3996 + t) + words)) else (false, vot V2 t)
/-- the last frame -/
def vlf (V : vV) (t : Nat) : vF := V.2.2.2 t (V.2.2.1 t - 1)
def vnm (F : vF) (x : Int32) : Int32 := F.2.2.2.2.1 x.toInt.toNat
def vfg (lim : Nat) (V : vV) (t : Nat) (words f slot : Int32) : vV := match vhs V t words with
  | (false, V1) => V1
  | (true, V1) => if tld V1.1 f then vcl lim V1 t f.toInt.toNat (32 * (vlf V1 t).1 + (V1.1 (3968 + t)).toInt.toNat + 2048) (vha V1.1 f.toInt.toNat (vlf V1 t) slot.toInt.toNat)
    else vfv (vnu V1 t (V1.2.2.1 t - 1) slot.toInt.toNat (3 * vnm (vlf V1 t) slot + 1)) t words
def vkp (V : vV) (t : Nat) : Nat := vuse V t + if vlc V t then (V.1 2051).toInt.toNat else 0
/-- quiet: whether something was made smaller -/
def vqu (lim : Nat) (V : vV) (t : Nat) : Bool × vV :=
  if V.1 (3933 + t) = 1 then ((V.2.1.find? (vkey t 1000)).isSome, vsp V t)
  else if vln V.2.1 t 0 < 4 * vkp V t ∨ vln V.2.1 t 0 / 2 < (V.1 2048).toInt.toNat then (false, V)
  else match vgap lim 0 V.2.1 (vln V.2.1 t 0 / 2) with
    | none => (false, V)
    | some g => (true, vlg1 (vcn (vinc (vmv V t g (vln V.2.1 t 0 / 2)) (4031 + t)) 7 1))
/-- a line is done: kind, a, b, c -/
def vln1 (lim : Nat) (Z : (Nat → Int32) → Int32 → Int32 → Int32 → Bool) (V : vV) (t l : Nat) (kind a b c : Int32) : vV :=
  let i := V.2.2.1 t - 1
  let F := vlf V t
  if kind = 0 then vnu V t i a.toInt.toNat b
  else if kind = 1 then vnu V t i a.toInt.toNat (vnm F b + vnm F c)
  else if kind = 2 then vnu V t i a.toInt.toNat (if (vnm F c).toInt ≤ (vnm F b).toInt then 0 else 1)
  else if kind = 3 then vpo V t i a.toInt.toNat (some (i, b.toInt.toNat))
  else if kind = 4 then vnu V t i a.toInt.toNat (match F.2.2.2.2.2 b.toInt.toNat with
    | none => 0
    | some q => (V.2.2.2 t q.1).2.2.2.2.1 q.2)
  else if kind = 5 then (match F.2.2.2.2.2 a.toInt.toNat with
    | none => V
    | some q => vnu V t q.1 q.2 (vnm F b))
  else if kind = 6 then (if tld V.1 a then vcl lim V t a.toInt.toNat (32 * F.1 + l + 1) (vha V.1 a.toInt.toNat F b.toInt.toNat) else vnu V t i c.toInt.toNat 0)
  else if kind = 7 then (if (vnm F a).toInt ≤ 0 then V else vs V (3968 + t) b)
  else if kind = 8 then vrt Z V t (vnm F a)
  else if kind = 9 then vfg lim V t a b c
  else (vqu lim V t).2
def vst (lim : Nat) (Z : (Nat → Int32) → Int32 → Int32 → Int32 → Bool) (V : vV) (t : Nat) : vV :=
  let V1 := vcn (vinc V (3947 + t)) 2 1
  let f := (vlf V t).1
  let l := (V.1 (3968 + t)).toInt.toNat
  if l < vli V.1 f then vln1 lim Z (vs V1 (3968 + t) (V1.1 (3968 + t) + 1)) t l (V.1 (vco f l)) (V.1 (vco f l + 1)) (V.1 (vco f l + 2)) (V.1 (vco f l + 3))
  else vrt Z V1 t 0
section
variable {s : wt_S} {V : vV} {t np z k : Nat}
theorem vfs_lt {w : Nat → Int32} : ∀ {m k x : Nat}, vfs w m k = some x → k ≤ x ∧ x < k + m ∧ w (3923 + x) = -1 := by
  intro m
  induction m with
  | zero => intro k x h; cases h
  | succ m ih =>
    intro k x h
    unfold vfs at h
    split at h
    · rename_i c
      cases h
      exact ⟨Nat.le_refl _, by omega, c⟩
    · have := ih h
      exact ⟨by omega, by omega, this.2.2⟩
theorem q_freeSide {z : Nat} (h : RS s V) (hz : V.1 2052 = nI z) (hz3 : z ≤ 3) : gX11_freeSide s = some (oI (vfs V.1 z 0), s) := by
  have loop : ∀ (m k fu : Nat), k + m = z → m < fu → gX11_freeSide_2 fu s (nI k) = some (oI (vfs V.1 m k), s) := by
    intro m
    induction m with
    | zero =>
      intro k fu hk hfu
      obtain ⟨fu, rfl⟩ : ∃ m, fu = m + 1 := ⟨fu - 1, by omega⟩
      rw [gX11_freeSide_2, h.se (by omega), hz, nI_int (by omega), nI_int (by omega), if_pos (by omega)]
      rfl
    | succ m ih =>
      intro k fu hk hfu
      obtain ⟨fu, rfl⟩ : ∃ m, fu = m + 1 := ⟨fu - 1, by omega⟩
      rw [gX11_freeSide_2, h.se (by omega), hz, nI_int (by omega), nI_int (by omega), if_neg (by omega), li_add, ix_nI (by omega) (by omega), h.2.at (Or.inr (Or.inr (Or.inl (by omega)))), nI_1, ih (k + 1) fu (by omega) (by omega)]
      have ev : vfs V.1 (m + 1) k = if V.1 (3923 + k) = -1 then some k else vfs V.1 m (k + 1) := by rw [vfs]
      rw [ev]
      by_cases c : V.1 (3923 + k) = -1
      · rw [if_neg (by simp [c]), if_pos c]
        rfl
      · rw [if_pos c, if_neg c]
  exact loop z 0 wt_N (by omega) (by unfold wt_N; omega)
theorem vhs_0 {words : Int32} (h : vsd V t = none) : vhs V t words = (false, vcn (vs (vs V (3926 + t) 2) (3968 + t) (V.1 (3968 + t) - 1)) 10 1) := by
  unfold vhs
  rw [h]
theorem vhs_1 {words : Int32} {V1 : vV} (h : vsd V t = some V1) (c : ((vs V1 (3926 + t) 1).1 (3996 + t) + words).toInt ≤ ((vs V1 (3926 + t) 1).1 2053).toInt) : vhs V t words = (true, vs (vs V1 (3926 + t) 1) (3996 + t) ((vs V1 (3926 + t) 1).1 (3996 + t) + words)) := by
  unfold vhs
  rw [h]
  dsimp only
  rw [if_pos c]
theorem vhs_2 {words : Int32} {V1 : vV} (h : vsd V t = some V1) (c : ¬ ((vs V1 (3926 + t) 1).1 (3996 + t) + words).toInt ≤ ((vs V1 (3926 + t) 1).1 2053).toInt) : vhs V t words = (false, vot (vs V1 (3926 + t) 1) t) := by
  unfold vhs
  rw [h]
  dsimp only
  rw [if_neg c]
theorem vsd_J {lim : Nat} {V1 : vV} (hj : VJ lim V) (ht : t < 6) (h : vsd V t = some V1) (hz : (V.1 2052).toInt.toNat ≤ 3) (hs : V.1 (3989 + t) = -1 ∨ ∃ k, k < 3 ∧ V.1 (3989 + t) = nI k) : VJ lim V1 ∧ V1.2 = V.2 ∧ (∃ k, k < 3 ∧ V1.1 (3989 + t) = nI k) ∧ ∀ i, i ≠ 3989 + t → (i < 3923 ∨ 3926 ≤ i) → V1.1 i = V.1 i := by
  unfold vsd at h
  split at h
  · split at h
    · cases h
    · rename_i x e
      cases h
      have := vfs_lt e
      refine ⟨VJ.vs (VJ.vs hj (by omega)) (by omega), rfl, ⟨x, by omega, vs_at⟩, fun i g1 g2 => by rw [vs_ne g1, vs_ne (by omega)]⟩
  · rename_i c
    cases h
    exact ⟨hj, rfl, hs.resolve_left c, fun _ _ _ => rfl⟩
theorem q_hasSide {words : Int32} {k z : Nat} (h : RS s V) (hj : VJ 2048 V) (ht : t < 6) (hz : V.1 2052 = nI z) (hz3 : z ≤ 3) (hs : V.1 (3989 + t) = -1 ∨ ∃ k, k < 3 ∧ V.1 (3989 + t) = nI k) (hk : V.1 2067 = nI k) (hk2 : k < 2147483200) : ∃ s', gX11_hasSide s (nI t) words = some (rb ((vhs V t words).1 = true), s') ∧ RS s' (vhs V t words).2 ∧ RF s s' := by
  have hzz : (V.1 2052).toInt.toNat = z := by rw [hz, nI_int (by omega)]; rfl
  have h89 : ∀ (V1 : vV) (s1 : wt_S), vsd V t = some V1 → RS s1 V1 → RF s s1 → ∃ s', gX11_hasSide_89 s1 (nI t) words = some (rb ((vhs V t words).1 = true), s') ∧ RS s' (vhs V t words).2 ∧ RF s s' := by
    intro V1 s1 e g1 g2
    obtain ⟨j1, j2, ⟨ks, ks1, ks2⟩, j4⟩ := vsd_J hj ht e (by omega) hs
    have a1 := g1.u (i := 3926 + t) (v := 1) (vtt (by omega) ht) (Or.inr (by omega))
    unfold gX11_hasSide_89
    rw [li_add, ix_nI (by omega) (by omega), wr_eq, li_add, ix_nI (by omega) (by omega), a1.tk (c := 3996) (by omega) ht, a1.se (c := 2053) (by omega)]
    by_cases c : ((vs V1 (3926 + t) 1).1 (3996 + t) + words).toInt ≤ ((vs V1 (3926 + t) 1).1 2053).toInt
    · rw [if_pos c, vhs_1 e c, ix_nI (by omega) (by omega), ix_nI (by omega) (by omega), wr_eq, a1.tk (c := 3996) (by omega) ht, rb_pos rfl]
      exact ⟨_, rfl, a1.u (vtt (by omega) ht) (Or.inr (by omega)), RF.trans g2 (RF.trans (RF.uf (Or.inl rfl)) (RF.uf (Or.inl rfl)))⟩
    · obtain ⟨s2, o1, o2, o3⟩ := q_out (k := k) a1 (VJ.vs j1 (by omega)) rfl ht (Or.inr ⟨ks, ks1, by rw [vs_ne (by omega)]; exact ks2⟩) (by rw [vs_ne (by omega), j4 _ (by omega) (by omega)]; exact hk) (by omega)
      rw [if_neg c, vhs_2 e c, o1, cl_some, rb_neg (by simp)]
      exact ⟨_, rfl, o2, RF.trans g2 (RF.trans (RF.uf (Or.inl rfl)) o3)⟩
  unfold gX11_hasSide
  rw [if_pos h.1, li_add, ix_nI (by omega) (by omega), h.tk (c := 3989) (by omega) ht]
  by_cases c : V.1 (3989 + t) = -1
  · rw [if_neg (by simp [c]), q_freeSide h hz hz3, cl_some]
    cases e : vfs V.1 z 0 with
    | none =>
      have hsd : vsd V t = none := by unfold vsd; rw [if_pos c, hzz, e]
      rw [vhs_0 hsd, oI_none, if_neg (by simp), li_add, ix_nI (by omega) (by omega), wr_eq, li_add, ix_nI (by omega) (by omega), ix_nI (by omega) (by omega), wr_eq, wt_u_nk (show 3968 + t ≠ 3926 + t by omega), h.tk (c := 3968) (by omega) ht]
      have a1 := (h.u (i := 3926 + t) (v := 2) (vtt (by omega) ht) (Or.inr (by omega))).u (i := 3968 + t) (v := V.1 (3968 + t) - 1) (vtt (by omega) ht) (Or.inr (by omega))
      obtain ⟨b1, b2⟩ := q_cnt (c := 10) (v := 1) a1 (by omega)
      rw [show gX11_counts (wt_u (wt_u s 111 (3926 + t) 2) 111 (3968 + t) (V.1 (3968 + t) - 1)) 10 1 = _ from b1, cl_some, rb_neg (by simp)]
      exact ⟨_, rfl, b2, RF.trans (RF.uf (Or.inl rfl)) (RF.trans (RF.uf (Or.inl rfl)) (RF.uf (Or.inl rfl)))⟩
    | some x =>
      have hx := vfs_lt e
      have hsd : vsd V t = some (vs (vs V (3923 + x) (nI t)) (3989 + t) (nI x)) := by unfold vsd; rw [if_pos c, hzz, e]
      have a1 := (h.u (i := 3923 + x) (v := nI t) (Or.inr (Or.inr (Or.inl (by omega)))) (Or.inr (by omega))).u (i := 3989 + t) (v := nI x) (vtt (by omega) ht) (Or.inr (by omega))
      rw [oI_some, if_pos (nI_m1 (by omega)), li_add, ix_nI (by omega) (by omega), wr_eq, ix_nI (by omega) (by omega), wr_eq]
      exact h89 _ _ hsd a1 (RF.trans (RF.uf (Or.inl rfl)) (RF.uf (Or.inl rfl)))
  · have hsd : vsd V t = some V := by unfold vsd; rw [if_neg c]
    rw [if_pos c]
    exact h89 V s hsd h RF.refl
end
end
section
/-! ===== the reference: quiet, foreign calls ===== -/
section
variable {s : wt_S} {V : vV} {t np z k : Nat}
theorem vqu_l (m : V.1 (3933 + t) = 1) {lim : Nat} : vqu lim V t = ((V.2.1.find? (vkey t 1000)).isSome, vsp V t) := by
  unfold vqu
  rw [if_pos m]
theorem vqu_0 (m : V.1 (3933 + t) = 0) {lim : Nat} (c : vln V.2.1 t 0 < 4 * vkp V t ∨ vln V.2.1 t 0 / 2 < (V.1 2048).toInt.toNat ∨ vgap lim 0 V.2.1 (vln V.2.1 t 0 / 2) = none) : vqu lim V t = (false, V) := by
  unfold vqu
  rw [if_neg (by rw [m]; decide)]
  split
  · rfl
  · rename_i g
    have : vgap lim 0 V.2.1 (vln V.2.1 t 0 / 2) = none := by
      rcases c with c | c | c
      · exact absurd (Or.inl c) g
      · exact absurd (Or.inr c) g
      · exact c
    rw [this]
theorem vqu_1 (m : V.1 (3933 + t) = 0) {lim g : Nat} (c1 : ¬ vln V.2.1 t 0 < 4 * vkp V t) (c2 : ¬ vln V.2.1 t 0 / 2 < (V.1 2048).toInt.toNat) (e : vgap lim 0 V.2.1 (vln V.2.1 t 0 / 2) = some g) : vqu lim V t = (true, vlg1 (vcn (vinc (vmv V t g (vln V.2.1 t 0 / 2)) (4031 + t)) 7 1)) := by
  unfold vqu
  rw [if_neg (by rw [m]; decide), if_neg (fun q => q.elim c1 c2), e]
theorem half_all : ∀ a b : Fin 64, (nI (64 * a.val + b.val)) / 2 = nI ((64 * a.val + b.val) / 2) := by decide +kernel
theorem nI_half {a : Nat} (h : a < 4096) : nI a / 2 = nI (a / 2) := by
  have := half_all ⟨a / 64, by omega⟩ ⟨a % 64, by omega⟩
  rw [show 64 * (a / 64) + a % 64 = a by omega] at this
  exact this
theorem q_keptOf {z2 : Nat} (h : RS s V) (hj : VJ 2048 V) (hc : Ico V t np) (ht : t < 6) (hr : V.1 2051 = nI z2) (hz : z2 ≤ 80) : gX11_keptOf s (nI t) = some (nI (vkp V t), s) ∧ vkp V t ≤ 2200 := by
  have hN := hc.n hj (by omega)
  have hu := vuse_of hc.2.2.2.2.2.1 (by omega)
  have hr2 : (V.1 2051).toInt.toNat = z2 := by rw [hr, nI_int (by omega)]; rfl
  unfold gX11_keptOf gX11_keptOf_30 vkp
  rw [li_add, ix_nI (by omega) (by omega), q_isCovered h hj rfl hc ht, cl_some, if_rb, h.tk (c := 3961) (by omega) ht, hc.2.2.2.2.2.1, h.se (c := 2051) (by omega), hu, hr, nI_int (by omega)]
  by_cases c : vlc V t = true
  · rw [if_pos c, if_pos c, nI_add]
    exact ⟨rfl, by show _ + z2 ≤ 2200; omega⟩
  · rw [if_neg c, if_neg c, Int32.add_zero]
    exact ⟨rfl, by omega⟩
theorem q_quiets {z2 : Nat} (h : RS s V) (hP : Vpre 2048 V t np z) (hr : V.1 2051 = nI z2) (hz2 : z2 ≤ 80) (hk : V.1 2067 = nI k) (hk2 : k < 2147483300) : ∃ s', gX11_quiets s (nI t) = some (rb ((vqu 2048 V t).1 = true), s') ∧ RS s' (vqu 2048 V t).2 ∧ RF s s' := by
  obtain ⟨hj, hc, ht, hz, h8, hzl, hl, hl2, hq⟩ := hP
  have hN := hc.n hj hl
  have hz' : (V.1 2048).toInt.toNat = z := by rw [hz, nI_int (by omega)]; rfl
  unfold gX11_quiets
  rw [if_pos h.1, li_add, ix_nI (by omega) (by omega), h.tk (c := 3933) (by omega) ht]
  rcases hc.2.2.2.2.1 with ⟨m0, m1, m2⟩ | m0
  · subst m1
    obtain ⟨x, q, x1, x2, x3, x4, x5, x6, x7, x8⟩ := vfi_some (hc.2.2.2.1.1 0 (by omega))
    have hl256 := h.2.2.1.2.1
    have hqo := hj.2.1.2 q x4
    have hpo : gX11_pieceOf s (nI t) 0 = some (oI (some x), s) := by
      have := q_pieceOf (t := t) (number := 0) h.2.2.1 hj.2.1 ht (by omega)
      rw [x1] at this
      exact this
    obtain ⟨hkp1, hkp2⟩ := q_keptOf h hj hc ht hr hz2
    rw [if_pos (by rw [m0]; decide), hpo, cl_some, oI_some, li_add, ix_nI (by omega) (by omega), hkp1, cl_some, (h.2.2.1.2.2 x q x2).2.1, li_mul, nI_int (by omega), nI_int (by omega), nI_half (by omega), h.se (c := 2048) (by omega), hz, nI_int (by omega), nI_int (by omega)]
    by_cases c1 : vln V.2.1 t 0 < 4 * vkp V t
    · rw [vqu_0 m0 (Or.inl c1), if_pos (by rw [x8] at c1; omega), rb_neg (by simp)]
      exact ⟨s, rfl, h, RF.refl⟩
    · rw [x8] at c1
      rw [if_neg (by omega)]
      by_cases c2 : q.2.1 / 2 < z
      · rw [vqu_0 m0 (Or.inr (Or.inl (by rw [x8, hz']; exact c2))), if_pos (by omega), rb_neg (by simp)]
        exact ⟨s, rfl, h, RF.refl⟩
      · rw [if_neg (by omega)]
        have hu : vus V.1 (V.2.2.2 t) (V.2.2.1 t) ≤ q.2.1 / 2 := by
          have := vuse_of hc.2.2.2.2.2.1 (by omega)
          unfold vkp at c1
          omega
        obtain ⟨mv1, mv2⟩ := q_moves (words := q.2.1 / 2) h hj hc ht ⟨by omega, by omega⟩ hu
        cases e : vgap 2048 0 V.2.1 (q.2.1 / 2) with
        | none =>
          rw [vqu_0 m0 (Or.inr (Or.inr (by rw [x8]; exact e))), mv1 e, cl_some, if_neg (by simp), rb_neg (by simp)]
          exact ⟨s, rfl, h, RF.refl⟩
        | some g =>
          rw [vqu_1 m0 (by rw [x8]; exact c1) (by rw [x8, hz']; exact c2) (by rw [x8]; exact e), x8]
          obtain ⟨s1, a1, a2, a3⟩ := mv2 g e
          have b2 := q_inc (i := 4031 + t) a2 (vtt (by omega) ht) (Or.inr (by omega))
          obtain ⟨c1', c2'⟩ := q_cnt (c := 7) (v := 1) b2 (by omega)
          have hgw := vgap0 hj.2.1 e
          have hvo := vo_mv (t := t) (g := g) (words := q.2.1 / 2) hj ht (by omega) hgw
          have hmem : ∃ p ∈ (vmv V t g (q.2.1 / 2)).2.1, p.2.2.1 = t ∧ p.2.2.2 = 0 := ⟨(g, q.2.1 / 2, t, 0), by rw [vmv_2]; exact vins_mem.mpr (Or.inl rfl), rfl, rfl⟩
          obtain ⟨y, p, y1, y2, y3, -⟩ := vfi_some hmem
          have hpo2 : gX11_pieceOf (wt_u (wt_u s1 111 (4031 + t) (s1 111 (4031 + t) + 1)) 111 (2054 + 7) ((vinc (vmv V t g (q.2.1 / 2)) (4031 + t)).1 (2054 + 7) + 1)) (nI t) 0 = some (oI (some y), wt_u (wt_u s1 111 (4031 + t) (s1 111 (4031 + t) + 1)) 111 (2054 + 7) ((vinc (vmv V t g (q.2.1 / 2)) (4031 + t)).1 (2054 + 7) + 1)) := by
            have := q_pieceOf (t := t) (number := 0) c2'.2.2.1 hvo.1 ht (by omega)
            rw [show (vcn (vinc (vmv V t g (q.2.1 / 2)) (4031 + t)) 7 1).2.1 = (vmv V t g (q.2.1 / 2)).2.1 from rfl, y1] at this
            exact this
          have hy : (vmv V t g (q.2.1 / 2)).2.1.length ≤ 256 := c2'.2.2.1.2.1
          obtain ⟨s3, e1, e2, e3⟩ := q_log (a := 1) (b := nI t) (c := (wt_u (wt_u s1 111 (4031 + t) (s1 111 (4031 + t) + 1)) 111 (2054 + 7) ((vinc (vmv V t g (q.2.1 / 2)) (4031 + t)).1 (2054 + 7) + 1)) 111 (2899 + y)) (d := nI (q.2.1 / 2)) (k := k) c2' (by rw [vcn_ne (by omega), vinc_ne (by omega), vmv_1, mj_upd_ne (by omega), mj_upd_ne (by omega), mj_upd_ne (by omega)]; exact hk) (by omega)
          refine ⟨s3, ?_, e2, RF.trans a3 (RF.trans (RF.uf (Or.inl rfl)) (RF.trans (RF.uf (Or.inl rfl)) e3))⟩
          rw [a1, cl_some, if_pos (by decide), li_add, ix_nI (by omega) (by omega), ix_nI (by omega) (by omega), wr_eq, show gX11_counts (wt_u s1 111 (4031 + t) (s1 111 (4031 + t) + 1)) 7 1 = _ from c1', cl_some, hpo2, cl_some, oI_some, li_add, ix_nI (by omega) (by omega), e1, cl_some, rb_pos rfl]
  · rw [if_neg (by rw [m0]; simp), vqu_l m0]
    obtain ⟨s1, a1, a2, a3⟩ := q_spare h hj rfl ht (hc.nof (by have := hc.2.2.1; omega)) hk (by omega)
    rw [a1, cl_some, rz_rb]
    exact ⟨s1, rfl, a2, a3⟩
end
end
section
/-! ===== what holds of a task that is busy ===== -/
theorem vos_w {w w' : Nat → Int32} {ps : List vP} {t N : Nat} {fr : Nat → vF} (hw : vpe w w') (hp : Ipr w) (hf : Ifr w ps t N fr) : ∀ m, m ≤ N → vos w' fr m = vos w fr m := by
  intro m
  induction m with
  | zero => intro _; rfl
  | succ m ih =>
    intro hm
    unfold vos
    rw [ih (by omega)]
    congr 1
    unfold vfo
    split
    · rename_i c
      cases m with
      | zero => rcases hf.2.1 with e | e <;> omega
      | succ m =>
        obtain ⟨d1, d2, d3, d4, -⟩ := hf.2.2.1 m (by omega)
        have hfm := (hf.1 m (by omega)).1
        have hl := (hp.li hfm).2
        rw [hw.co (by rw [d2]; exact hfm) (by omega) (by omega)]
    · rfl
def vLn (v : Int32) : Prop := ∃ l, l ≤ 16 ∧ v = nI l
section
variable {lim B t : Nat} {V : vV}
theorem Ibz.vs {i : Nat} {v : Int32} (hb : Ibz lim V t) (hp : Ipr V.1) (hi : (i < 2228 ∨ 2898 ≤ i) ∧ i ≠ 2050 ∧ i ≠ 2051 ∧ (i < 3923 ∨ 3926 ≤ i)) (h : i ≠ 3954 + t ∧ i ≠ 4066 + t ∧ i ≠ 3933 + t ∧ i ≠ 3961 + t ∧ i ≠ 3982 + t ∧ i ≠ 3975 + t ∧ i ≠ 3996 + t ∧ i ≠ 3989 + t ∧ i ≠ 4052 + t) (hl : i = 3968 + t → vLn v) : Ibz lim (mj_upd V.1 i v, V.2) t := by
  have hw : vpe V.1 (mj_upd V.1 i v) := vpe.upd (by omega)
  obtain ⟨n, np, c1, c2, c3, c4, c5, c6, c7, c8, c9, c10, c11, c12, c13, c14, c15, c16, c17⟩ := hb
  have hf : ∀ j, j < n + 1 → (V.2.2.2 t j).1 < 10 := fun j hj => (c9.1 j hj).1
  have hvos := vos_w hw hp c9
  refine ⟨n, np, c1, (mj_upd_ne (by omega)).trans c2, (mj_upd_ne (by omega)).trans c3, c4, c5, ?_, c7.ww hw hf, c8, c9.ww hw hp, ?_, (mj_upd_ne (by omega)).trans c11, (mj_upd_ne (by omega)).trans c12, ?_, ?_, ?_, ?_, ?_⟩
  · show (mj_upd V.1 i v (3933 + t) = 0 ∧ _) ∨ mj_upd V.1 i v (3933 + t) = 1
    rw [mj_upd_ne (by omega)]; exact c6
  · show mj_upd V.1 i v (3961 + t) = nI (vus (mj_upd V.1 i v) (V.2.2.2 t) (n + 1))
    rw [mj_upd_ne (by omega), (hw.us (k := 0) hf).1]; exact c10
  · show ∃ l, l ≤ 16 ∧ mj_upd V.1 i v (3968 + t) = nI l
    by_cases e : i = 3968 + t
    · obtain ⟨l, l1, l2⟩ := hl e
      subst e
      exact ⟨l, l1, by rw [mj_upd_self]; exact l2⟩
    · rw [mj_upd_ne (by omega)]; exact c13
  · show mj_upd V.1 i v (3996 + t) = nI (vos (mj_upd V.1 i v) (V.2.2.2 t) (n + 1))
    rw [mj_upd_ne (by omega), hvos _ (Nat.le_refl _)]; exact c14
  · show vos (mj_upd V.1 i v) (V.2.2.2 t) (n + 1) ≤ _
    rw [hvos _ (Nat.le_refl _)]; exact c15
  · show (mj_upd V.1 i v (3989 + t) = -1 ∧ vos (mj_upd V.1 i v) (V.2.2.2 t) (n + 1) = 0) ∨ ∃ k, k < 3 ∧ mj_upd V.1 i v (3989 + t) = nI k ∧ mj_upd V.1 i v (3923 + k) = nI t ∧ 1 ≤ vos (mj_upd V.1 i v) (V.2.2.2 t) (n + 1)
    rw [mj_upd_ne (by omega), hvos _ (Nat.le_refl _)]
    rcases c16 with c16 | ⟨k, k1, k2, k3, k4⟩
    · exact Or.inl c16
    · exact Or.inr ⟨k, k1, k2, (mj_upd_ne (by omega)).trans k3, k4⟩
  · show tld (mj_upd V.1 i v) (mj_upd V.1 i v (4052 + t))
    rw [mj_upd_ne (by omega)]
    exact hw.tl.mpr c17
/-- a scalar that nothing hangs on; or LINE -/
theorem VI.vs {i : Nat} {v : Int32} (hI : VI lim B V) (ht : t < 6) (hb : vbz V.1 t) (ho : vown t i) (h : i ≠ 3926 + t ∧ i ≠ 3954 + t ∧ i ≠ 4066 + t ∧ i ≠ 3933 + t ∧ i ≠ 3961 + t ∧ i ≠ 3982 + t ∧ i ≠ 3975 + t ∧ i ≠ 3996 + t ∧ i ≠ 3989 + t ∧ i ≠ 4052 + t ∧ i ≠ 2067) (hl : i = 3968 + t → vLn v) : VI lim B (mj_upd V.1 i v, V.2) := by
  have hi : (i < 2228 ∨ 3926 ≤ i) ∧ 2054 ≤ i := by rcases ho with g | ⟨j, g1, g2⟩ <;> omega
  refine hI.ot (B' := B) (OT.vs (v := v) ht ho) ht ⟨hI.2.2.1.1, hI.2.2.1.2.1, hI.2.2.1.2.2⟩ ?_ ?_ ?_
  · intro k hk
    show mj_upd V.1 i v (3923 + k) = -1 ∨ ∃ t, t < 6 ∧ mj_upd V.1 i v (3923 + k) = nI t ∧ mj_upd V.1 i v (3989 + t) = nI k
    rw [mj_upd_ne (by omega)]
    rcases hI.2.2.2.1 k hk with e | ⟨t', g1, g2, g3⟩
    · exact Or.inl e
    · refine Or.inr ⟨t', g1, g2, (mj_upd_ne ?_).trans g3⟩
      rcases ho with g | ⟨j, g4, g5⟩ <;> omega
  · obtain ⟨k, k1, k2⟩ := hI.2.2.2.2.1
    exact ⟨k, k1, (mj_upd_ne (by omega)).trans k2⟩
  · rcases hI.2.2.2.2.2 t ht with ⟨b1, b2⟩ | b
    · refine Or.inl ⟨?_, b2.vs hI.2.1 (by omega) (by omega) hl⟩
      unfold vbz at b1 ⊢
      show mj_upd V.1 i v (3926 + t) = 1 ∨ mj_upd V.1 i v (3926 + t) = 2
      rw [mj_upd_ne (by omega)]
      exact b1
    · exfalso
      rcases hb with e | e <;> rcases b.2.2.2.2.2.2.2.1 with g | g | g <;> rw [e] at g <;> exact absurd g (by decide)
/-- all that a step wants -/
theorem VI.opn (hI : VI lim B V) (ht : t < 6) (hb : vbz V.1 t) (hl : lim ≤ 10000) : ∃ np z z2 z3 k l, Vpre lim V t np z ∧ 0 < V.2.2.1 t ∧ (V.1 2049 = 0 ∨ V.1 2049 = 1) ∧ (V.1 2051 = nI z2 ∧ 10 ≤ z2 ∧ z2 ≤ 80) ∧ (V.1 2052 = nI z3 ∧ 1 ≤ z3 ∧ z3 ≤ 3) ∧ (V.1 2067 = nI k ∧ k ≤ B) ∧ (V.1 (3968 + t) = nI l ∧ l ≤ 16) ∧ (V.1 (3989 + t) = -1 ∨ ∃ k, k < 3 ∧ V.1 (3989 + t) = nI k) ∧ tld V.1 (V.1 (4052 + t)) ∧ (2048 ≤ (V.2.2.2 t (V.2.2.1 t - 1)).2.2.2.1 → ∃ ks, ks < 3 ∧ V.1 (3989 + t) = nI ks) := by
  have hJ := hI.J
  rcases hI.2.2.2.2.2 t ht with ⟨b1, b2⟩ | b
  · obtain ⟨n, np, c1, c2, c3, c4, c5, c6, c7, c8, c9, c10, c11, c12, ⟨l, l1, l2⟩, c14, c15, c16, c17⟩ := b2
    obtain ⟨⟨z, z1, z2, z3, z4⟩, s1, s2, ⟨r, r1, r2, r3⟩, ⟨d, d1, d2, d3⟩, -⟩ := hI.1
    obtain ⟨k, k1, k2⟩ := hI.2.2.2.2.1
    have hzz : (V.1 2048).toInt.toNat = z := by rw [z1, nI_int (by omega)]; rfl
    refine ⟨np, z, r, d, k, l, ⟨hJ, ⟨by rw [c1]; exact c2, c3, c4, c5, c6, by rw [c1]; exact c10, fun _ => ?_, fun h0 => by omega⟩, ht, z1, z2, z3, hl, z4, fun q hq => by have := hI.2.2.1.2.2 q hq; omega⟩, by omega, s1, ⟨r1, r2, r3⟩, ⟨d1, d2, d3⟩, ⟨k2, k1⟩, ⟨l2, l1⟩, ?_, c17, fun hcb => ?_⟩
    · rw [c1, Nat.add_sub_cancel]
      exact ⟨c7, c8, c9, c11, c12⟩
    · rcases c16 with c16 | ⟨k, k1, k2, -⟩
      · exact Or.inl c16.1
      · exact Or.inr ⟨k, k1, k2⟩
    · rw [c1, Nat.add_sub_cancel] at hcb
      rcases c16 with ⟨-, c16⟩ | ⟨k, k1, k2, -⟩
      · exfalso
        have hfo : 1 ≤ vfo V.1 (V.2.2.2 t n) := by
          unfold vfo
          rw [if_pos hcb]
          cases n with
          | zero => rcases c9.2.1 with e | e <;> omega
          | succ n =>
            obtain ⟨e1, e2, e3, e4, e5⟩ := c9.2.2.1 n (by omega)
            have hfn := (c9.1 n (by omega)).1
            rcases e5 with ⟨e5, -⟩ | ⟨-, e5, -⟩
            · omega
            · have hv := (hI.2.1 _ hfn).2.2 _ e4
              unfold vlin vcan at hv
              obtain ⟨⟨x, x1, x2, x3⟩, -⟩ := hv.2.2.2.2.2.2.2.2.2 e5
              rw [e2, x1, nI_int (by omega)]
              show 1 ≤ (x : Int).toNat
              omega
        unfold vos at c16
        omega
      · exact ⟨k, k1, k2⟩
  · exfalso
    rcases hb with e | e <;> rcases b.2.2.2.2.2.2.2.1 with g | g | g <;> rw [e] at g <;> exact absurd g (by decide)
end
end
section
/-! ===== the reference: foreign calls, steps ===== -/
section
variable {s : wt_S} {V : vV} {t np z k : Nat}
theorem Vpre.ww {lim : Nat} {V' : vV} (hP : Vpre lim V t np z) (h2 : V'.2 = V.2) (hw : ∀ i, i < 3923 → (i < 2054 ∨ 2228 ≤ i) → V'.1 i = V.1 i) (h : ∀ c, (c = 3954 ∨ c = 4066 ∨ c = 3933 ∨ c = 3961 ∨ c = 3982 ∨ c = 3975) → V'.1 (c + t) = V.1 (c + t)) : Vpre lim V' t np z := by
  obtain ⟨hj, hc, ht, hz, h8, hzl, hl, hl2, hq⟩ := hP
  have hp : vpe V.1 V'.1 := fun i hi => hw i (by omega) (by omega)
  have e21 : V'.2.1 = V.2.1 := by rw [h2]
  refine ⟨hj.ww hp h2, ?_, ht, (hw _ (by omega) (by omega)).trans hz, h8, hzl, hl, hl2, by rw [e21]; exact hq⟩
  have hs : vsame V V'.2.1 t np np := by
    rw [e21]
    exact ⟨hc.2.2.2.1, fun j hj2 => ⟨((hc.2.2.2.2.2.2.1 (by omega)).1.1 j hj2).1, rfl, rfl⟩⟩
  refine hc.ps hp hj.1 (by rw [h2]) hs (h 3954 (by simp)) ((h 4066 (by simp)).trans hc.2.1) hc.2.2.1 ?_ (h 3961 (by simp)) (h 3982 (by simp)) (h 3975 (by simp)) (fun h0 => (hc.2.2.2.2.2.2.2 h0).1) (fun h0 => (hc.2.2.2.2.2.2.1 h0).2.1)
  rw [h 3933 (by simp), e21]
  exact hc.2.2.2.2.1
theorem vhs_T {lim : Nat} {words : Int32} {V1 : vV} (hP : Vpre lim V t np z) (hz3 : (V.1 2052).toInt.toNat ≤ 3) (hs : V.1 (3989 + t) = -1 ∨ ∃ k, k < 3 ∧ V.1 (3989 + t) = nI k) (e : vhs V t words = (true, V1)) : V1.2 = V.2 ∧ (∃ k, k < 3 ∧ V1.1 (3989 + t) = nI k) ∧ (∀ i, i ≠ 3989 + t → (i < 3923 ∨ 3926 ≤ i) → i ≠ 3926 + t → i ≠ 3996 + t → V1.1 i = V.1 i) ∧ Vpre lim V1 t np z := by
  have ht := hP.2.2.1
  cases ed : vsd V t with
  | none => rw [vhs_0 ed] at e; cases e
  | some V2 =>
    obtain ⟨j1, j2, ⟨ks, ks1, ks2⟩, j4⟩ := vsd_J hP.1 ht ed hz3 hs
    by_cases c : ((vs V2 (3926 + t) 1).1 (3996 + t) + words).toInt ≤ ((vs V2 (3926 + t) 1).1 2053).toInt
    · rw [vhs_1 ed c] at e
      have e : vs (vs V2 (3926 + t) 1) (3996 + t) ((vs V2 (3926 + t) 1).1 (3996 + t) + words) = V1 := (Prod.mk.inj e).2
      have hsc : ∀ i, i ≠ 3989 + t → (i < 3923 ∨ 3926 ≤ i) → i ≠ 3926 + t → i ≠ 3996 + t → V1.1 i = V.1 i := fun i g1 g2 g3 g4 => by rw [← e, vs_ne g4, vs_ne g3, j4 i g1 g2]
      have h2 : V1.2 = V.2 := by rw [← e]; exact j2
      refine ⟨h2, ⟨ks, ks1, by rw [← e, vs_ne (by omega), vs_ne (by omega)]; exact ks2⟩, hsc, hP.ww h2 (fun i hi _ => hsc i (by omega) (by omega) (by omega) (by omega)) (fun c hc => hsc _ (by omega) (by omega) (by omega) (by omega))⟩
    · rw [vhs_2 ed c] at e
      cases e
theorem q_foreign {z2 z3 l c : Nat} {words f : Int32} (h : RS s V) (hP : Vpre 2048 V t np z) (h0 : 0 < V.2.2.1 t) (hr : V.1 2051 = nI z2) (hz2 : z2 ≤ 80) (h3 : V.1 2052 = nI z3) (hz3 : z3 ≤ 3) (hs : V.1 (3989 + t) = -1 ∨ ∃ k, k < 3 ∧ V.1 (3989 + t) = nI k) (hk : V.1 2067 = nI k) (hk2 : k < 2147483200) (hl : V.1 (3968 + t) = nI l) (hl16 : l ≤ 16) (hc2 : c < vsz V.1 (vlf V t).1) (hc3 : ¬ bt (V.1 (2238 + (vlf V t).1)) c) (hE : tld V.1 f → vE V.1 (vlf V t).1 f.toInt.toNat) :
    ∃ s', gX11_foreign s (nI t) words f (nI c) = some ((), s') ∧ RS s' (vfg 2048 V t words f (nI c)) ∧ RF s s' := by
  have ht := hP.2.2.1
  have hj := hP.1
  have hzz : (V.1 2052).toInt.toNat ≤ 3 := by rw [h3, nI_int (by omega)]; show (z3 : Int).toNat ≤ 3; omega
  obtain ⟨s1, a1, a2, a3⟩ := q_hasSide (words := words) h hj ht h3 hz3 hs hk hk2
  unfold gX11_foreign vfg
  rw [a1, cl_some, if_rbn]
  generalize hres : vhs V t words = res at *
  obtain ⟨b, V1⟩ := res
  cases b with
  | false =>
    rw [if_neg (by simp)]
    exact ⟨s1, rfl, a2, a3⟩
  | true =>
    obtain ⟨b1, ⟨ks, ks1, ks2⟩, b3, b4⟩ := vhs_T hP hzz hs hres
    rw [if_pos rfl]
    have e22 : V1.2.2 = V.2.2 := by rw [b1]
    have hlf : vlf V1 t = vlf V t := by unfold vlf; rw [e22]
    have hn1 : V1.2.2.1 t = V.2.2.1 t := by rw [e22]
    have a2 : RS s1 V1 := a2
    have b40 := b4
    obtain ⟨hj1, hc1, -, -, -, -, -, -, -⟩ := b4
    have hw1 : vpe V.1 V1.1 := fun i hi => b3 i (by omega) (by omega) (by omega) (by omega)
    obtain ⟨d1, d2, d3, d4, d5⟩ := hc1.2.2.2.2.2.2.1 (by omega)
    have hi1 : V1.2.2.1 t - 1 < V1.2.2.1 t := by omega
    have hfl : (vlf V t).1 < 10 := by rw [← hlf]; exact (d3.1 _ hi1).1
    have hfit := hj1.fit ht hi1
    have hfit2 := hfit.2.2
    unfold vwd at hfit2
    have hlfe : V1.2.2.2 t (V1.2.2.1 t - 1) = vlf V t := by rw [← hlf]; rfl
    rw [hlfe] at d5 hfit2
    have hsz1 : vsz V1.1 (vlf V t).1 = vsz V.1 (vlf V t).1 := (hw1.sz hfl).1
    rw [li_add, ix_nI (by omega) (by omega), a2.tk (c := 3982) (by omega) ht, d4, q_isTold, cl_some, if_rb, li_add2, nI_add]
    have htl : tld (s1 111) f ↔ tld V1.1 f := a2.prog.tl
    have hcc : (nI c).toInt.toNat = c := by rw [nI_int (by have := (hj.1.sz hfl).2; omega)]; rfl
    dsimp only
    rw [hcc]
    by_cases ct : tld V1.1 f
    · rw [if_pos (htl.mpr ct), if_pos ct]
      obtain ⟨f', hf1, rfl⟩ := nI_ex ct.1.1
      have hf9 := ct.1.2
      rw [nI_int hf1] at hf9
      have hfn : (nI f').toInt.toNat = f' := by rw [nI_int hf1]; rfl
      have hE' := hE (hw1.tl.mp ct)
      rw [hfn] at hE'
      have hl1 : V1.1 (3968 + t) = nI l := by rw [b3 _ (by omega) (by omega) (by omega) (by omega)]; exact hl
      have hl1n : (V1.1 (3968 + t)).toInt.toNat = l := by rw [hl1, nI_int (by omega)]; rfl
      have hs1 : 1 ≤ vsz V1.1 f' := by
        have := ct.2
        rw [hfn] at this
        unfold vsz
        omega
      have hEc : vE V1.1 (vlf V t).1 f' := by
        obtain ⟨kk, x1, x2, x3⟩ := hE'
        have hli := (hj.1.li hfl)
        exact ⟨kk, by rw [(hw1.sz hfl).2.2.1]; exact x1, by rw [hw1.cal hfl (by omega)]; exact hw1.tl.mpr x2, by rw [hw1.cal hfl (by omega)]; exact x3⟩
      obtain ⟨s', e1, e2, e3⟩ := q_calls (bk := 32 * (vlf V t).1 + l + 2048) (k0 := c) (l5 := 0) (k := k) a2 b40 (by omega) hs1 (by rw [hw1 2051 (Or.inr (Or.inr rfl))]; exact hr) hz2 (by rw [b3 _ (by omega) (by omega) (by omega) (by omega)]; exact hk) (by omega) (Or.inr ⟨ks, ks1, ks2⟩) (by omega) (by rw [hlfe, hsz1]; exact hc2) (by rw [hlfe]; exact hEc)
      rw [hlfe] at e2
      rw [hfn, hlf, hl1n]
      refine ⟨s', ?_, e2, RF.trans a3 e3⟩
      rw [li_add, ix_nI (by omega) (by omega), a2.tk (c := 3975) (by omega) ht, d5, li_add, ix_nI (by omega) (by omega), a2.tk (c := 3968) (by omega) ht, hl1, li_mul, nI_add, li_add2, e1, cl_some]
    · rw [if_neg (fun q => ct (htl.mp q)), if_neg ct, hlf]
      have hwrd := (a2.wd hj1 rfl ht hi1).2.2 c (by rw [hlfe, hsz1]; exact hc2)
      have hbt1 : ¬ bt (V1.1 (2238 + (vlf V t).1)) c := by rw [(hw1.sz hfl).2.2.2]; exact hc3
      have hvs : vsw V1.1 (vpl V1 t) (V1.2.2.2 t (V1.2.2.1 t - 1)) c = vnm (vlf V t) (nI c) := by
        rw [hlfe]
        unfold vsw vnm
        rw [if_neg hbt1, hcc]
      rw [hvs] at hwrd
      have hr2 := a2.num (v := 3 * vnm (vlf V t) (nI c) + 1) hj1 ht hi1 (k := c) (by rw [hlfe, hsz1]; exact hc2) (by rw [hlfe]; exact hbt1)
      obtain ⟨s', f1, f2, f3⟩ := q_fover (words := words) hr2 ht ks1 (by exact ks2)
      refine ⟨s', ?_, f2, RF.trans a3 (RF.trans (RF.uf (Or.inl rfl)) f3)⟩
      have hc8 := (hj.1.sz hfl).2
      rw [q_word0 a2.1 (by omega), cl_some, hwrd, q_lays0 a2.1 (by omega), cl_some, f1, cl_some]
end
end
