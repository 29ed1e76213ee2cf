/-! ===== the class: a call ===== -/
section
variable {b lim : Nat} {s s1 s2 : wt_S} {V V1 : vV} {zs zs' : List (vP × Nat)} {fr fr' : List Nat} {t np z need k f bk id l k0 cvn : Nat}
theorem c_enter (h : RC b lim s V zs fr) (hx : CX b lim) (hj : VJ lim V) (hc : Icn V t np) (ht : t < 6) (hf : f < 10) (hs1 : 1 ≤ vsz V.1 f) (hr : vud V.1 (V.2.2.2 t) (np - 1) (V.2.2.1 t) + vwd V.1 f ≤ vln V.2.1 t (np - 1)) (h0 : 0 < V.2.2.1 t) (h75 : V.1 (3975 + t) = nI (V.2.2.2 t (V.2.2.1 t - 1)).1) (h68 : V.1 (3968 + t) = nI (l + 1)) (hl : l < vli V.1 (V.2.2.2 t (V.2.2.1 t - 1)).1) (hcv : cvn ≤ 1024) {fo : Bool} (hk : V.1 (vco (V.2.2.2 t (V.2.2.1 t - 1)).1 l) = if fo then 9 else 6) (hsl : V.1 (vco (V.2.2.2 t (V.2.2.1 t - 1)).1 l + (if fo then 3 else 2)) = nI k0) (hk0 : k0 < vsz V.1 (V.2.2.2 t (V.2.2.1 t - 1)).1) :
    ∃ s', gX2_enter b (b + 17 + 2 * t) s (nI f) (nI cvn) = some ((), s') ∧ RC b lim s' (vpu V t f (32 * (V.2.2.2 t (V.2.2.1 t - 1)).1 + (l + 1) + cvn + if fo then 2048 else 0) (vha V.1 f (V.2.2.2 t (V.2.2.1 t - 1)) k0).1 (vha V.1 f (V.2.2.2 t (V.2.2.1 t - 1)) k0).2) zs fr ∧ TO b t s s' := by
  have hb := hx.b
  have hxm := hx.m
  have hfit := hj.fit ht (show V.2.2.1 t - 1 < V.2.2.1 t by omega)
  have hMR := h.2.2.2.2.1 t ht (V.2.2.1 t - 1) (by omega)
  have hKl := (h.2.2.2.1 t ht).2.1.2 h0
  have e9 : s (b + 17 + 2 * t) 9 = nI (V.2.2.2 t (V.2.2.1 t - 1)).1 := by rw [h.at ht (e := (9, 3975)) (by decide)]; exact h75
  have e10 : s (b + 17 + 2 * t) 10 = nI (l + 1) := hKl.1.trans h68
  have e11 := hKl.2
  obtain ⟨npx, -, -, hifr⟩ := hj.geo ht h0
  have hptr := hifr.2.2.2.2.2 (V.2.2.1 t - 1) (by omega) k0 hk0
  generalize hF : V.2.2.2 t (V.2.2.1 t - 1) = F at *
  have hF10 := hfit.1
  have hw2 : vwd V.1 F.1 = vsz V.1 F.1 + 2 := rfl
  have hli := (hj.1.li hF10).2
  have hword : s (b + 15) (vpl V t (V.2.2.1 t - 1) + 2 + k0) = vsw V.1 (vpl V t) F k0 := hMR.2.2.2 k0 hk0
  obtain ⟨s1, id, p1, p2, p3, p4⟩ := c_pushP (bw := nI (32 * F.1 + (l + 1) + cvn + if fo then 2048 else 0)) h hx hj hc ht hf hr
  have hRP1 : RP 5 s1 V.1 := h.2.2.2.2.2.eq hj.1 vpe.refl (fun c c1 c2 => p4.1 c (by omega) (by omega) (by omega))
  have e11' : s1 (b + 17 + 2 * t) 11 = nI (vnx V t) := p4.2.2.2.2.2.2.2.2.2.1
  have hfree := (hc.free (f := f) hj ht hr).1
  have hwf : vwd V.1 f = vsz V.1 f + 2 := rfl
  have hhw := vha_word (f := f) (W := V.1) (pl := vpl V t) (F0 := F) (k0 := k0) (x1 := vnp V t - 1) (x2 := vud V.1 (V.2.2.2 t) (vnp V t - 1) (V.2.2.1 t)) (x3 := 32 * F.1 + (l + 1) + cvn + if fo then 2048 else 0)
  have hqq : ∀ p, (vha V.1 f F k0).2 = some p → p.1 < V.2.2.1 t := fun p hp => by
    unfold vha at hp
    by_cases cb : bt (V.1 (2238 + F.1)) k0
    · rw [if_pos cb] at hp
      have hp : (if bt (V.1 (2238 + f)) 0 then F.2.2.2.2.2 k0 else none) = some p := hp
      split at hp
      · have := (hptr cb p hp).1
        omega
      · cases hp
    · rw [if_neg cb] at hp
      cases hp
  have hfin : ∃ s', gX2_enter_106 b (b + 17 + 2 * t) s (nI f) (nI F.1) (nI k0) (vsw V.1 (vpl V t) F k0) (nI f) (nI (32 * F.1 + (l + 1) + cvn)) (nI (if fo then 2048 else 0)) = some ((), s') ∧ RC b lim s' (vpu V t f (32 * F.1 + (l + 1) + cvn + if fo then 2048 else 0) (vha V.1 f F k0).1 (vha V.1 f F k0).2) zs fr ∧ TO b t s s' := by
    unfold gX2_enter_106
    rw [nI_add, p2, cl_some, c_isPointer hRP1 hF10, cl_some, c_isPointer0 hRP1 hf, cl_some]
    by_cases ce : rb (bt (V.1 (2238 + f)) 0) ≠ rb (bt (V.1 (2238 + F.1)) k0)
    · rw [if_pos (Ne.symm ce)]
      rw [if_pos ce] at hhw
      have hz := p4.2.2.2.2.1 0 (by omega)
      obtain ⟨r1, r2⟩ := c_pu (s2 := s1) h hx hj hc ht hf hs1 hr p3 p4 (fun _ _ => rfl) (fun _ _ => rfl) (hz.trans hhw) hqq
      exact ⟨s1, rfl, r1, r2⟩
    · rw [if_neg (fun q => ce (Ne.symm q)), e11', show nI (vnx V t) + 2 = nI (vnx V t + 2) from nI_add _ 2, c_put (by omega), cl_some]
      rw [if_neg ce] at hhw
      obtain ⟨r1, r2⟩ := c_pu (s2 := wt_u s1 (b + 15) (vnx V t + 2) (vsw V.1 (vpl V t) F k0)) h hx hj hc ht hf hs1 hr p3 p4 (fun c hc => wt_u_ne hc) (fun x hx => wt_u_nk hx) (by rw [wt_u_self]; exact hhw) hqq
      exact ⟨_, rfl, r1, r2⟩
  have e32 : 32 * nI F.1 + nI (l + 1) + nI cvn = nI (32 * F.1 + (l + 1) + cvn) := by rw [li_mul, nI_add, nI_add]
  unfold gX2_enter
  rw [e9, e10, show nI (l + 1) - 1 = nI l by rw [i_sub1, nI_pred2], c_part0 h.2.2.2.2.2 hj.1 hF10 hl, cl_some, hk]
  cases fo with
  | false =>
    rw [if_pos (by decide)]
    unfold gX2_enter_32 gX2_enter_56
    rw [if_pos rfl, e10, show nI (l + 1) - 1 = nI l by rw [i_sub1, nI_pred2], c_part2 h.2.2.2.2.2 hj.1 hF10 hl, cl_some, show V.1 (vco F.1 l + 2) = nI k0 from hsl, e11, show nI (vpl V t (V.2.2.1 t - 1)) + 2 + nI k0 = nI (vpl V t (V.2.2.1 t - 1) + 2 + k0) by rw [show nI (vpl V t (V.2.2.1 t - 1)) + 2 = nI (vpl V t (V.2.2.1 t - 1) + 2) from nI_add _ 2, nI_add], c_word (by omega), cl_some, if_pos rfl, hword, e10, e32]
    exact hfin
  | true =>
    rw [if_neg (by decide)]
    unfold gX2_enter_32 gX2_enter_56
    rw [if_neg (by decide), e10, show nI (l + 1) - 1 = nI l by rw [i_sub1, nI_pred2], c_part3 h.2.2.2.2.2 hj.1 hF10 hl, cl_some, show V.1 (vco F.1 l + 3) = nI k0 from hsl, e11, show nI (vpl V t (V.2.2.1 t - 1)) + 2 + nI k0 = nI (vpl V t (V.2.2.1 t - 1) + 2 + k0) by rw [show nI (vpl V t (V.2.2.1 t - 1)) + 2 = nI (vpl V t (V.2.2.1 t - 1) + 2) from nI_add _ 2, nI_add], c_word (by omega), cl_some, if_neg (by decide), hword, e10, e32]
    exact hfin
end
