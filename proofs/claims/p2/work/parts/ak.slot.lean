/-! ===== the class: a slot is written ===== -/
section
variable {b lim : Nat} {s s1 : wt_S} {V V1 : vV} {zs : List (vP × Nat)} {fr : List Nat} {t np z k f l k0 i : Nat} {v : Int32}
theorem vud_sf {w : Nat → Int32} {F F' : Nat → vF} (h : vsf F F') : ∀ {n : Nat}, vud w F' k n = vud w F k n := by
  intro n
  induction n with
  | zero => rfl
  | succ n ih =>
    show vud w F' k n + _ = vud w F k n + _
    rw [ih, (h n).1, (h n).2.1]
theorem RC.fr1 (h : RC b lim s V zs fr) (hx : CX b lim) (hj : VJ lim V) (ht : t < 6) {F : vF} {p : Nat} (h1 : F.1 = (V.2.2.2 t i).1) (h2 : F.2.1 = (V.2.2.2 t i).2.1) (h3 : F.2.2.1 = (V.2.2.2 t i).2.2.1) (h4 : F.2.2.2.1 = (V.2.2.2 t i).2.2.2.1) (hm : VM (mj_upd (s (b + 15)) p v) (vfr V t i F)) : RC b lim (wt_u s (b + 15) p v) (vfr V t i F) zs fr := by
  have hb := hx.b
  obtain ⟨k1, k2, k3, k4, k5, k6⟩ := h.2.2.2.1 t ht
  have hg : ∀ c, c ≠ b + 15 → wt_u s (b + 15) p v c = s c := fun c hc => wt_u_ne hc
  have hsf : vsf (V.2.2.2 t) ((vfr V t i F).2.2.2 t) := fun j => by
    by_cases e : j = i
    · subst e
      rw [vfr_at]
      exact ⟨h1, h2, h3, h4⟩
    · rw [vfr_2 e]
      exact ⟨rfl, rfl, rfl, rfl⟩
  have e0 := hg (b + 17 + 2 * t) (by omega)
  have e1 := hg (b + 17 + 2 * t + 1) (by omega)
  have e5 := hg (b + 5) (by omega)
  have e6 := hg (b + 6) (by omega)
  refine h.op hx hj.1 OT.fr ht (TO.u (by omega) ht) hj.vfr (fun z _ => Iff.rfl) (fun z _ _ => ⟨by rw [e5], by rw [e6]⟩) h.1 (h.2.1.eq (fun c hc => hg c (by omega))) (h.2.2.1.keep (hg _ (by omega)) (hg _ (by omega)) (fun _ _ _ => rfl)) ⟨k1.keep (fun j _ _ => by rw [e0]) e1 ht (fun _ _ _ => rfl), ⟨fun e => ?_, fun e => ?_⟩, ⟨fun e => ?_, fun z hz e g => ?_⟩, ⟨fun z hz e g => ?_, fun e => ?_⟩, fun e => ?_, fun z hz e => ?_⟩ (by rw [wt_u_at]; exact hm)
  · rw [e0]; exact k2.1 e
  · rw [e0, vfr_pl h2 h3]; exact k2.2 e
  · rw [e0]; exact k3.1 e
  · rw [e0]; exact k3.2 z hz e g
  · rw [e0]; exact k4.1 z hz e g
  · rw [e0]; exact k4.2 e
  · rw [e0]; exact k5 e
  · rw [e5, e6]
    have := k6 z hz e
    refine ⟨?_, this.2⟩
    show s (b + 5) z.2 = nI (vud V.1 ((vfr V t i F).2.2.2 t) z.1.2.2.2 (V.2.2.1 t))
    rw [vud_sf hsf]
    exact this.1
theorem RC.num (h : RC b lim s V zs fr) (hx : CX b lim) (hj : VJ lim V) (ht : t < 6) (hi : i < V.2.2.1 t) (hk : k < vsz V.1 (V.2.2.2 t i).1) (hb : ¬ bt (V.1 (2238 + (V.2.2.2 t i).1)) k) : RC b lim (wt_u s (b + 15) (vpl V t i + 2 + k) v) (vnu V t i k v) zs fr := by
  refine h.fr1 hx hj ht rfl rfl rfl rfl (h.2.2.2.2.1.set hj ht hi hk rfl rfl rfl rfl ?_ (fun k' hk' => ?_))
  · unfold vsw
    show (if bt (V.1 (2238 + (V.2.2.2 t i).1)) k then _ else mj_upd (V.2.2.2 t i).2.2.2.2.1 k v k) = v
    rw [if_neg hb, mj_upd_self]
  · unfold vsw
    show (if bt (V.1 (2238 + (V.2.2.2 t i).1)) k' then _ else mj_upd (V.2.2.2 t i).2.2.2.2.1 k v k') = _
    rw [mj_upd_ne hk']
theorem RC.ptr {q : Option (Nat × Nat)} (h : RC b lim s V zs fr) (hx : CX b lim) (hj : VJ lim V) (ht : t < 6) (hi : i < V.2.2.1 t) (hk : k < vsz V.1 (V.2.2.2 t i).1) (hb : bt (V.1 (2238 + (V.2.2.2 t i).1)) k) : RC b lim (wt_u s (b + 15) (vpl V t i + 2 + k) (match q with | none => -1 | some x => nI (vpl V t x.1 + 2 + x.2))) (vpo V t i k q) zs fr := by
  refine h.fr1 hx hj ht rfl rfl rfl rfl (h.2.2.2.2.1.set hj ht hi hk rfl rfl rfl rfl ?_ (fun k' hk' => ?_))
  · unfold vsw
    show (if bt (V.1 (2238 + (V.2.2.2 t i).1)) k then (match mj_upd (V.2.2.2 t i).2.2.2.2.2 k q k with | none => (-1 : Int32) | some x => nI (vpl V t x.1 + 2 + x.2)) else _) = _
    rw [if_pos hb, mj_upd_self]
  · unfold vsw
    show (if bt (V.1 (2238 + (V.2.2.2 t i).1)) k' then (match mj_upd (V.2.2.2 t i).2.2.2.2.2 k q k' with | none => (-1 : Int32) | some x => nI (vpl V t x.1 + 2 + x.2)) else _) = _
    rw [mj_upd_ne hk']
    rfl
/-- the next line is set -/
theorem RC.line (h : RC b lim s V zs fr) (hx : CX b lim) (hj : VJ lim V) (ht : t < 6) (h0 : 0 < V.2.2.1 t) : RC b lim (wt_u s (b + 17 + 2 * t) 10 v) (vs V (3968 + t) v) zs fr := by
  have hb := hx.b
  obtain ⟨k1, k2, k3, k4, k5, k6⟩ := h.2.2.2.1 t ht
  have hg : ∀ c, c ≠ b + 17 + 2 * t → wt_u s (b + 17 + 2 * t) 10 v c = s c := fun c hc => wt_u_ne hc
  have hT : ∀ j, j ≠ 10 → wt_u s (b + 17 + 2 * t) 10 v (b + 17 + 2 * t) j = s (b + 17 + 2 * t) j := fun j hj => wt_u_nk hj
  have e5 := hg (b + 5) (by omega)
  have e6 := hg (b + 6) (by omega)
  have hw : ∀ i, i ≠ 3968 + t → (vs V (3968 + t) v).1 i = V.1 i := fun i hi => vs_ne hi
  refine h.op hx hj.1 (OT.vs ht (vown_t (c := 3968) (by omega))) ht (TO.u (by omega) ht) hj.vfr (fun z _ => Iff.rfl) (fun z _ _ => ⟨by rw [e5], by rw [e6]⟩) h.1 (h.2.1.eq (fun c hc => hg c (by omega))) (h.2.2.1.keep (hg _ (by omega)) (hg _ (by omega)) (fun i _ _ => hw i (by omega))) ⟨⟨?_, fun e he => ?_, fun e he => ?_⟩, ⟨fun e => ?_, fun e => ?_⟩, ⟨fun e => ?_, fun z hz e g => ?_⟩, ⟨fun z hz e g => ?_, fun e => ?_⟩, fun e => ?_, fun z hz e => ?_⟩ ?_
  · rw [hT _ (by omega)]; exact k1.1
  · have q := tf_n e he
    have q2 := tf_p e he
    rw [hT _ (by omega), hw _ (by omega)]; exact k1.2.1 e he
  · have q := ts_n e he
    have q2 := ts_p e he
    rw [hg _ (by omega), hw _ (by omega)]; exact k1.2.2 e he
  · have e : V.2.2.1 t = 0 := e
    omega
  · rw [wt_u_self, vs_at, hT _ (by omega)]; exact ⟨rfl, (k2.2 h0).2⟩
  · rw [hT _ (by omega)]; exact k3.1 (by rw [← hw (4066 + t) (by omega)]; exact e)
  · rw [hT _ (by omega)]; exact k3.2 z hz e (by rw [← hw (4066 + t) (by omega)]; exact g)
  · rw [hT _ (by omega)]; exact k4.1 z hz e g
  · rw [hT _ (by omega)]; exact k4.2 e
  · rw [hT _ (by omega), hw _ (by omega)]; exact k5 (by rw [← hw (3926 + t) (by omega)]; exact e)
  · rw [e5, e6]
    have := k6 z hz e
    refine ⟨?_, this.2⟩
    show s (b + 5) z.2 = nI (vud (vs V (3968 + t) v).1 (V.2.2.2 t) z.1.2.2.2 (V.2.2.1 t))
    rw [vud_pe (w := V.1) (fun i hi => hw i (by omega)) (fun i hi => (hj.fit ht hi).1)]
    exact this.1
  · rw [hg _ (by omega)]
    exact VM_vs (by omega) h.2.2.2.2.1
end
