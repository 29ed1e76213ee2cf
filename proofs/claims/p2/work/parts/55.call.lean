/-! ===== the reference calls a function ===== -/
theorem Ifr.cov {w : Nat → Int32} {ps : List vP} {t n : Nat} {fr : Nat → vF} (h : Ifr w ps t n fr) {i j : Nat} (hij : i ≤ j) (hj : j < n) (hc : vcv (fr i)) : vcv (fr j) := by
  induction hij with
  | refl => exact hc
  | step hij ih => exact h.2.2.2.1 _ hj (ih (by omega))
section
variable {s : wt_S} {V : vV} {t np f z k : Nat}
theorem vlc_iff {lim : Nat} (hj : VJ lim V) (hc : Ico V t np) : (vlc V t = false → ∀ i, i < V.2.2.1 t → ¬ vcv (V.2.2.2 t i)) ∧ (vlc V t = true → 0 < V.2.2.1 t ∧ vcv (V.2.2.2 t (V.2.2.1 t - 1))) := by
  constructor
  · intro h i hi hv
    obtain ⟨-, -, d3, -⟩ := hc.2.2.2.2.2.2.1 (by omega)
    have := d3.cov (j := V.2.2.1 t - 1) (by omega) (by omega) hv
    unfold vcv at this
    unfold vlc at h
    simp at h
    have := h (by omega)
    omega
  · intro h
    unfold vlc at h
    simp at h
    exact ⟨h.1, h.2⟩
/-- covered: the room is there -/
theorem vlc_room {lim : Nat} (hj : VJ lim V) (hc : Ico V t np) (ht : t < 6) (hv : vlc V t = true) (hE : vE V.1 (V.2.2.2 t (V.2.2.1 t - 1)).1 f) : ∃ d, vdp V.1 10 f = some d ∧ d ≤ (V.1 2051).toInt.toNat ∧ vud V.1 (V.2.2.2 t) (np - 1) (V.2.2.1 t) + d ≤ vln V.2.1 t (np - 1) := by
  obtain ⟨h0, hcv⟩ := (vlc_iff hj hc).2 hv
  obtain ⟨d1, d2, d3, -⟩ := hc.2.2.2.2.2.2.1 h0
  obtain ⟨d, e1, e2, e3⟩ := d3.2.2.2.2.1 (V.2.2.1 t - 1) (by omega) hcv
  obtain ⟨M, m1, m2, -⟩ := vdp_spec.2 d e1
  obtain ⟨d', x1, x2⟩ := m2 f hE
  have hud := d1.ud (V.2.2.1 t - 1) (by omega)
  rw [d2, show V.2.2.1 t - 1 + 1 = V.2.2.1 t by omega] at hud
  rw [d2] at e3
  exact ⟨d', vdp_mono x1, by omega, by omega⟩
theorem vha_word {W : Nat → Int32} {pl : Nat → Nat} {F0 : vF} {k0 x1 x2 x3 : Nat} : (if rb (bt (W (2238 + f)) 0) ≠ rb (bt (W (2238 + F0.1)) k0) then vdf W f 0 else vsw W pl F0 k0) = vsw W pl (f, x1, x2, x3, (fun k => if k = 0 then (vha W f F0 k0).1 else 0), (fun k => if k = 0 then (vha W f F0 k0).2 else none)) 0 := by
  show _ = (if bt (W (2238 + f)) 0 then (match (vha W f F0 k0).2 with | none => (-1 : Int32) | some q => nI (pl q.1 + 2 + q.2)) else (vha W f F0 k0).1)
  unfold vsw vdf vha
  by_cases cb : bt (W (2238 + F0.1)) k0
  · rw [rb_pos cb, if_pos cb, if_pos cb]
    by_cases cf : bt (W (2238 + f)) 0
    · rw [rb_pos cf, if_neg (by simp), if_pos cf]
      simp only [if_pos cf]
      cases F0.2.2.2.2.2 k0 <;> rfl
    · rw [rb_neg cf, if_pos (by decide), if_neg cf, if_neg cf]
  · rw [rb_neg cb, if_neg cb, if_neg cb]
    by_cases cf : bt (W (2238 + f)) 0
    · rw [rb_pos cf, if_pos (by decide), if_pos cf, if_pos cf]
    · rw [rb_neg cf, if_neg (by simp), if_neg cf]
      simp only [if_neg cf]
/-- behind the room -/
theorem q_calls_40 {V1 : vV} {np1 bk k0 z2 : Nat} {l5 l6 : Int32} (h : RS s V1) (hj : VJ 2048 V1) (hc : Icn V1 t np1) (ht : t < 6) (hf : f < 10) (hs1 : 1 ≤ vsz V1.1 f) (hr2 : V1.1 2051 = nI z2) (hz2 : z2 ≤ 80) (hr : vud V1.1 (V1.2.2.2 t) (np1 - 1) (V1.2.2.1 t) + vwd V1.1 f ≤ vln V1.2.1 t (np1 - 1)) (h0 : 0 < V1.2.2.1 t) (hk0 : k0 < vsz V1.1 (V1.2.2.2 t (V1.2.2.1 t - 1)).1) :
    ∃ s', gX11_calls_40 s (nI t) (nI f) (nI bk) (nI k0) l5 l6 (nI (vnx V1 t)) = some ((), s') ∧ RS s' (vpu V1 t f (bk + if l6 ≠ 0 ∨ vmg V1.1 f = true then 1024 else 0) (vha V1.1 f (V1.2.2.2 t (V1.2.2.1 t - 1)) k0).1 (vha V1.1 f (V1.2.2.2 t (V1.2.2.1 t - 1)) k0).2) ∧ RF s s' := by
  obtain ⟨hfit, -⟩ := hc.free hj ht hr
  obtain ⟨d1, d2, d3, d4, d5⟩ := hc.2.2.2.2.2.2.1 h0
  have hi : V1.2.2.1 t - 1 < V1.2.2.1 t := by omega
  have hft := (d3.1 _ hi).1
  have hfl := hj.fit ht hi
  have hz := hj.1.sz hft
  unfold vwd at hfl
  have hnn : V1.2.2.1 t ≤ 3334 := by
    obtain ⟨n, hn⟩ : ∃ n, V1.2.2.1 t = n + 1 := ⟨V1.2.2.1 t - 1, by omega⟩
    rw [hn] at d1 d3
    have h1 := d1.all hj.2.1
    have h2 := vus3 (fun i hi => (d3.1 i hi).2)
    omega
  have hword := (h.wd hj rfl ht hi).2.2 k0 hk0
  have hkne : ¬ nI k0 = -1 := nI_m1 (by omega)
  have htail : ∀ iP : Int32, iP = rb (bt (V1.1 (2238 + (V1.2.2.2 t (V1.2.2.1 t - 1)).1)) k0) → ∃ s', gX11_calls_85 s (nI t) (nI f) (nI bk) (nI k0) l5 l6 (nI (vnx V1 t)) iP = some ((), s') ∧ RS s' (vpu V1 t f (bk + if l6 ≠ 0 ∨ vmg V1.1 f = true then 1024 else 0) (vha V1.1 f (V1.2.2.2 t (V1.2.2.1 t - 1)) k0).1 (vha V1.1 f (V1.2.2.2 t (V1.2.2.1 t - 1)) k0).2) ∧ RF s s' := by
    intro iP hiP
    obtain ⟨s', e1, e2, e3⟩ := q_calls_149 (bk := bk) (l6 := l6) (iP := iP) (v := vsw V1.1 (vpl V1 t) (V1.2.2.2 t (V1.2.2.1 t - 1)) k0) (base := nI (vpl V1 t (V1.2.2.1 t - 1))) (a := (vha V1.1 f (V1.2.2.2 t (V1.2.2.1 t - 1)) k0).1) (q := (vha V1.1 f (V1.2.2.2 t (V1.2.2.1 t - 1)) k0).2) h hj hc ht hf hs1 hr2 hz2 hr (by rw [if_neg (by omega)]) (by
      rw [hiP]
      exact vha_word) (fun x hx => by
      unfold vha at hx
      by_cases cb : bt (V1.1 (2238 + (V1.2.2.2 t (V1.2.2.1 t - 1)).1)) k0
      · rw [if_pos cb] at hx
        by_cases cf : bt (V1.1 (2238 + f)) 0
        · simp only [if_pos cf] at hx
          have := (d3.2.2.2.2.2 _ hi k0 hk0 cb x hx).1
          omega
        · simp only [if_neg cf] at hx
          cases hx
      · rw [if_neg cb] at hx
        cases hx)
    refine ⟨s', ?_, e2, e3⟩
    unfold gX11_calls_85
    rw [if_pos hkne, li_add, ix_nI (by omega) (by omega), h.tk (c := 3982) (by omega) ht, d4, li_add2, nI_add, q_word0 h.1 (by omega), cl_some, hword]
    unfold gX11_calls_117
    rw [li_add, ix_nI (by omega) (by omega), h.tk (c := 3954) (by omega) ht, hc.1, if_pos (fun e => by
      have := (nI_inj (a := V1.2.2.1 t) (b := 0) (by omega) (by omega)).mp e
      omega), li_add, ix_nI (by omega) (by omega), h.tk (c := 3982) (by omega) ht, d4]
    exact e1
  unfold gX11_calls_40
  rw [if_pos (nI_m1 (by omega)), if_neg hkne, li_add, ix_nI (by omega) (by omega), h.tk (c := 3975) (by omega) ht, d5, li_add, ix_nI (by omega) (by omega), h.pr (by omega), q_has, cl_some, if_rb]
  unfold gX11_calls_84
  by_cases cb : bt (V1.1 (2238 + (V1.2.2.2 t (V1.2.2.1 t - 1)).1)) k0
  · rw [if_pos cb]
    exact htail 1 (rb_pos cb).symm
  · rw [if_neg cb]
    exact htail 0 (rb_neg cb).symm
theorem vnx_eq {lim : Nat} (hj : VJ lim V) (hc : Ico V t np) : vtop V t = vnx V t := by
  rw [hc.top]
  unfold vnx
  rw [vnp_of hc.2.1 hc.2.2.1.2]
/-- called out of a frame, with a slot of it -/
theorem q_calls {bk k0 z2 : Nat} {l5 : Int32} (h : RS s V) (hP : Vpre 2048 V t np z) (hf : f < 10) (hs1 : 1 ≤ vsz V.1 f) (hr2 : V.1 2051 = nI z2) (hz2 : z2 ≤ 80) (hk : V.1 2067 = nI k) (hk2 : k < 2147483300) (hs : V.1 (3989 + t) = -1 ∨ ∃ k, k < 3 ∧ V.1 (3989 + t) = nI k) (h0 : 0 < V.2.2.1 t) (hk0 : k0 < vsz V.1 (V.2.2.2 t (V.2.2.1 t - 1)).1) (hE : vE V.1 (V.2.2.2 t (V.2.2.1 t - 1)).1 f) :
    ∃ s', gX11_calls s (nI t) (nI f) (nI bk) (nI k0) l5 = some ((), s') ∧ RS s' (vcl 2048 V t f bk (vha V.1 f (V.2.2.2 t (V.2.2.1 t - 1)) k0)) ∧ RF s s' := by
  have hP0 := hP
  obtain ⟨hj, hc, ht, hz, h8, hzl, hl, hl2, hq⟩ := hP
  have hft := (hj.fit ht (show V.2.2.1 t - 1 < V.2.2.1 t by omega)).1
  unfold gX11_calls
  rw [q_isCovered h hj rfl hc ht, cl_some, if_rb]
  unfold vcl
  by_cases c : vlc V t = true
  · rw [if_pos c, if_pos c, q_topOf h hj rfl hc ht, cl_some]
    obtain ⟨d, x1, x2, x3⟩ := vlc_room hj hc ht c hE
    have hd := (vdp_le hj.1 hf x1).1
    obtain ⟨c1, c2⟩ := q_cnt (c := 11) (v := 1) h (by omega)
    have hw1 : vpe V.1 (vcn V 11 1).1 := vpe.upd (by omega)
    have hj1 : VJ 2048 (vcn V 11 1) := VJ.vs hj (by omega)
    have hc1 : Icn (vcn V 11 1) t np := (ico_vs hc hj.1 (by omega) (by omega)).n'
    have hff : ∀ i, i < V.2.2.1 t → (V.2.2.2 t i).1 < 10 := fun i hi => (hj.fit ht hi).1
    have hvnx : vnx (vcn V 11 1) t = vnx V t := by
      unfold vnx
      have : vnp (vcn V 11 1) t = vnp V t := by unfold vnp; rw [vcn_ne (by omega)]
      rw [this]
      show vat V.2.1 t _ + vud (vcn V 11 1).1 (V.2.2.2 t) _ (V.2.2.1 t) = _
      rw [(hw1.us hff).2]
    obtain ⟨s', e1, e2, e3⟩ := q_calls_40 (bk := bk) (l5 := l5) (l6 := rb (vlc V t = true)) c2 hj1 hc1 ht hf (by rw [(hw1.sz hf).1]; exact hs1) (by rw [vcn_ne (by omega)]; exact hr2) hz2 (by
      show vud (vcn V 11 1).1 (V.2.2.2 t) _ (V.2.2.1 t) + _ ≤ vln V.2.1 t (np - 1)
      rw [(hw1.us hff).2, (hw1.sz hf).2.1]
      omega) h0 (k0 := k0) (by show k0 < vsz (vcn V 11 1).1 (V.2.2.2 t (V.2.2.1 t - 1)).1; rw [(hw1.sz hft).1]; exact hk0)
    have hha : vha (vcn V 11 1).1 f (V.2.2.2 t (V.2.2.1 t - 1)) k0 = vha V.1 f (V.2.2.2 t (V.2.2.1 t - 1)) k0 := by
      unfold vha
      rw [(hw1.sz hft).2.2.2, (hw1.sz hf).2.2.2]
    rw [if_pos (Or.inl (by rw [rb_pos c]; decide))] at e2
    have e2 : RS s' (vpu (vcn V 11 1) t f (bk + 1024) (vha (vcn V 11 1).1 f (V.2.2.2 t (V.2.2.1 t - 1)) k0).1 (vha (vcn V 11 1).1 f (V.2.2.2 t (V.2.2.1 t - 1)) k0).2) := e2
    rw [hha] at e2
    refine ⟨s', ?_, e2, RF.trans (RF.uf (Or.inl rfl)) e3⟩
    unfold gX11_calls_26
    rw [if_neg (by rw [rb_pos c]; decide), show gX11_counts s 11 1 = _ from c1, cl_some, vnx_eq hj hc, ← hvnx]
    exact e1
  · have c' : vlc V t = false := by simpa using c
    rw [if_neg c, if_neg c]
    have hnc := (vlc_iff hj hc).1 c'
    obtain ⟨s1, r1, r2, r3⟩ := q_roomFor h hP0 hf hr2 hz2 hk hk2 hs hnc
    obtain ⟨v1, v2, -⟩ := vrm_inv (lim := 2048) hP0 hf hs1 hk hnc
    rw [r1, cl_some]
    generalize hres : vrm 2048 V t f = res at *
    obtain ⟨b, V1⟩ := res
    unfold gX11_calls_26
    rw [if_pos (rb_neg c)]
    cases b with
    | true =>
      obtain ⟨a1, a2, a3, a4, a5, np2, a6, a7⟩ := v1 rfl
      have hw1 : vpe V.1 V1.1 := fun i hi => a5 i (fun q => by unfold vrs vgs at q; omega)
      have e22 : V1.2.2 = V.2.2 := a2
      have en : V1.2.2.1 = V.2.2.1 := by rw [e22]
      have ef : V1.2.2.2 = V.2.2.2 := by rw [e22]
      have hff : ∀ i, i < V.2.2.1 t → (V.2.2.2 t i).1 < 10 := fun i hi => (hj.fit ht hi).1
      have hnd := vnd_ge (w := V.1) hj.1 hf
      obtain ⟨s', e1, e2, e3⟩ := q_calls_40 (bk := bk) (l5 := l5) (l6 := rb (vlc V t = true)) (k0 := k0) r2 a1 a6 ht hf (by rw [(hw1.sz hf).1]; exact hs1) (by rw [hw1 2051 (Or.inr (Or.inr rfl))]; exact hr2) hz2 (by
        rw [en, ef, (hw1.us hff).2, (hw1.sz hf).2.1]
        have a7 : vud V.1 (V.2.2.2 t) (np2 - 1) (V.2.2.1 t) + vnd V.1 f ≤ vln V1.2.1 t (np2 - 1) := a7
        omega) (by rw [en]; exact h0) (by rw [en, ef, (hw1.sz hft).1]; exact hk0)
      have hha : vha V1.1 f (V.2.2.2 t (V.2.2.1 t - 1)) k0 = vha V.1 f (V.2.2.2 t (V.2.2.1 t - 1)) k0 := by
        unfold vha
        rw [(hw1.sz hft).2.2.2, (hw1.sz hf).2.2.2]
      rw [en, ef, hha, (hw1.mg hj.1 hf).1] at e2
      refine ⟨s', e1, ?_, RF.trans r3 e3⟩
      by_cases cm : vmg V.1 f = true
      · rw [if_pos (Or.inr cm)] at e2
        show RS s' (vpu V1 t f (bk + if vmg V.1 f = true then 1024 else 0) _ _)
        rw [if_pos cm]
        exact e2
      · rw [if_neg (fun e => e.elim (fun q => q (rb_neg c)) cm)] at e2
        show RS s' (vpu V1 t f (bk + if vmg V.1 f = true then 1024 else 0) _ _)
        rw [if_neg cm]
        exact e2
    | false =>
      refine ⟨s1, ?_, r2, r3⟩
      show gX11_calls_40 s1 (nI t) (nI f) (nI bk) (nI k0) l5 _ (-1) = _
      unfold gX11_calls_40
      rw [if_neg (by simp)]
/-- a task's first call -/
theorem q_calls0 {z2 : Nat} {a : Int32} (h : RS s V) (hP : Vpre 2048 V t np z) (hf : f < 10) (hs1 : 1 ≤ vsz V.1 f) (hr2 : V.1 2051 = nI z2) (hz2 : z2 ≤ 80) (hk : V.1 2067 = nI k) (hk2 : k < 2147483300) (hs : V.1 (3989 + t) = -1 ∨ ∃ k, k < 3 ∧ V.1 (3989 + t) = nI k) (h0 : V.2.2.1 t = 0) :
    ∃ s', gX11_calls s (nI t) (nI f) 0 (-1) a = some ((), s') ∧ RS s' (vcl 2048 V t f 0 (if bt (V.1 (2238 + f)) 0 then 0 else a, none)) ∧ RF s s' := by
  have hP0 := hP
  obtain ⟨hj, hc, ht, hz, h8, hzl, hl, hl2, hq⟩ := hP
  have c : vlc V t = false := by unfold vlc; rw [h0]; rfl
  have c2 : ¬ vlc V t = true := by rw [c]; simp
  unfold gX11_calls
  rw [q_isCovered h hj rfl hc ht, cl_some, if_rb, if_neg c2]
  unfold vcl
  rw [if_neg c2]
  have hnc : ∀ i, i < V.2.2.1 t → ¬ vcv (V.2.2.2 t i) := fun i hi => absurd hi (by omega)
  obtain ⟨s1, r1, r2, r3⟩ := q_roomFor h hP0 hf hr2 hz2 hk hk2 hs hnc
  obtain ⟨v1, v2, -⟩ := vrm_inv (lim := 2048) hP0 hf hs1 hk hnc
  rw [r1, cl_some]
  generalize hres : vrm 2048 V t f = res at *
  obtain ⟨b, V1⟩ := res
  unfold gX11_calls_26
  rw [if_pos (rb_neg c2)]
  cases b with
  | true =>
    obtain ⟨a1, a2, a3, a4, a5, np2, a6, a7⟩ := v1 rfl
    have hw1 : vpe V.1 V1.1 := fun i hi => a5 i (fun q => by unfold vrs vgs at q; omega)
    have e22 : V1.2.2 = V.2.2 := a2
    have en : V1.2.2.1 = V.2.2.1 := by rw [e22]
    have ef : V1.2.2.2 = V.2.2.2 := by rw [e22]
    have hff : ∀ i, i < V.2.2.1 t → (V.2.2.2 t i).1 < 10 := fun i hi => (hj.fit ht hi).1
    have hnd := vnd_ge (w := V.1) hj.1 hf
    have hr : vud V1.1 (V1.2.2.2 t) (np2 - 1) (V1.2.2.1 t) + vwd V1.1 f ≤ vln V1.2.1 t (np2 - 1) := by
      rw [en, ef, (hw1.us hff).2, (hw1.sz hf).2.1]
      have a7 : vud V.1 (V.2.2.2 t) (np2 - 1) (V.2.2.1 t) + vnd V.1 f ≤ vln V1.2.1 t (np2 - 1) := a7
      omega
    have hfit : vnx V1 t + vwd V1.1 f ≤ 2048 := (a6.free a1 ht hr).1
    obtain ⟨s', e1, e2, e3⟩ := q_calls_149 (bk := 0) (l6 := rb (vlc V t = true)) (iP := 0) (v := a) (base := -1) (a := if bt (V.1 (2238 + f)) 0 then 0 else a) (q := none) r2 a1 a6 ht hf (by rw [(hw1.sz hf).1]; exact hs1) (by rw [hw1 2051 (Or.inr (Or.inr rfl))]; exact hr2) hz2 hr (by rw [en, if_pos h0]) (by
      unfold vsw vdf vfn
      show _ = (if bt (V1.1 (2238 + f)) 0 then _ else _)
      rw [(hw1.sz hf).2.2.2]
      by_cases cf : bt (V.1 (2238 + f)) 0
      · rw [rb_pos cf, if_pos (by decide), if_pos cf, if_pos cf]
        rfl
      · rw [rb_neg cf, if_neg (by simp), if_neg cf, if_neg cf]
        rfl) (fun x hx => by cases hx)
    rw [(hw1.mg hj.1 hf).1] at e2
    refine ⟨s', ?_, ?_, RF.trans r3 e3⟩
    · show gX11_calls_40 s1 (nI t) (nI f) 0 (-1) a _ (nI (vnx V1 t)) = _
      unfold gX11_calls_40
      rw [if_pos (nI_m1 (by omega)), if_pos rfl]
      unfold gX11_calls_84 gX11_calls_85
      rw [if_neg (by simp)]
      unfold gX11_calls_117
      rw [li_add, ix_nI (by omega) (by omega), r2.tk (c := 3954) (by omega) ht, a6.1, en, h0, if_neg (by decide)]
      exact e1
    · by_cases cm : vmg V.1 f = true
      · rw [if_pos (Or.inr cm)] at e2
        show RS s' (vpu V1 t f (0 + if vmg V.1 f = true then 1024 else 0) _ _)
        rw [if_pos cm]
        exact e2
      · rw [if_neg (fun e => e.elim (fun q => q (rb_neg c2)) cm)] at e2
        show RS s' (vpu V1 t f (0 + if vmg V.1 f = true then 1024 else 0) _ _)
        rw [if_neg cm]
        exact e2
  | false =>
    refine ⟨s1, ?_, r2, r3⟩
    show gX11_calls_40 s1 (nI t) (nI f) 0 (-1) a _ (-1) = _
    unfold gX11_calls_40
    rw [if_neg (by simp)]
end
