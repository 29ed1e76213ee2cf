/-! ===== the class: COMPACT, whole ===== -/
section
variable {b lim B : Nat} {s s' : wt_S} {V V' : vV} {zs zs' : List (vP × Nat)} {fr fr' : List Nat} {t np z : Nat}
/-- all tasks' words are turned -/
theorem c_gat_64 {pn : Nat → Nat → Nat} (hx : CX b lim) (hj : VJ lim V) (h4 : ∀ t, t < 6 → s (b + 17 + 2 * t) 4 = nI (V.2.2.1 t)) (h11 : ∀ t, t < 6 → s (b + 17 + 2 * t) 11 = if V.2.2.1 t = 0 then -1 else nI (vpl V t (V.2.2.1 t - 1))) (h9 : ∀ t, t < 6 → 0 < V.2.2.1 t → s (b + 17 + 2 * t) 9 = nI (V.2.2.2 t (V.2.2.1 t - 1)).1) (hn : ∀ t, t < 6 → V.2.2.1 t < 100000) (hG : ∀ t, t < 6 → GC b s V.1 (V.2.2.1 t) (V.2.2.2 t) (vpl V t) (pn t)) (hR : RP 5 s V.1) :
    ∀ (m k fu : Nat) (s1 : wt_S), k + m = 6 → m < fu → (∀ c, c ≠ b + 15 → c ≠ b + 16 → (∀ t, t < 6 → c ≠ b + 17 + 2 * t) → s1 c = s c) → (∀ t, t < 6 → s1 (b + 17 + 2 * t) = if t < k then mj_upd (s (b + 17 + 2 * t)) 11 (if V.2.2.1 t = 0 then -1 else nI (pn t (V.2.2.1 t - 1))) else s (b + 17 + 2 * t)) → (∀ t, t < 6 → vMQ (s1 (b + 15)) V.1 (V.2.2.1 t) (V.2.2.2 t) (vpl V t) (if t < k then pn t else vpl V t)) →
    ∃ s2, gX4_gather_64 b fu s1 6 (nI k) = gX4_gather_92 b wt_N s2 0 0 ∧ (∀ c, c ≠ b + 15 → c ≠ b + 16 → (∀ t, t < 6 → c ≠ b + 17 + 2 * t) → s2 c = s c) ∧ (∀ t, t < 6 → s2 (b + 17 + 2 * t) = mj_upd (s (b + 17 + 2 * t)) 11 (if V.2.2.1 t = 0 then -1 else nI (pn t (V.2.2.1 t - 1)))) ∧ ∀ t, t < 6 → vMQ (s2 (b + 15)) V.1 (V.2.2.1 t) (V.2.2.2 t) (vpl V t) (pn t) := by
  have hb := hx.b
  intro m
  induction m with
  | zero =>
    intro k fu s1 hk hfu h1 h2 h3
    obtain ⟨fu, rfl⟩ : ∃ k, fu = k + 1 := ⟨fu - 1, by omega⟩
    have hk6 : k = 6 := by omega
    subst hk6
    refine ⟨s1, ?_, h1, fun t ht => by rw [h2 t ht, if_pos ht], fun t ht => by have := h3 t ht; rw [if_pos ht] at this; exact this⟩
    rw [gX4_gather_64, if_pos (by decide)]
  | succ m ih =>
    intro k fu s1 hk hfu h1 h2 h3
    obtain ⟨fu, rfl⟩ : ∃ k, fu = k + 1 := ⟨fu - 1, by omega⟩
    have hk6 : k < 6 := by omega
    have eT : s1 (b + 17 + 2 * k) = s (b + 17 + 2 * k) := by rw [h2 k hk6, if_neg (by omega)]
    have hR1 : RP 5 s1 V.1 := hR.eq hj.1 vpe.refl (fun c c1 c2 => h1 c (by omega) (by omega) (fun t _ => by omega))
    have hG1 : GC b s1 V.1 (V.2.2.1 k) (V.2.2.2 k) (vpl V k) (pn k) := fun s' hs' => hG k hk6 s' (fun c c1 c2 => by rw [hs' c c1 c2]; exact h1 c (by omega) (by omega) (fun t _ => by omega))
    have hq1 := h3 k hk6
    rw [if_neg (by omega)] at hq1
    obtain ⟨s2, t1, t2, t3, t4, t5⟩ := c_turns (s := s1) hx (T := b + 17 + 2 * k) (by omega) (hn k hk6) (by rw [eT]; exact h4 k hk6) (by rw [eT]; exact h11 k hk6) (fun h0 => by rw [eT]; exact h9 k hk6 h0) (fun h0 => TH.of hj hk6 h0) hG1 hR1 hq1
    rw [gX4_gather_64, if_neg (by rw [nI_int (by omega)]; show ¬ (6 : Int) ≤ _; omega), ix_nI hk6 (by omega), t1, cl_some, show nI k + 1 = nI (k + 1) from nI_add k 1]
    refine ih (k + 1) fu s2 (by omega) (by omega) (fun c c1 c2 c3 => by rw [t2 c c1 c2 (c3 k hk6)]; exact h1 c c1 c2 c3) (fun t ht => ?_) (fun t ht => ?_)
    · by_cases c : t = k
      · subst c
        rw [t3, eT, if_pos (show t < t + 1 by omega)]
      · rw [t2 _ (by omega) (by omega) (by omega), h2 t ht]
        by_cases c2 : t < k
        · rw [if_pos c2, if_pos (show t < k + 1 by omega)]
        · rw [if_neg c2, if_neg (show ¬ t < k + 1 by omega)]
    · by_cases c : t = k
      · subst c
        rw [if_pos (by omega)]
        exact t4
      · have := h3 t ht
        rw [show (if t < k + 1 then pn t else vpl V t) = (if t < k then pn t else vpl V t) by
          by_cases c2 : t < k
          · rw [if_pos c2, if_pos (by omega)]
          · rw [if_neg c2, if_neg (by omega)]]
        refine vMQ_mem this (fun i hi j hj2 => t5 _ (fun j' hj' => ?_))
        have := hj.dj ht hk6 hi hj' (fun q => c q.1)
        omega
theorem cm_at (hx : CX b 2048) (h1 : zs.map Prod.fst = V.2.1) (hj : VJ 2048 V) (hP : PC b 2048 s zs fr) {x : Nat} {y : vP × Nat} (hy : zs[x]? = some y) : vat (vpk 0 V.2.1) y.1.2.2.1 y.1.2.2.2 = zP zs x := by
  have hpw : (vpk 0 V.2.1).Pairwise (fun p q => ¬ (p.2.2.1 = q.2.2.1 ∧ p.2.2.2 = q.2.2.2)) := (cm_J hj).2.2.1
  have hm : (zpk zs).map Prod.fst = vpk 0 V.2.1 := by rw [zpk_fst, h1]
  have hin : ((zP zs x, y.1.2.1, y.1.2.2), y.2) ∈ zpk zs := zpk_mem.mpr ⟨x, y, hy, rfl⟩
  obtain ⟨-, w, -, w2, w3, w4, w5, -⟩ := zfind (t := y.1.2.2.1) (n := y.1.2.2.2) hm hpw ⟨(zP zs x, y.1.2.1, y.1.2.2), by rw [← hm]; exact List.mem_map.mpr ⟨_, hin, rfl⟩, rfl, rfl⟩
  have := zuniq hm hpw w2 hin w3 w4
  rw [w5, this]
theorem c_gather (h : RC b 2048 s V zs fr) (hx : CX b 2048) (hI : VI 2048 B V) : ∃ s' zs', gX4_gather b s = some (nI (vcc 0 V.2.1), s') ∧ RC b 2048 s' (vcm V) zs' fr ∧ CF b s s' := by
  have hb := hx.b
  have hxm := hx.m
  have hj := hI.J
  have ho : vo 2048 (zs.map Prod.fst) := by rw [h.1]; exact hj.2.1
  have hn := h.2.1.len
  obtain ⟨s2, a1, a2, a3⟩ := c_gat_4 h.2.1 ho hx.2.2 zs.length 0 wt_N s (by omega) (by unfold wt_N; omega) (fun _ _ => rfl) (fun x y hx _ => by omega)
  -- what is used
  have hu : ∀ (x : Nat) (y : vP × Nat), zs[x]? = some y → s2 (b + 5) y.2 = nI ((fun y : vP × Nat => vud V.1 (V.2.2.2 y.1.2.2.1) y.1.2.2.2 (V.2.2.1 y.1.2.2.1)) y) ∧ (fun y : vP × Nat => vud V.1 (V.2.2.2 y.1.2.2.1) y.1.2.2.2 (V.2.2.1 y.1.2.2.1)) y ≤ y.1.2.1 := fun x y hy => by
    have hm := List.mem_of_getElem? hy
    have hin := h.mem hm
    have ht6 := (hj.2.1.2 y.1 hin).2.2.1
    refine ⟨?_, ?_⟩
    · rw [a2 _ (by omega)]
      exact ((h.2.2.2.1 _ ht6).2.2.2.2.2 y hm rfl).1
    · show vud V.1 (V.2.2.2 y.1.2.2.1) y.1.2.2.2 (V.2.2.1 y.1.2.2.1) ≤ y.1.2.1
      by_cases c : V.2.2.1 y.1.2.2.1 = 0
      · rw [c, vud]; omega
      · obtain ⟨np, g1, g2, -⟩ := hj.geo ht6 (by omega)
        have := g2.udl (k := y.1.2.2.2)
        obtain ⟨-, w, -, w2, w3, w4, w5, w6, -⟩ := zfind (t := y.1.2.2.1) (n := y.1.2.2.2) h.1 hj.2.2.1 ⟨y.1, hin, rfl, rfl⟩
        have hwy := zuniq h.1 hj.2.2.1 w2 hm w3 w4
        rw [w6, hwy] at this
        exact this
  -- where a frame comes
  have hpc : ∀ t, t < 6 → ∀ i, i < V.2.2.1 t → ∃ x y, zs[x]? = some y ∧ y ∈ zs ∧ y.1.2.2.1 = t ∧ y.1.2.2.2 = (V.2.2.2 t i).2.1 ∧ vpl V t i = y.1.1 + (V.2.2.2 t i).2.2.1 ∧ vpl (vcp1 V) t i = zP zs x + (V.2.2.2 t i).2.2.1 ∧ (V.2.2.2 t i).2.2.1 + vwd V.1 (V.2.2.2 t i).1 ≤ y.1.2.1 ∧ (V.2.2.2 t i).2.2.1 + vwd V.1 (V.2.2.2 t i).1 ≤ vud V.1 (V.2.2.2 t) (V.2.2.2 t i).2.1 (V.2.2.1 t) := fun t ht i hi => by
    obtain ⟨np, g1, g2, -⟩ := hj.geo ht (by omega)
    have hfit := (g2.1 i hi).2
    obtain ⟨-, y, -, y2, y3, y4, y5, y6, -⟩ := zfind (t := t) (n := (V.2.2.2 t i).2.1) h.1 hj.2.2.1 (g1.1 _ (g2.1 i hi).1)
    obtain ⟨x, hy⟩ := List.getElem?_of_mem y2
    have hva := cm_at hx h.1 hj h.2.1 hy
    rw [y3, y4] at hva
    refine ⟨x, y, hy, y2, y3, y4, ?_, ?_, ?_, g2.udi hi⟩
    · unfold vpl; rw [y5]
    · show vat (vpk 0 V.2.1) t (V.2.2.2 t i).2.1 + (V.2.2.2 t i).2.2.1 = _
      rw [hva]
    · rw [y6] at hfit; exact hfit
  have hG : ∀ t, t < 6 → GC b s2 V.1 (V.2.2.1 t) (V.2.2.2 t) (vpl V t) (vpl (vcp1 V) t) := fun t ht s' hs' i hi j hj2 => by
    have hP' : PC b 2048 s' zs fr := h.2.1.eq (fun c hc => by rw [hs' c (by omega) (by omega), a2 c (by omega)])
    obtain ⟨x, y, hy, y2, y3, y4, y5, y6, y7, -⟩ := hpc t ht i hi
    rw [c_turned hP' ho hx.2.2 y2 ⟨by omega, by omega⟩, hs' _ (by omega) (by omega), a3 x y hy, nI_turn (by omega), y5, y6, show zP zs x + (y.1.1 + (V.2.2.2 t i).2.2.1 + j - y.1.1) = zP zs x + (V.2.2.2 t i).2.2.1 + j by omega]
  have hfn : ∀ t, t < 6 → V.2.2.1 t < 100000 := fun t ht => by have := hI.n ht; omega
  have hT : ∀ t, t < 6 → s2 (b + 17 + 2 * t) = s (b + 17 + 2 * t) := fun t ht => a2 _ (by omega)
  obtain ⟨s3, c1, c2, c3, c4⟩ := c_gat_64 (s := s2) (pn := vpl (vcp1 V)) hx hj (fun t ht => by rw [hT t ht, h.at ht (e := (4, 3954)) (by decide)]; exact hI.f54 ht) (fun t ht => by
    rw [hT t ht]
    have k2 := (h.2.2.2.1 t ht).2.1
    by_cases c : V.2.2.1 t = 0
    · rw [if_pos c]; exact (k2.1 c).2
    · rw [if_neg c]; exact (k2.2 (by omega)).2) (fun t ht h0 => by
    rw [hT t ht, h.at ht (e := (9, 3975)) (by decide)]
    obtain ⟨-, n, np, e1, e2, e3, e4, e5, e6, e7, e8, e9, e10, e11, e12, -⟩ := hI.bz ht h0
    rw [e1, Nat.add_sub_cancel]
    exact e12) hfn hG (h.2.2.2.2.2.eq hj.1 vpe.refl (fun c c1 c2 => a2 c (by omega))) 6 0 wt_N s2 (by omega) (by unfold wt_N; omega) (fun _ _ _ _ => rfl) (fun t ht => by rw [if_neg (by omega)]) (fun t ht => by rw [if_neg (by omega), a2 _ (by omega)]; exact h.2.2.2.2.1.q ht)
  have f3 : ∀ c, b + 2 ≤ c → c ≤ b + 9 → s3 c = s2 c := fun c h1 h2 => c2 c (by omega) (by omega) (fun t _ => by omega)
  have hP3 : PC b 2048 s3 zs fr := h.2.1.eq (fun c hc => by rw [f3 c (by omega) (by omega), a2 c (by omega)])
  obtain ⟨s4, d1, d2, d3, d4⟩ := c_gat_92 (u := fun y : vP × Nat => vud V.1 (V.2.2.2 y.1.2.2.1) y.1.2.2.2 (V.2.2.1 y.1.2.2.1)) hx hP3 ho (fun x y hy => by rw [f3 _ (by omega) (by omega)]; exact a3 x y hy) (fun x y hy => by rw [f3 _ (by omega) (by omega)]; exact hu x y hy) zs.length 0 0 wt_N s3 (by omega) (by unfold wt_N; omega) (by omega) (fun _ _ _ _ _ => rfl) (fun x y hy => by
    rw [if_neg (by omega)]
    exact (hP3.at hy).2.2.2.2.1) (fun _ _ => rfl) (fun x y hx _ => by omega)
  rw [Nat.zero_add, List.drop_zero, h.1] at d1
  have hO : ∀ c, c ≠ b + 3 → c ≠ b + 9 → c ≠ b + 11 → c ≠ b + 12 → c ≠ b + 15 → c ≠ b + 16 → (∀ t, t < 6 → c ≠ b + 17 + 2 * t) → s4 c = s c := fun c q1 q2 q3 q4 q5 q6 q7 => by
    rw [d2 c q1 q5 q3 q4, c2 c q5 q6 q7, a2 c q2]
  have hT4 : ∀ t, t < 6 → s4 (b + 17 + 2 * t) = mj_upd (s (b + 17 + 2 * t)) 11 (if V.2.2.1 t = 0 then -1 else nI (vpl (vcp1 V) t (V.2.2.1 t - 1))) := fun t ht => by
    rw [d2 _ (by omega) (by omega) (by omega) (by omega), c3 t ht, hT t ht]
  refine ⟨s4, zpk zs, ?_, ?_, fun c hc => hO c (by omega) (by omega) (by omega) (by omega) (by omega) (by omega) (fun t ht => by omega)⟩
  · unfold gX4_gather
    have : zP zs 0 = 0 := rfl
    rw [this] at a1 d1
    rw [show (0 : Int32) = nI 0 from rfl, a1]
    show gX4_gather_64 b wt_N s2 6 (nI 0) = _
    rw [c1]
    exact d1
  have hv : ∀ i, i ≠ 2067 → (i < 3982 ∨ 3988 ≤ i) → (vcm V).1 i = V.1 i := fun i h1 h2 => vcm_ne h1 h2
  have hw : vpe V.1 (vcm V).1 := fun i hi => hv i (by omega) (by omega)
  have hm : (zpk zs).map Prod.fst = vpk 0 V.2.1 := by rw [zpk_fst, h.1]
  have hids : zids (zpk zs) fr = zids zs fr := by unfold zids; rw [zpk_snd]
  have hzz : ∀ y' ∈ zpk zs, ∃ x y, zs[x]? = some y ∧ y ∈ zs ∧ y' = ((zP zs x, y.1.2.1, y.1.2.2), y.2) := fun y' hy' => by
    obtain ⟨x, y, q1, q2⟩ := zpk_mem.mp hy'
    exact ⟨x, y, q1, List.mem_of_getElem? q1, q2⟩
  refine ⟨hm, ⟨?_, ?_, ?_, by rw [hids]; exact h.2.1.2.2.2.1, by rw [hids]; exact h.2.1.2.2.2.2.1, by rw [hids]; exact h.2.1.2.2.2.2.2.1, fun x i hi => ?_, fun y' hy' => ?_⟩, h.2.2.1.keep (hO _ (by omega) (by omega) (by omega) (by omega) (by omega) (by omega) (fun t _ => by omega)) (hO _ (by omega) (by omega) (by omega) (by omega) (by omega) (by omega) (fun t _ => by omega)) (fun i i1 i2 => hv i (by omega) (by omega)), fun k hk => ?_, fun k hk => ?_, h.2.2.2.2.2.eq hj.1 hw (fun c q1 q2 => hO c (by omega) (by omega) (by omega) (by omega) (by omega) (by omega) (fun t _ => by omega))⟩
  · rw [zpk_len, hO _ (by omega) (by omega) (by omega) (by omega) (by omega) (by omega) (fun t _ => by omega)]; exact h.2.1.1
  · rw [hm, vall_pk, ← h.1, hO _ (by omega) (by omega) (by omega) (by omega) (by omega) (by omega) (fun t _ => by omega)]; exact h.2.1.2.1
  · rw [hO _ (by omega) (by omega) (by omega) (by omega) (by omega) (by omega) (fun t _ => by omega)]; exact h.2.1.2.2.1
  · rw [hids] at hi
    rw [hO _ (by omega) (by omega) (by omega) (by omega) (by omega) (by omega) (fun t _ => by omega)]
    exact h.2.1.2.2.2.2.2.2.1 x i hi
  · obtain ⟨x, y, q1, q2, rfl⟩ := hzz y' hy'
    obtain ⟨p1, p2, p3, p4⟩ := h.2.1.mem q2
    refine ⟨d3 x y q1, ?_, ?_⟩
    · rw [hO _ (by omega) (by omega) (by omega) (by omega) (by omega) (by omega) (fun t _ => by omega)]; exact p3
    · rw [hO _ (by omega) (by omega) (by omega) (by omega) (by omega) (by omega) (fun t _ => by omega)]; exact p4
  · obtain ⟨⟨k0, k1, k1'⟩, k2, k3, k4, k5, k6⟩ := h.2.2.2.1 k hk
    have hTj : ∀ j, j ≠ 11 → s4 (b + 17 + 2 * k) j = s (b + 17 + 2 * k) j := fun j hj => by rw [hT4 k hk, mj_upd_ne hj]
    have hT11 : s4 (b + 17 + 2 * k) 11 = if V.2.2.1 k = 0 then -1 else nI (vpl (vcp1 V) k (V.2.2.1 k - 1)) := by rw [hT4 k hk, mj_upd_self]
    have e5 : s4 (b + 5) = s (b + 5) := hO _ (by omega) (by omega) (by omega) (by omega) (by omega) (by omega) (fun t _ => by omega)
    have e6 : s4 (b + 6) = s (b + 6) := hO _ (by omega) (by omega) (by omega) (by omega) (by omega) (by omega) (fun t _ => by omega)
    refine ⟨⟨?_, fun e he => ?_, fun e he => ?_⟩, ⟨fun e => ⟨?_, ?_⟩, fun e => ⟨?_, ?_⟩⟩, ⟨?_, fun y' hy' hyt hyn => ?_⟩, ⟨fun y' hy' q1 q2 => ?_, fun hq => ?_⟩, ?_, fun y' hy' hyt => ?_⟩
    · rw [hTj _ (by omega)]; exact k0
    · have q1 := tf_n e he
      have q2 := tf_p e he
      rw [hTj _ (by omega), hv _ (by omega) (by omega)]; exact k1 e he
    · have q1 := ts_n e he
      have q2 := ts_p e he
      rw [hO _ (by omega) (by omega) (by omega) (by omega) (by omega) (by omega) (fun t _ => by omega), hv _ (by omega) (by omega)]; exact k1' e he
    · rw [hTj _ (by omega)]; exact (k2.1 e).1
    · have e : V.2.2.1 k = 0 := e
      rw [hT11, if_pos e]
    · rw [hTj _ (by omega), hv _ (by omega) (by omega)]; exact (k2.2 e).1
    · have e : 0 < V.2.2.1 k := e
      rw [hT11, if_neg (by omega)]
      rfl
    · rw [hTj _ (by omega), hv _ (by omega) (by omega)]; exact k3.1
    · obtain ⟨x, y, q1, q2, rfl⟩ := hzz y' hy'
      rw [hv _ (by omega) (by omega)] at hyn
      rw [hTj _ (by omega)]
      exact k3.2 y q2 hyt hyn
    · obtain ⟨x, y, p1, p2, rfl⟩ := hzz y' hy'
      rw [hTj _ (by omega)]
      exact k4.1 y p2 q1 q2
    · rw [hTj _ (by omega)]
      refine k4.2 (fun q hq1 hq2 => ?_)
      obtain ⟨p, hp1, hp2⟩ := vpk_mem2 (a := 0) hq1
      exact hq p hp1 (by rw [hp2]; exact hq2)
    · unfold Kg
      rw [hTj _ (by omega), hv _ (by omega) (by omega), hv _ (by omega) (by omega)]; exact k5
    · obtain ⟨x, y, q1, q2, rfl⟩ := hzz y' hy'
      obtain ⟨u1, u2, u3⟩ := k6 y q2 hyt
      rw [e5, e6]
      refine ⟨?_, u2, fun y'' hy'' hyt'' hyn => ?_⟩
      · rw [u1]
        show nI (vud V.1 (V.2.2.2 k) y.1.2.2.2 (V.2.2.1 k)) = nI (vud (vcm V).1 (V.2.2.2 k) y.1.2.2.2 (V.2.2.1 k))
        rw [vud_pe hw (hj.vfr k hk)]
      · obtain ⟨x', y0, p1, p2, rfl⟩ := hzz y'' hy''
        exact u3 y0 p2 hyt'' hyn
  · intro i hi
    have hi : i < V.2.2.1 k := hi
    have hf10 := hj.vfr k hk i hi
    have hsz := hw.sz hf10
    obtain ⟨v1, v2, v3⟩ := c4 k hk i hi
    obtain ⟨x, y, hy, y2, y3, y4, y5, y6, y7, y8⟩ := hpc k hk i hi
    have hcp : ∀ j, j < vwd V.1 (V.2.2.2 k i).1 → s4 (b + 15) (vpl (vcp1 V) k i + j) = s3 (b + 15) (vpl V k i + j) := fun j hj2 => by
      have := d4 x y hy ((V.2.2.2 k i).2.2.1 + j) (by show _ < vud V.1 (V.2.2.2 y.1.2.2.1) y.1.2.2.2 (V.2.2.1 y.1.2.2.1); rw [y3, y4]; omega)
      rw [y5, y6, Nat.add_assoc, this, Nat.add_assoc]
    show (V.2.2.2 k i).1 < 10 ∧ s4 (b + 15) (vpl (vcp1 V) k i) = (if i = 0 then -1 else nI (vpl (vcp1 V) k (i - 1))) ∧ s4 (b + 15) (vpl (vcp1 V) k i + 1) = nI (V.2.2.2 k i).2.2.2.1 ∧ ∀ j, j < vsz (vcm V).1 (V.2.2.2 k i).1 → s4 (b + 15) (vpl (vcp1 V) k i + 2 + j) = vsw (vcm V).1 (vpl (vcp1 V) k) (V.2.2.2 k i) j
    refine ⟨hf10, ?_, ?_, fun j hj2 => ?_⟩
    · have this : s4 (b + 15) (vpl (vcp1 V) k i) = s3 (b + 15) (vpl V k i) := hcp 0 (by unfold vwd; omega)
      rw [this, v1]
    · rw [hcp 1 (by unfold vwd; omega), v2]
    · rw [hsz.1] at hj2
      rw [Nat.add_assoc, hcp (2 + j) (by unfold vwd; omega), ← Nat.add_assoc, v3 j hj2]
      unfold vsw
      rw [hsz.2.2.2]
theorem wl_cm {t : Nat} (h : WL V t) (hI : VI 2048 B V) (ht : t < 6) : WL (vcm V) t := by
  by_cases c : V.1 (3926 + t) = 2
  · exact h.eq hI.2.1 (fun i hi => vcm_ne (by omega) (by omega)) (vbz_f hI ht (Or.inr c)).2 (vcm_ne (by omega) (by omega)) (vcm_ne (by omega) (by omega)) rfl
  · exact WL.no (by rw [vcm_ne (by omega) (by omega)]; exact c)
theorem wl_jo {t : Nat} (h : WL V t) (hI : VI lim B V) (ht : t < 6) (hb : vbz V.1 t) : WL (vjo lim V t).2 t := by
  unfold vjo
  dsimp only
  cases vgap lim 0 V.2.1 (vdbl (vkp V t) 16 (V.1 2048).toInt.toNat) with
  | none => exact h
  | some g =>
    generalize vdbl (vkp V t) 16 (V.1 2048).toInt.toNat = words
    have hv : ∀ i, i ≠ 3982 + t → i ≠ 4066 + t → i ≠ 3933 + t → i ≠ 4017 + t → i ≠ 2059 → i ≠ 2067 → (vj3 (vj2 (vj1 V t g words) t) t).1 i = V.1 i := fun i q1 q2 q3 q4 q5 q6 => (vj3_ne q4 q5 q6).trans ((vj2_ne q2 q3).trans (mj_upd_ne q1))
    refine h.eq hI.2.1 (fun i hi => hv i (by omega) (by omega) (by omega) (by omega) (by omega) (by omega)) (vbz_f hI ht hb).2 (hv _ (by omega) (by omega) (by omega) (by omega) (by omega) (by omega)) (hv _ (by omega) (by omega) (by omega) (by omega) (by omega) (by omega)) ?_
    unfold vlf
    rw [show (vj3 (vj2 (vj1 V t g words) t) t).2.2.2 t = vjf V.1 (V.2.2.2 t) from if_pos rfl]
    rfl
end
