/-! ===== sides, foreign calls, quiet, steps: what is done ===== -/
def vfs (w : Nat → Int32) : Nat → Nat → Option Nat
  | 0, _ => none
  | m + 1, k => if w (3923 + k) = -1 then some k else vfs w m (k + 1)
def vsd (V : vV) (t : Nat) : Option vV := if V.1 (3989 + t) = -1 then (match vfs V.1 (V.1 2052).toInt.toNat 0 with
  | none => none
  | some k => some (vs (vs V (3923 + k) (nI t)) (3989 + t) (nI k))) else some V
def vhs (V : vV) (t : Nat) (words : Int32) : Bool × vV := match vsd V t with
  | none => (false, vcn (vs (vs V (3926 + t) 2) (3968 + t) (V.1 (3968 + t) - 1)) 10 1)
  | some V1 =>
    let V2 := vs V1 (3926 + t) 1
    if (V2.1 (3996 + t) + words).toInt ≤ (V2.1 2053).toInt then (true, vs V2 (3996 + t) (V2.1 (3996 + t) + words)) else (false, vot V2 t)
/-- the last frame -/
def vlf (V : vV) (t : Nat) : vF := V.2.2.2 t (V.2.2.1 t - 1)
def vnm (F : vF) (x : Int32) : Int32 := F.2.2.2.2.1 x.toInt.toNat
def vfg (lim : Nat) (V : vV) (t : Nat) (words f slot : Int32) : vV := match vhs V t words with
  | (false, V1) => V1
  | (true, V1) => if tld V1.1 f then vcl lim V1 t f.toInt.toNat (32 * (vlf V1 t).1 + (V1.1 (3968 + t)).toInt.toNat + 2048) (vha V1.1 f.toInt.toNat (vlf V1 t) slot.toInt.toNat)
    else vfv (vnu V1 t (V1.2.2.1 t - 1) slot.toInt.toNat (3 * vnm (vlf V1 t) slot + 1)) t words
def vkp (V : vV) (t : Nat) : Nat := vuse V t + if vlc V t then (V.1 2051).toInt.toNat else 0
/-- quiet: whether something was made smaller -/
def vqu (lim : Nat) (V : vV) (t : Nat) : Bool × vV :=
  if V.1 (3933 + t) = 1 then ((V.2.1.find? (vkey t 1000)).isSome, vsp V t)
  else if vln V.2.1 t 0 < 4 * vkp V t ∨ vln V.2.1 t 0 / 2 < (V.1 2048).toInt.toNat then (false, V)
  else match vgap lim 0 V.2.1 (vln V.2.1 t 0 / 2) with
    | none => (false, V)
    | some g => (true, vlg1 (vcn (vinc (vmv V t g (vln V.2.1 t 0 / 2)) (4031 + t)) 7 1))
/-- a line is done: kind, a, b, c -/
def vln1 (lim : Nat) (Z : (Nat → Int32) → Int32 → Int32 → Int32 → Bool) (V : vV) (t l : Nat) (kind a b c : Int32) : vV :=
  let i := V.2.2.1 t - 1
  let F := vlf V t
  if kind = 0 then vnu V t i a.toInt.toNat b
  else if kind = 1 then vnu V t i a.toInt.toNat (vnm F b + vnm F c)
  else if kind = 2 then vnu V t i a.toInt.toNat (if (vnm F c).toInt ≤ (vnm F b).toInt then 0 else 1)
  else if kind = 3 then vpo V t i a.toInt.toNat (some (i, b.toInt.toNat))
  else if kind = 4 then vnu V t i a.toInt.toNat (match F.2.2.2.2.2 b.toInt.toNat with
    | none => 0
    | some q => (V.2.2.2 t q.1).2.2.2.2.1 q.2)
  else if kind = 5 then (match F.2.2.2.2.2 a.toInt.toNat with
    | none => V
    | some q => vnu V t q.1 q.2 (vnm F b))
  else if kind = 6 then (if tld V.1 a then vcl lim V t a.toInt.toNat (32 * F.1 + l + 1) (vha V.1 a.toInt.toNat F b.toInt.toNat) else vnu V t i c.toInt.toNat 0)
  else if kind = 7 then (if (vnm F a).toInt ≤ 0 then V else vs V (3968 + t) b)
  else if kind = 8 then vrt Z V t (vnm F a)
  else if kind = 9 then vfg lim V t a b c
  else (vqu lim V t).2
def vst (lim : Nat) (Z : (Nat → Int32) → Int32 → Int32 → Int32 → Bool) (V : vV) (t : Nat) : vV :=
  let V1 := vcn (vinc V (3947 + t)) 2 1
  let f := (vlf V t).1
  let l := (V.1 (3968 + t)).toInt.toNat
  if l < vli V.1 f then vln1 lim Z (vs V1 (3968 + t) (V1.1 (3968 + t) + 1)) t l (V.1 (vco f l)) (V.1 (vco f l + 1)) (V.1 (vco f l + 2)) (V.1 (vco f l + 3))
  else vrt Z V1 t 0
section
variable {s : wt_S} {V : vV} {t np z k : Nat}
theorem vfs_lt {w : Nat → Int32} : ∀ {m k x : Nat}, vfs w m k = some x → k ≤ x ∧ x < k + m ∧ w (3923 + x) = -1 := by
  intro m
  induction m with
  | zero => intro k x h; cases h
  | succ m ih =>
    intro k x h
    unfold vfs at h
    split at h
    · rename_i c
      cases h
      exact ⟨Nat.le_refl _, by omega, c⟩
    · have := ih h
      exact ⟨by omega, by omega, this.2.2⟩
theorem q_freeSide {z : Nat} (h : RS s V) (hz : V.1 2052 = nI z) (hz3 : z ≤ 3) : gX11_freeSide s = some (oI (vfs V.1 z 0), s) := by
  have loop : ∀ (m k fu : Nat), k + m = z → m < fu → gX11_freeSide_2 fu s (nI k) = some (oI (vfs V.1 m k), s) := by
    intro m
    induction m with
    | zero =>
      intro k fu hk hfu
      obtain ⟨fu, rfl⟩ : ∃ m, fu = m + 1 := ⟨fu - 1, by omega⟩
      rw [gX11_freeSide_2, h.se (by omega), hz, nI_int (by omega), nI_int (by omega), if_pos (by omega)]
      rfl
    | succ m ih =>
      intro k fu hk hfu
      obtain ⟨fu, rfl⟩ : ∃ m, fu = m + 1 := ⟨fu - 1, by omega⟩
      rw [gX11_freeSide_2, h.se (by omega), hz, nI_int (by omega), nI_int (by omega), if_neg (by omega), li_add, ix_nI (by omega) (by omega), h.2.at (Or.inr (Or.inr (Or.inl (by omega)))), nI_1, ih (k + 1) fu (by omega) (by omega)]
      have ev : vfs V.1 (m + 1) k = if V.1 (3923 + k) = -1 then some k else vfs V.1 m (k + 1) := by rw [vfs]
      rw [ev]
      by_cases c : V.1 (3923 + k) = -1
      · rw [if_neg (by simp [c]), if_pos c]
        rfl
      · rw [if_pos c, if_neg c]
  exact loop z 0 wt_N (by omega) (by unfold wt_N; omega)
theorem vhs_0 {words : Int32} (h : vsd V t = none) : vhs V t words = (false, vcn (vs (vs V (3926 + t) 2) (3968 + t) (V.1 (3968 + t) - 1)) 10 1) := by
  unfold vhs
  rw [h]
theorem vhs_1 {words : Int32} {V1 : vV} (h : vsd V t = some V1) (c : ((vs V1 (3926 + t) 1).1 (3996 + t) + words).toInt ≤ ((vs V1 (3926 + t) 1).1 2053).toInt) : vhs V t words = (true, vs (vs V1 (3926 + t) 1) (3996 + t) ((vs V1 (3926 + t) 1).1 (3996 + t) + words)) := by
  unfold vhs
  rw [h]
  dsimp only
  rw [if_pos c]
theorem vhs_2 {words : Int32} {V1 : vV} (h : vsd V t = some V1) (c : ¬ ((vs V1 (3926 + t) 1).1 (3996 + t) + words).toInt ≤ ((vs V1 (3926 + t) 1).1 2053).toInt) : vhs V t words = (false, vot (vs V1 (3926 + t) 1) t) := by
  unfold vhs
  rw [h]
  dsimp only
  rw [if_neg c]
theorem vsd_J {lim : Nat} {V1 : vV} (hj : VJ lim V) (ht : t < 6) (h : vsd V t = some V1) (hz : (V.1 2052).toInt.toNat ≤ 3) (hs : V.1 (3989 + t) = -1 ∨ ∃ k, k < 3 ∧ V.1 (3989 + t) = nI k) : VJ lim V1 ∧ V1.2 = V.2 ∧ (∃ k, k < 3 ∧ V1.1 (3989 + t) = nI k) ∧ ∀ i, i ≠ 3989 + t → (i < 3923 ∨ 3926 ≤ i) → V1.1 i = V.1 i := by
  unfold vsd at h
  split at h
  · split at h
    · cases h
    · rename_i x e
      cases h
      have := vfs_lt e
      refine ⟨VJ.vs (VJ.vs hj (by omega)) (by omega), rfl, ⟨x, by omega, vs_at⟩, fun i g1 g2 => by rw [vs_ne g1, vs_ne (by omega)]⟩
  · rename_i c
    cases h
    exact ⟨hj, rfl, hs.resolve_left c, fun _ _ _ => rfl⟩
theorem q_hasSide {words : Int32} {k z : Nat} (h : RS s V) (hj : VJ 2048 V) (ht : t < 6) (hz : V.1 2052 = nI z) (hz3 : z ≤ 3) (hs : V.1 (3989 + t) = -1 ∨ ∃ k, k < 3 ∧ V.1 (3989 + t) = nI k) (hk : V.1 2067 = nI k) (hk2 : k < 2147483200) : ∃ s', gX11_hasSide s (nI t) words = some (rb ((vhs V t words).1 = true), s') ∧ RS s' (vhs V t words).2 ∧ RF s s' := by
  have hzz : (V.1 2052).toInt.toNat = z := by rw [hz, nI_int (by omega)]; rfl
  have h89 : ∀ (V1 : vV) (s1 : wt_S), vsd V t = some V1 → RS s1 V1 → RF s s1 → ∃ s', gX11_hasSide_89 s1 (nI t) words = some (rb ((vhs V t words).1 = true), s') ∧ RS s' (vhs V t words).2 ∧ RF s s' := by
    intro V1 s1 e g1 g2
    obtain ⟨j1, j2, ⟨ks, ks1, ks2⟩, j4⟩ := vsd_J hj ht e (by omega) hs
    have a1 := g1.u (i := 3926 + t) (v := 1) (vtt (by omega) ht) (Or.inr (by omega))
    unfold gX11_hasSide_89
    rw [li_add, ix_nI (by omega) (by omega), wr_eq, li_add, ix_nI (by omega) (by omega), a1.tk (c := 3996) (by omega) ht, a1.se (c := 2053) (by omega)]
    by_cases c : ((vs V1 (3926 + t) 1).1 (3996 + t) + words).toInt ≤ ((vs V1 (3926 + t) 1).1 2053).toInt
    · rw [if_pos c, vhs_1 e c, ix_nI (by omega) (by omega), ix_nI (by omega) (by omega), wr_eq, a1.tk (c := 3996) (by omega) ht, rb_pos rfl]
      exact ⟨_, rfl, a1.u (vtt (by omega) ht) (Or.inr (by omega)), RF.trans g2 (RF.trans (RF.uf (Or.inl rfl)) (RF.uf (Or.inl rfl)))⟩
    · obtain ⟨s2, o1, o2, o3⟩ := q_out (k := k) a1 (VJ.vs j1 (by omega)) rfl ht (Or.inr ⟨ks, ks1, by rw [vs_ne (by omega)]; exact ks2⟩) (by rw [vs_ne (by omega), j4 _ (by omega) (by omega)]; exact hk) (by omega)
      rw [if_neg c, vhs_2 e c, o1, cl_some, rb_neg (by simp)]
      exact ⟨_, rfl, o2, RF.trans g2 (RF.trans (RF.uf (Or.inl rfl)) o3)⟩
  unfold gX11_hasSide
  rw [if_pos h.1, li_add, ix_nI (by omega) (by omega), h.tk (c := 3989) (by omega) ht]
  by_cases c : V.1 (3989 + t) = -1
  · rw [if_neg (by simp [c]), q_freeSide h hz hz3, cl_some]
    cases e : vfs V.1 z 0 with
    | none =>
      have hsd : vsd V t = none := by unfold vsd; rw [if_pos c, hzz, e]
      rw [vhs_0 hsd, oI_none, if_neg (by simp), li_add, ix_nI (by omega) (by omega), wr_eq, li_add, ix_nI (by omega) (by omega), ix_nI (by omega) (by omega), wr_eq, wt_u_nk (show 3968 + t ≠ 3926 + t by omega), h.tk (c := 3968) (by omega) ht]
      have a1 := (h.u (i := 3926 + t) (v := 2) (vtt (by omega) ht) (Or.inr (by omega))).u (i := 3968 + t) (v := V.1 (3968 + t) - 1) (vtt (by omega) ht) (Or.inr (by omega))
      obtain ⟨b1, b2⟩ := q_cnt (c := 10) (v := 1) a1 (by omega)
      rw [show gX11_counts (wt_u (wt_u s 111 (3926 + t) 2) 111 (3968 + t) (V.1 (3968 + t) - 1)) 10 1 = _ from b1, cl_some, rb_neg (by simp)]
      exact ⟨_, rfl, b2, RF.trans (RF.uf (Or.inl rfl)) (RF.trans (RF.uf (Or.inl rfl)) (RF.uf (Or.inl rfl)))⟩
    | some x =>
      have hx := vfs_lt e
      have hsd : vsd V t = some (vs (vs V (3923 + x) (nI t)) (3989 + t) (nI x)) := by unfold vsd; rw [if_pos c, hzz, e]
      have a1 := (h.u (i := 3923 + x) (v := nI t) (Or.inr (Or.inr (Or.inl (by omega)))) (Or.inr (by omega))).u (i := 3989 + t) (v := nI x) (vtt (by omega) ht) (Or.inr (by omega))
      rw [oI_some, if_pos (nI_m1 (by omega)), li_add, ix_nI (by omega) (by omega), wr_eq, ix_nI (by omega) (by omega), wr_eq]
      exact h89 _ _ hsd a1 (RF.trans (RF.uf (Or.inl rfl)) (RF.uf (Or.inl rfl)))
  · have hsd : vsd V t = some V := by unfold vsd; rw [if_neg c]
    rw [if_pos c]
    exact h89 V s hsd h RF.refl
end
