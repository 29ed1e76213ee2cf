/-! ===== the class against the picture: what a world holds ===== -/
/-- fields of a task, places of the picture -/
def tf : List (Nat × Nat) := [(1, 3926), (2, 3933), (3, 3940), (4, 3954), (5, 3961), (6, 4045), (7, 3989), (8, 3996), (9, 3975), (16, 4059)]
/-- sums of a task -/
def ts : List (Nat × Nat) := [(2, 3947), (3, 4003), (4, 4010), (5, 4017), (6, 4024), (7, 4031), (8, 4038)]
theorem tf_p : ∀ e ∈ tf, 3926 ≤ e.2 ∧ e.2 ≤ 4066 ∧ (e.2 - 3926) % 7 = 0 := by decide
theorem ts_p : ∀ e ∈ ts, 3926 ≤ e.2 ∧ e.2 ≤ 4066 ∧ (e.2 - 3926) % 7 = 0 := by decide
theorem tf_i : ∀ e ∈ tf, ∀ e' ∈ tf, (e.1 = e'.1 ↔ e.2 = e'.2) := by decide
theorem ts_i : ∀ e ∈ ts, ∀ e' ∈ ts, (e.1 = e'.1 ↔ e.2 = e'.2) := by decide
theorem ft_i : ∀ e ∈ tf, ∀ e' ∈ ts, e.2 ≠ e'.2 := by decide
theorem tf_n : ∀ e ∈ tf, e.1 ≠ 0 ∧ e.1 ≠ 10 ∧ e.1 ≠ 11 ∧ e.1 ≠ 12 ∧ e.1 ≠ 13 ∧ e.1 ≠ 14 ∧ e.1 ≠ 15 ∧ e.2 ≠ 3968 ∧ e.2 ≠ 3982 ∧ e.2 ≠ 4066 ∧ e.2 ≠ 4052 := by decide
theorem ts_n : ∀ e ∈ ts, e.2 ≠ 3968 ∧ e.2 ≠ 3982 ∧ e.2 ≠ 4066 ∧ e.2 ≠ 4052 := by decide
def Ks (b : Nat) (s : wt_S) (w : Nat → Int32) (k : Nat) : Prop := s (b + 17 + 2 * k) 0 = nI k ∧ (∀ e ∈ tf, s (b + 17 + 2 * k) e.1 = w (e.2 + k)) ∧ ∀ e ∈ ts, s (b + 17 + 2 * k + 1) e.1 = w (e.2 + k)
def Kl (b : Nat) (s : wt_S) (V : vV) (k : Nat) : Prop := (V.2.2.1 k = 0 → s (b + 17 + 2 * k) 10 = -1 ∧ s (b + 17 + 2 * k) 11 = -1) ∧ (0 < V.2.2.1 k → s (b + 17 + 2 * k) 10 = V.1 (3968 + k) ∧ s (b + 17 + 2 * k) 11 = nI (vpl V k (V.2.2.1 k - 1)))
def Ka (b : Nat) (s : wt_S) (V : vV) (zs : List (vP × Nat)) (k : Nat) : Prop := (V.1 (4066 + k) = 0 → s (b + 17 + 2 * k) 12 = -1) ∧ ∀ z ∈ zs, z.1.2.2.1 = k → nI (z.1.2.2.2 + 1) = V.1 (4066 + k) → s (b + 17 + 2 * k) 12 = nI z.2
def Kr (b : Nat) (s : wt_S) (V : vV) (zs : List (vP × Nat)) (k : Nat) : Prop := (∀ z ∈ zs, z.1.2.2.1 = k → z.1.2.2.2 = 1000 → s (b + 17 + 2 * k) 13 = nI z.2) ∧ ((∀ q ∈ V.2.1, ¬ (q.2.2.1 = k ∧ q.2.2.2 = 1000)) → s (b + 17 + 2 * k) 13 = -1)
def Kg (b : Nat) (s : wt_S) (w : Nat → Int32) (k : Nat) : Prop := w (3926 + k) ≠ 0 → s (b + 17 + 2 * k) 15 = w (4052 + k)
/-- the words used in a piece, which one is below -/
def Kz (b : Nat) (s : wt_S) (V : vV) (zs : List (vP × Nat)) (k : Nat) : Prop := ∀ z ∈ zs, z.1.2.2.1 = k → s (b + 5) z.2 = nI (vud V.1 (V.2.2.2 k) z.1.2.2.2 (V.2.2.1 k)) ∧ (z.1.2.2.2 = 0 → s (b + 6) z.2 = -1) ∧ ∀ y ∈ zs, y.1.2.2.1 = k → z.1.2.2.2 = y.1.2.2.2 + 1 → s (b + 6) z.2 = nI y.2
def RCk (b : Nat) (s : wt_S) (V : vV) (zs : List (vP × Nat)) (k : Nat) : Prop := Ks b s V.1 k ∧ Kl b s V k ∧ Ka b s V zs k ∧ Kr b s V zs k ∧ Kg b s V.1 k ∧ Kz b s V zs k
/-- what is set, what is counted -/
def CG (b : Nat) (s : wt_S) (w : Nat → Int32) : Prop := (∀ j, j < 6 → s (b + 1) j = w (2048 + j)) ∧ ∀ j, j < 12 → s (b + 13) j = w (2054 + j)
/-- the program -/
def RP (q : Nat) (s : wt_S) (w : Nat → Int32) : Prop := (∀ f, f < 10 → s (q + 1) f = w (2228 + f) ∧ s (q + 2) f = w (2238 + f) ∧ s (q + 3) f = w (2248 + f) ∧ s (q + 5) f = if 1 ≤ vsz w f then vdI (vdp w 10 f) else 0) ∧ ∀ j, j < 640 → s (q + 4) j = w (2258 + j)
def RC (b lim : Nat) (s : wt_S) (V : vV) (zs : List (vP × Nat)) (fr : List Nat) : Prop := zs.map Prod.fst = V.2.1 ∧ PC b lim s zs fr ∧ CG b s V.1 ∧ (∀ k, k < 6 → RCk b s V zs k) ∧ VM (s (b + 15)) V ∧ RP 5 s V.1
/-- only this world changes -/
def CF (b : Nat) (s s' : wt_S) : Prop := ∀ c, c ≤ b ∨ b + 28 < c → s' c = s c
theorem CF.refl {b : Nat} {s : wt_S} : CF b s s := fun _ _ => rfl
theorem CF.trans {b : Nat} {s s1 s2 : wt_S} (h : CF b s s1) (h' : CF b s1 s2) : CF b s s2 := fun c hc => (h' c hc).trans (h c hc)
theorem CF.u {b c k : Nat} {s : wt_S} {v : Int32} (h : b < c ∧ c ≤ b + 28) : CF b s (wt_u s c k v) := fun d hd => wt_u_ne (by omega)
theorem CF.uf {b c : Nat} {s : wt_S} {f : Nat → Int32} (h : b < c ∧ c ≤ b + 28) : CF b s (wt_uf s c f) := fun d hd => wt_uf_ne (by omega)
theorem PF.cf {b : Nat} {s s' : wt_S} (h : PF b s s') : CF b s s' := fun c hc => h c (by omega)
/-- the worlds in question -/
def CX (b lim : Nat) : Prop := wt_B b ∧ lim ≤ wt_mz b ∧ lim ≤ 10000
theorem CX.b {b lim : Nat} (h : CX b lim) : 11 ≤ b ∧ b ≤ 40 := by
  rcases h.1 with rfl | rfl <;> omega
theorem CX.m {b lim : Nat} (h : CX b lim) : lim ≤ wt_mz b ∧ wt_mz b ≤ 10000 ∧ lim ≤ 10000 := ⟨h.2.1, by have := wt_mzn (b := b); omega, h.2.2⟩
section
variable {b lim : Nat} {s s' : wt_S} {V V' : vV} {zs zs' : List (vP × Nat)} {fr fr' : List Nat} {t k : Nat}
theorem vud_pe {w w' : Nat → Int32} {F : Nat → vF} {k : Nat} (h : vpe w w') : ∀ {n : Nat}, (∀ i, i < n → (F i).1 < 10) → vud w' F k n = vud w F k n := by
  intro n
  induction n with
  | zero => intro _; rfl
  | succ n ih =>
    intro hf
    show vud w' F k n + _ = vud w F k n + _
    rw [ih (fun i hi => hf i (by omega)), (h.sz (hf n (by omega))).2.1]
theorem ot_vpl (h : OT t V V') (hk : k < 6) (hne : k ≠ t) {i : Nat} : vpl V' k i = vpl V k i := by
  have h3 := (h.2.2.1 k hk hne).2.2
  unfold vpl
  rw [h3, (vat_eq (h.2.2.2.2.1 k _ hne)).1]
theorem OT.at (h : OT t V V') (hk : k < 6) (hne : k ≠ t) {c : Nat} (hc : 3926 ≤ c ∧ c ≤ 4066 ∧ (c - 3926) % 7 = 0) : V'.1 (c + k) = V.1 (c + k) := by
  have := (h.2.2.1 k hk hne).1 ((c - 3926) / 7) (by omega)
  rw [show 3926 + 7 * ((c - 3926) / 7) + k = c + k by omega] at this
  exact this
/-- another task is as it was -/
theorem RCk.ot (h : RCk b s V zs k) (ho : OT t V V') (hk : k < 6) (hne : k ≠ t) (hfr : ∀ i, i < V.2.2.1 k → (V.2.2.2 k i).1 < 10) (hc : s' (b + 17 + 2 * k) = s (b + 17 + 2 * k) ∧ s' (b + 17 + 2 * k + 1) = s (b + 17 + 2 * k + 1)) (hz : ∀ z : vP × Nat, z.1.2.2.1 ≠ t → (z ∈ zs' ↔ z ∈ zs)) (hu : ∀ z ∈ zs, z.1.2.2.1 = k → s' (b + 5) z.2 = s (b + 5) z.2 ∧ s' (b + 6) z.2 = s (b + 6) z.2) : RCk b s' V' zs' k := by
  obtain ⟨⟨a0, a1, a2⟩, ⟨l1, l2⟩, ⟨p1, p2⟩, ⟨r1, r2⟩, g, z⟩ := h
  obtain ⟨o1, o2, o3⟩ := ho.2.2.1 k hk hne
  obtain ⟨c1, c2⟩ := hc
  have hm : ∀ z : vP × Nat, z.1.2.2.1 = k → (z ∈ zs' ↔ z ∈ zs) := fun z hz' => hz z (by omega)
  refine ⟨⟨?_, ?_, ?_⟩, ⟨?_, ?_⟩, ⟨?_, ?_⟩, ⟨?_, ?_⟩, ?_, ?_⟩
  · rw [c1]; exact a0
  · intro e he
    rw [c1, ho.at hk hne (tf_p e he)]; exact a1 e he
  · intro e he
    rw [c2, ho.at hk hne (ts_p e he)]; exact a2 e he
  · rw [c1, o2]; exact l1
  · rw [c1, o2, ho.at hk hne (by omega), ot_vpl ho hk hne]; exact l2
  · rw [c1, ho.at hk hne (by omega)]; exact p1
  · intro z hz1 hz2
    rw [c1, ho.at hk hne (by omega)]
    exact p2 z ((hm z hz2).mp hz1) hz2
  · intro z hz1 hz2
    rw [c1]; exact r1 z ((hm z hz2).mp hz1) hz2
  · rw [c1]
    intro hq
    exact r2 (fun q hq1 hq2 => hq q ((ho.2.2.2.1 q (by omega)).mpr hq1) hq2)
  · unfold Kg
    rw [c1, ho.at (c := 3926) hk hne (by omega), ho.at (c := 4052) hk hne (by omega)]; exact g
  · intro z1 hz1 hz2
    have hz3 := (hm z1 hz2).mp hz1
    obtain ⟨u1, u2⟩ := hu z1 hz3 hz2
    obtain ⟨x1, x2, x3⟩ := z z1 hz3 hz2
    rw [u1, u2, o2, o3, vud_pe ho.1 hfr]
    exact ⟨x1, x2, fun y hy1 hy2 => x3 y ((hm y hy2).mp hy1) hy2⟩
/-- what an operation on a task has to leave alone -/
def TO (b t : Nat) (s s' : wt_S) : Prop := (∀ k, k < 6 → k ≠ t → s' (b + 17 + 2 * k) = s (b + 17 + 2 * k) ∧ s' (b + 17 + 2 * k + 1) = s (b + 17 + 2 * k + 1)) ∧ CF b s s'
theorem TO.refl : TO b t s s := ⟨fun _ _ _ => ⟨rfl, rfl⟩, CF.refl⟩
theorem TO.trans {s2 : wt_S} (h : TO b t s s') (h' : TO b t s' s2) : TO b t s s2 := ⟨fun k hk hne => ⟨((h'.1 k hk hne).1).trans (h.1 k hk hne).1, ((h'.1 k hk hne).2).trans (h.1 k hk hne).2⟩, h.2.trans h'.2⟩
theorem TO.pf (h : PF b s s') : TO b t s s' := ⟨fun k hk _ => ⟨h _ (by omega), h _ (by omega)⟩, h.cf⟩
theorem TO.u {c j : Nat} {v : Int32} (h : (b < c ∧ c ≤ b + 16) ∨ c = b + 17 + 2 * t ∨ c = b + 17 + 2 * t + 1) (ht : t < 6) : TO b t s (wt_u s c j v) := ⟨fun k hk hne => ⟨wt_u_ne (by omega), wt_u_ne (by omega)⟩, CF.u (by omega)⟩
theorem TO.uf {c : Nat} {f : Nat → Int32} (h : (b < c ∧ c ≤ b + 16) ∨ c = b + 17 + 2 * t ∨ c = b + 17 + 2 * t + 1) (ht : t < 6) : TO b t s (wt_uf s c f) := ⟨fun k hk hne => ⟨wt_uf_ne (by omega), wt_uf_ne (by omega)⟩, CF.uf (by omega)⟩
theorem RP.eq {q : Nat} {w w' : Nat → Int32} (h : RP q s w) (hp : Ipr w) (hw : vpe w w') (hc : ∀ c, q + 1 ≤ c → c ≤ q + 5 → s' c = s c) : RP q s' w' := by
  refine ⟨fun f hf => ?_, fun j hj => ?_⟩
  · rw [hc _ (by omega) (by omega), hc (q + 2) (by omega) (by omega), hc (q + 3) (by omega) (by omega), hc (q + 5) (by omega) (by omega), hw _ (Or.inl (by omega)), hw (2238 + f) (Or.inl (by omega)), hw (2248 + f) (Or.inl (by omega)), (hw.sz hf).1, hw.dp hp 10 f hf]
    exact h.1 f hf
  · rw [hc _ (by omega) (by omega), hw _ (Or.inl (by omega))]
    exact h.2 j hj
/-- a world after something was done to a task -/
theorem RC.op (h : RC b lim s V zs fr) (hx : CX b lim) (hp : Ipr V.1) (ho : OT t V V') (ht : t < 6) (hto : TO b t s s') (hfr : ∀ k, k < 6 → ∀ i, i < V.2.2.1 k → (V.2.2.2 k i).1 < 10) (hz : ∀ z : vP × Nat, z.1.2.2.1 ≠ t → (z ∈ zs' ↔ z ∈ zs)) (hu : ∀ z ∈ zs, z.1.2.2.1 ≠ t → s' (b + 5) z.2 = s (b + 5) z.2 ∧ s' (b + 6) z.2 = s (b + 6) z.2) (h1 : zs'.map Prod.fst = V'.2.1) (h2 : PC b lim s' zs' fr') (h3 : CG b s' V'.1) (h4 : RCk b s' V' zs' t) (h5 : VM (s' (b + 15)) V') : RC b lim s' V' zs' fr' := by
  have hb := hx.b
  refine ⟨h1, h2, h3, fun k hk => ?_, h5, h.2.2.2.2.2.eq hp ho.1 (fun c c1 c2 => hto.2 c (by omega))⟩
  by_cases e : k = t
  · subst e; exact h4
  · exact (h.2.2.2.1 k hk).ot ho hk e (hfr k hk) (hto.1 k hk e) hz (fun z hz1 hz2 => hu z hz1 (by omega))
theorem RC.at (h : RC b lim s V zs fr) (ht : t < 6) {e : Nat × Nat} (he : e ∈ tf) : s (b + 17 + 2 * t) e.1 = V.1 (e.2 + t) := ((h.2.2.2.1 t ht).1).2.1 e he
theorem RC.as (h : RC b lim s V zs fr) (ht : t < 6) {e : Nat × Nat} (he : e ∈ ts) : s (b + 17 + 2 * t + 1) e.1 = V.1 (e.2 + t) := ((h.2.2.2.1 t ht).1).2.2 e he
end
