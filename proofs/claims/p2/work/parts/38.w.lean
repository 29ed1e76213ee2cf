/-! ===== the program stays ===== -/
/-- the same program, the same RED and MERGE -/
def vpe (w w' : Nat → Int32) : Prop := ∀ i, (2228 ≤ i ∧ i < 2898) ∨ i = 2050 ∨ i = 2051 → w' i = w i
theorem vpe.upd {w : Nat → Int32} {i : Nat} {v : Int32} (h : (i < 2228 ∨ 2898 ≤ i) ∧ i ≠ 2050 ∧ i ≠ 2051) : vpe w (mj_upd w i v) := fun j hj => mj_upd_ne (by omega)
theorem vpe.trans {w1 w2 w3 : Nat → Int32} (h : vpe w1 w2) (h' : vpe w2 w3) : vpe w1 w3 := fun i hi => (h' i hi).trans (h i hi)
theorem vpe.refl {w : Nat → Int32} : vpe w w := fun _ _ => rfl
theorem vpe.symm {w w' : Nat → Int32} (h : vpe w w') : vpe w' w := fun i hi => (h i hi).symm
section
variable {w w' : Nat → Int32}
theorem vpe.sz (h : vpe w w') {f : Nat} (hf : f < 10) : vsz w' f = vsz w f ∧ vwd w' f = vwd w f ∧ vli w' f = vli w f ∧ w' (2238 + f) = w (2238 + f) := by
  unfold vwd vsz vli
  rw [h _ (Or.inl (by omega)), h _ (Or.inl (by omega)), h _ (Or.inl (by omega))]
  exact ⟨rfl, rfl, rfl, rfl⟩
theorem vpe.co (h : vpe w w') {f k j : Nat} (hf : f < 10) (hk : k < 16) (hj : j < 4) : w' (vco f k + j) = w (vco f k + j) := by
  unfold vco
  exact h _ (Or.inl (by omega))
theorem vpe.co0 (h : vpe w w') {f k : Nat} (hf : f < 10) (hk : k < 16) : w' (vco f k) = w (vco f k) := h.co (j := 0) hf hk (by omega)
theorem vpe.slt (h : vpe w w') {f : Nat} (hf : f < 10) {x : Int32} : (vslt w' f x ↔ vslt w f x) ∧ (vnum w' f x ↔ vnum w f x) ∧ (vptr w' f x ↔ vptr w f x) := by
  obtain ⟨h1, -, -, h4⟩ := h.sz hf
  unfold vslt vnum vptr
  rw [h1, h4]
  exact ⟨Iff.rfl, Iff.rfl, Iff.rfl⟩
theorem vpe.lin (h : vpe w w') {f k : Nat} (hf : f < 10) (hk : k < 16) (hl : vlin w f k) : vlin w' f k := by
  unfold vlin at hl ⊢
  rw [h.co0 hf hk, h.co hf hk (by omega), h.co hf hk (by omega), h.co hf hk (by omega)]
  have e := fun x => h.slt (f := f) hf (x := x)
  unfold vcan at hl ⊢
  simp only [(e _).1, (e _).2.1, (e _).2.2]
  exact hl
theorem Ipr.ww (hp : Ipr w) (h : vpe w w') : Ipr w' := by
  intro f hf
  obtain ⟨h1, h2, h3⟩ := hp f hf
  have hl := (hp.li hf).2
  obtain ⟨-, -, e3, -⟩ := h.sz hf
  refine ⟨?_, ?_, fun k hk => ?_⟩
  · rw [h _ (Or.inl (by omega))]; exact h1
  · rw [h _ (Or.inl (by omega))]; exact h2
  · rw [e3] at hk
    exact h.lin hf (by omega) (h3 k hk)
theorem vpe.cal (h : vpe w w') {f k : Nat} (hf : f < 10) (hk : k < 16) : vcal w' f k = vcal w f k := by
  unfold vcal
  rw [h.co0 hf hk, h.co hf hk (by omega), h.co hf hk (by omega)]
theorem vpe.tl (h : vpe w w') {x : Int32} : tld w' x ↔ tld w x := by
  constructor
  · intro q
    refine ⟨q.1, ?_⟩
    have := q.2
    rw [h _ (Or.inl (by omega))] at this
    exact this
  · intro q
    refine ⟨q.1, ?_⟩
    rw [h _ (Or.inl (by omega))]
    exact q.2
theorem vdl_succ {D : Nat → Option Nat} {f k : Nat} : vdl w D f (k + 1) = (vdl w D f k).bind (fun m => if tld w (vcal w f k) then (D (vcal w f k).toInt.toNat).map (fun d => max m d) else some m) := by
  rw [vdl]
  cases vdl w D f k with
  | none => rfl
  | some m =>
    rw [Option.bind_some]
    dsimp only
    split
    · cases D (vcal w f k).toInt.toNat <;> rfl
    · rfl
theorem vpe.dl (h : vpe w w') {D D' : Nat → Option Nat} {f : Nat} (hf : f < 10) (hD : ∀ g, g < 10 → D' g = D g) : ∀ k, k ≤ 16 → vdl w' D' f k = vdl w D f k := by
  intro k
  induction k with
  | zero => intro _; rw [vdl, vdl]
  | succ k ihk =>
    intro hk
    rw [vdl_succ, vdl_succ, ihk (by omega), h.cal hf (by omega)]
    congr 1
    funext d
    by_cases c : tld w (vcal w f k)
    · rw [if_pos c, if_pos (h.tl.mpr c), hD _ (by have := c.1; omega)]
    · rw [if_neg c, if_neg (fun q => c (h.tl.mp q))]
theorem vdp_succ {m f : Nat} : vdp w (m + 1) f = (vdl w (vdp w m) f (vli w f)).map (fun d => vwd w f + d) := by
  rw [vdp]
  cases vdl w (vdp w m) f (vli w f) <;> rfl
theorem vpe.dp (h : vpe w w') (hp : Ipr w) : ∀ m f, f < 10 → vdp w' m f = vdp w m f := by
  intro m
  induction m with
  | zero => intro f hf; rw [vdp, vdp]
  | succ m ih =>
    intro f hf
    obtain ⟨-, e2, e3, -⟩ := h.sz hf
    rw [vdp_succ, vdp_succ, e3, e2, h.dl hf ih _ (hp.li hf).2]
theorem vpe.mg (h : vpe w w') (hp : Ipr w) {f : Nat} (hf : f < 10) : vmg w' f = vmg w f ∧ vnd w' f = vnd w f := by
  have e : vmg w' f = vmg w f := by
    unfold vmg
    rw [h.dp hp 10 f hf, h 2050 (Or.inr (Or.inl rfl)), h 2051 (Or.inr (Or.inr rfl))]
  refine ⟨e, ?_⟩
  unfold vnd
  rw [e, h.dp hp 10 f hf, (h.sz hf).2.1]
theorem vpe.us (h : vpe w w') {fr : Nat → vF} {k : Nat} : ∀ {n : Nat}, (∀ i, i < n → (fr i).1 < 10) → vus w' fr n = vus w fr n ∧ vud w' fr k n = vud w fr k n := by
  intro n
  induction n with
  | zero => intro _; exact ⟨rfl, rfl⟩
  | succ n ih =>
    intro hf
    obtain ⟨h1, h2⟩ := ih (fun i hi => hf i (by omega))
    unfold vus vud
    rw [h1, h2, (h.sz (hf n (by omega))).2.1]
    exact ⟨rfl, rfl⟩
theorem Geo.ww {ps : List vP} {t np n : Nat} {fr : Nat → vF} (hg : Geo w ps t np n fr) (h : vpe w w') (hf : ∀ i, i < n → (fr i).1 < 10) : Geo w' ps t np n fr := by
  refine ⟨fun i hi => ?_, hg.2.1, fun i hi => ?_⟩
  · rw [(h.sz (hf i hi)).2.1]; exact hg.1 i hi
  · rw [(h.sz (hf i (by omega))).2.1]; exact hg.2.2 i hi
theorem vbk.ww {F G : vF} (hb : vbk w F G) (h : vpe w w') (hp : Ipr w) (hg : G.1 < 10) : vbk w' F G := by
  obtain ⟨h1, h2, h3, h4, h5⟩ := hb
  have hl := (hp.li hg).2
  refine ⟨h1, h2, h3, by rw [(h.sz hg).2.2.1]; exact h4, ?_⟩
  rw [h.co0 hg (by omega), h.co hg (by omega) (by omega), h.co hg (by omega) (by omega)]
  exact h5
theorem Ifr.ww {ps : List vP} {t n : Nat} {fr : Nat → vF} (hi : Ifr w ps t n fr) (h : vpe w w') (hp : Ipr w) : Ifr w' ps t n fr := by
  obtain ⟨h1, h2, h3, h4, h5, h6⟩ := hi
  refine ⟨fun i hi => ⟨(h1 i hi).1, by rw [(h.sz (h1 i hi).1).1]; exact (h1 i hi).2⟩, h2, fun i hi => (h3 i hi).ww h hp (h1 i (by omega)).1, h4, fun i hi hc => ?_, fun i hi k hk hb q hq => ?_⟩
  · obtain ⟨d, d1, d2, d3⟩ := h5 i hi hc
    exact ⟨d, by rw [h.dp hp 10 _ (h1 i hi).1]; exact d1, by rw [h 2051 (Or.inr (Or.inr rfl))]; exact d2, d3⟩
  · rw [(h.sz (h1 i hi).1).1] at hk
    rw [(h.sz (h1 i hi).1).2.2.2] at hb
    obtain ⟨q1, q2, q3⟩ := h6 i hi k hk hb q hq
    have hf := (h1 q.1 (by omega)).1
    exact ⟨q1, by rw [(h.sz hf).1]; exact q2, by rw [(h.sz hf).2.2.2]; exact q3⟩
end
theorem VJ.ww {lim : Nat} {V V' : vV} (hj : VJ lim V) (h : vpe V.1 V'.1) (h2 : V'.2 = V.2) : VJ lim V' := by
  obtain ⟨h0, h1, h3, h4⟩ := hj
  refine ⟨h0.ww h, by rw [h2]; exact h1, by rw [h2]; exact h3, fun t ht hn => ?_⟩
  rw [h2] at hn ⊢
  obtain ⟨np, a1, a2, a3⟩ := h4 t ht hn
  exact ⟨np, a1, a2.ww h (fun i hi => (a3.1 i hi).1), a3.ww h h0⟩
theorem VJ.vs {lim : Nat} {V : vV} {i : Nat} {v : Int32} (hj : VJ lim V) (hi : (i < 2228 ∨ 2898 ≤ i) ∧ i ≠ 2050 ∧ i ≠ 2051) : VJ lim (vs V i v) := hj.ww (vpe.upd hi) rfl
