/-! ===== the same program, whatever else ===== -/
def vpp (w w' : Nat → Int32) : Prop := ∀ i, 2228 ≤ i ∧ i < 2898 → w' i = w i
theorem vpp.trans {w1 w2 w3 : Nat → Int32} (h : vpp w1 w2) (h' : vpp w2 w3) : vpp w1 w3 := fun i hi => (h' i hi).trans (h i hi)
theorem vpp.symm {w w' : Nat → Int32} (h : vpp w w') : vpp w' w := fun i hi => (h i hi).symm
section
variable {w w' : Nat → Int32}
theorem vpp.sz (h : vpp w w') {f : Nat} (hf : f < 10) : vsz w' f = vsz w f ∧ vwd w' f = vwd w f ∧ vli w' f = vli w f ∧ w' (2238 + f) = w (2238 + f) := by
  unfold vwd vsz vli
  rw [h _ (by omega), h _ (by omega), h _ (by omega)]
  exact ⟨rfl, rfl, rfl, rfl⟩
theorem vpp.co (h : vpp w w') {f k j : Nat} (hf : f < 10) (hk : k < 16) (hj : j < 4) : w' (vco f k + j) = w (vco f k + j) := by
  unfold vco
  exact h _ (by omega)
theorem vpp.co0 (h : vpp w w') {f k : Nat} (hf : f < 10) (hk : k < 16) : w' (vco f k) = w (vco f k) := h.co (j := 0) hf hk (by omega)
theorem vpp.slt (h : vpp w w') {f : Nat} (hf : f < 10) {x : Int32} : (vslt w' f x ↔ vslt w f x) ∧ (vnum w' f x ↔ vnum w f x) ∧ (vptr w' f x ↔ vptr w f x) := by
  obtain ⟨h1, -, -, h4⟩ := h.sz hf
  unfold vslt vnum vptr
  rw [h1, h4]
  exact ⟨Iff.rfl, Iff.rfl, Iff.rfl⟩
theorem vpp.lin (h : vpp w w') {f k : Nat} (hf : f < 10) (hk : k < 16) (hl : vlin w f k) : vlin w' f k := by
  unfold vlin at hl ⊢
  rw [h.co0 hf hk, h.co hf hk (by omega), h.co hf hk (by omega), h.co hf hk (by omega)]
  have e := fun x => h.slt (f := f) hf (x := x)
  unfold vcan at hl ⊢
  simp only [(e _).1, (e _).2.1, (e _).2.2]
  exact hl
theorem Ipr.wp (hp : Ipr w) (h : vpp w w') : Ipr w' := by
  intro f hf
  obtain ⟨h1, h2, h3⟩ := hp f hf
  have hl := (hp.li hf).2
  obtain ⟨-, -, e3, -⟩ := h.sz hf
  refine ⟨?_, ?_, fun k hk => ?_⟩
  · rw [h _ (by omega)]; exact h1
  · rw [h _ (by omega)]; exact h2
  · rw [e3] at hk
    exact h.lin hf (by omega) (h3 k hk)
theorem vpp.cal (h : vpp w w') {f k : Nat} (hf : f < 10) (hk : k < 16) : vcal w' f k = vcal w f k := by
  unfold vcal
  rw [h.co0 hf hk, h.co hf hk (by omega), h.co hf hk (by omega)]
theorem vpp.tl (h : vpp w w') {x : Int32} : tld w' x ↔ tld w x := by
  constructor
  · intro q
    refine ⟨q.1, ?_⟩
    have := q.2
    rw [h _ (by omega)] at this
    exact this
  · intro q
    refine ⟨q.1, ?_⟩
    rw [h _ (by omega)]
    exact q.2
theorem vpp.dl (h : vpp w w') {D D' : Nat → Option Nat} {f : Nat} (hf : f < 10) (hD : ∀ g, g < 10 → D' g = D g) : ∀ k, k ≤ 16 → vdl w' D' f k = vdl w D f k := by
  intro k
  induction k with
  | zero => intro _; rw [vdl, vdl]
  | succ k ihk =>
    intro hk
    rw [vdl_succ, vdl_succ, ihk (by omega), h.cal hf (by omega)]
    congr 1
    funext d
    by_cases c : tld w (vcal w f k)
    · rw [if_pos c, if_pos (h.tl.mpr c), hD _ (by have := c.1; omega)]
    · rw [if_neg c, if_neg (fun q => c (h.tl.mp q))]
theorem vpp.dp (h : vpp w w') (hp : Ipr w) : ∀ m f, f < 10 → vdp w' m f = vdp w m f := by
  intro m
  induction m with
  | zero => intro f hf; rw [vdp, vdp]
  | succ m ih =>
    intro f hf
    obtain ⟨-, e2, e3, -⟩ := h.sz hf
    rw [vdp_succ, vdp_succ, e3, e2, h.dl hf ih _ (hp.li hf).2]
theorem RP.ep {s s' : wt_S} {q : Nat} (h : RP q s w) (hp : Ipr w) (hw : vpp w w') (hc : ∀ c, q + 1 ≤ c → c ≤ q + 5 → s' c = s c) : RP q s' w' := by
  refine ⟨fun f hf => ?_, fun j hj => ?_⟩
  · rw [hc _ (by omega) (by omega), hc (q + 2) (by omega) (by omega), hc (q + 3) (by omega) (by omega), hc (q + 5) (by omega) (by omega), hw _ (by omega), hw (2238 + f) (by omega), hw (2248 + f) (by omega), (hw.sz hf).1, hw.dp hp 10 f hf]
    exact h.1 f hf
  · rw [hc _ (by omega) (by omega), hw _ (by omega)]
    exact h.2 j hj
end
