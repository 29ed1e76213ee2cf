section
/-! ===== what is done, as functions of what is ===== -/
def vps (V : vV) (ps : List vP) : vV := (V.1, ps, V.2.2)
def vnf (V : vV) (t n : Nat) : vV := (V.1, V.2.1, mj_upd V.2.2.1 t n, V.2.2.2)
/-- all of a task is given back -/
def vga (V : vV) (t : Nat) : vV :=
  let V1 := vps V (V.2.1.filter (fun q => decide (q.2.2.1 ≠ t)))
  let V2 := if V.1 (3989 + t) = -1 then V1 else vs V1 (3923 + (V.1 (3989 + t)).toInt.toNat) (-1)
  vs (vs (vnf (vs (vs (vs (vs V2 (3989 + t) (-1)) (3996 + t) 0) (4066 + t) 0) (3954 + t) 0) t 0) (3961 + t) 0) (3975 + t) (-1)
def vot (V : vV) (t : Nat) : vV := vlg1 (vcn (vs (vga V t) (3926 + t) 4) 1 1)
/-- the spare is given back -/
def vsp (V : vV) (t : Nat) : vV := if (V.2.1.find? (vkey t 1000)).isSome then vps (vlg1 V) (V.2.1.filter (fun q => !vkey t 1000 q)) else V
/-- a copied stack moves into a piece of so many, at a place -/
def vmv (V : vV) (t g words : Nat) : vV :=
  let V1 := vps (vs V (3982 + t) (if V.2.2.1 t = 0 then V.1 (3982 + t) else nI (g + (V.2.2.2 t (V.2.2.1 t - 1)).2.2.1))) (vins (g, words, t, 0) (V.2.1.filter (fun q => !vkey t 0 q)))
  vcn (vs V1 (4017 + t) (V1.1 (4017 + t) + V1.1 (3961 + t))) 5 (V1.1 (3961 + t))
def vdbl (enough : Nat) : Nat → Nat → Nat
  | 0, n => n
  | m + 1, n => if n < enough then vdbl enough m (n * 2) else n
def vinc (V : vV) (i : Nat) : vV := vs V i (V.1 i + 1)
def vnp (V : vV) (t : Nat) : Nat := (V.1 (4066 + t)).toInt.toNat
def vuse (V : vV) (t : Nat) : Nat := (V.1 (3961 + t)).toInt.toNat
/-- room for so many behind all frames: whether there was a gap -/
def vspl (lim : Nat) (V : vV) (t need : Nat) : Bool × vV :=
  let words := max need (V.1 2048).toInt.toNat
  match vgap lim 0 V.2.1 words with
  | none => (false, V)
  | some a => (true, vinc (vlg1 (vcn (vinc (vps V (vins (a, words, t, vnp V t) V.2.1)) (4024 + t)) 6 1)) (4066 + t))
def vgr (lim : Nat) (V : vV) (t need : Nat) : Bool × vV :=
  if V.1 (3933 + t) = 0 then
    (let words := vdbl (vuse V t + need) 16 (2 * vln V.2.1 t 0)
    match vgap lim 0 V.2.1 words with
    | none => (false, V)
    | some g => (true, vlg1 (vcn (vinc (vmv V t g words) (4010 + t)) 4 1)))
  else match V.2.1.find? (vkey t 1000) with
    | some q => if need ≤ q.2.1 then (true, vinc (vlg1 (vcn (vinc (vps V (V.2.1.map (fun p => if vkey t 1000 p then (p.1, p.2.1, p.2.2.1, vnp V t) else p))) (4038 + t)) 8 1)) (4066 + t)) else vspl lim (vsp V t) t need
    | none => vspl lim V t need
def vmg (w : Nat → Int32) (f : Nat) : Bool := decide (w 2050 ≠ 0) && match vdp w 10 f with
  | some d => decide (d ≤ (w 2051).toInt.toNat)
  | none => false
def vnd (w : Nat → Int32) (f : Nat) : Nat := if vmg w f then (vdp w 10 f).getD 0 else vwd w f
/-- the last frame is covered -/
def vlc (V : vV) (t : Nat) : Bool := decide (0 < V.2.2.1 t) && decide ((V.2.2.2 t (V.2.2.1 t - 1)).2.2.2.1 / 1024 % 2 = 1)
def vtop (V : vV) (t : Nat) : Nat := if V.2.2.1 t = 0 then vat V.2.1 t 0 else vpl V t (V.2.2.1 t - 1) + vwd V.1 (V.2.2.2 t (V.2.2.1 t - 1)).1
def vend (V : vV) (t : Nat) : Nat := vat V.2.1 t (vnp V t - 1) + vln V.2.1 t (vnp V t - 1)
/-- room for a call is made: false, and it is out -/
def vrm (lim : Nat) (V : vV) (t f : Nat) : Bool × vV :=
  let V1 := vcn (vinc V (4003 + t)) 3 1
  if vtop V t + vnd V.1 f ≤ vend V t then (true, V1)
  else match vgr lim V1 t (vnd V.1 f) with
    | (true, V2) => (true, V2)
    | (false, V2) => (false, vot V2 t)
/-- a frame comes: function, BACK, its first number, its first pointer -/
def vfn (V : vV) (t f bk : Nat) (a : Int32) (q : Option (Nat × Nat)) : vF := (f, vnp V t - 1, vud V.1 (V.2.2.2 t) (vnp V t - 1) (V.2.2.1 t), bk, fun k => if k = 0 then a else 0, fun k => if k = 0 then q else none)
def vpu (V : vV) (t f bk : Nat) (a : Int32) (q : Option (Nat × Nat)) : vV :=
  let F := vfn V t f bk a q
  let V1 := vfr V t (V.2.2.1 t) F
  let V2 := vs (vs (vs V1 (3982 + t) (nI (vat V.2.1 t F.2.1 + F.2.2.1))) (3975 + t) (nI f)) (3968 + t) 0
  let V3 := vs (vnf (vinc V2 (3954 + t)) t (V.2.2.1 t + 1)) (3961 + t) (V.1 (3961 + t) + (V.1 (2228 + f) + 2))
  if (V3.1 (3961 + t)).toInt ≤ (V3.1 (4045 + t)).toInt then V3 else vs V3 (4045 + t) (V3.1 (3961 + t))
/-- what a slot hands over to a first slot: number, pointer -/
def vha (w : Nat → Int32) (f : Nat) (F : vF) (k : Nat) : Int32 × Option (Nat × Nat) := if bt (w (2238 + F.1)) k then (0, if bt (w (2238 + f)) 0 then F.2.2.2.2.2 k else none) else (if bt (w (2238 + f)) 0 then 0 else F.2.2.2.2.1 k, none)
/-- a function is called: BACK without COVERED, what is handed over -/
def vcl (lim : Nat) (V : vV) (t f bk : Nat) (h : Int32 × Option (Nat × Nat)) : vV :=
  if vlc V t then vpu (vcn V 11 1) t f (bk + 1024) h.1 h.2
  else match vrm lim V t f with
    | (true, V1) => vpu V1 t f (bk + if vmg V.1 f then 1024 else 0) h.1 h.2
    | (false, V1) => V1
/-- a number of a frame is set -/
def vnu (V : vV) (t i k : Nat) (v : Int32) : vV := vfr V t i ((V.2.2.2 t i).1, (V.2.2.2 t i).2.1, (V.2.2.2 t i).2.2.1, (V.2.2.2 t i).2.2.2.1, mj_upd (V.2.2.2 t i).2.2.2.2.1 k v, (V.2.2.2 t i).2.2.2.2.2)
def vpo (V : vV) (t i k : Nat) (q : Option (Nat × Nat)) : vV := vfr V t i ((V.2.2.2 t i).1, (V.2.2.2 t i).2.1, (V.2.2.2 t i).2.2.1, (V.2.2.2 t i).2.2.2.1, (V.2.2.2 t i).2.2.2.2.1, mj_upd (V.2.2.2 t i).2.2.2.2.2 k q)
/-- a foreign call is over -/
def vfv (V : vV) (t : Nat) (words : Int32) : vV :=
  let V1 := vs (vcn V 9 1) (3996 + t) (V.1 (3996 + t) - words)
  if 0 < (V1.1 (3996 + t)).toInt then V1 else vs (vs V1 (3923 + (V.1 (3989 + t)).toInt.toNat) (-1)) (3989 + t) (-1)
/-- the first frame of a piece is left: its words have gone already -/
def vlv (V : vV) (t : Nat) (F : vF) : vV :=
  if F.2.2.1 ≠ 0 ∨ F.2.1 = 0 then V
  else
    let V1 := vs V (4066 + t) (V.1 (4066 + t) - 1)
    if V.1 2049 = 0 then vps (vlg1 V1) (V.2.1.filter (fun q => !vkey t F.2.1 q))
    else
      let V2 := vsp V1 t
      vlg1 (vps V2 (V2.2.1.map (fun p => if vkey t F.2.1 p then (p.1, p.2.1, p.2.2.1, 1000) else p)))
/-- done: Z says whether an endless stack brings another result -/
def vdn (Z : (Nat → Int32) → Int32 → Int32 → Int32 → Bool) (V : vV) (t : Nat) (v : Int32) : vV :=
  let V1 := vlg1 (vcn (vga (vs (vs V (3926 + t) 3) (3940 + t) v) t) 0 1)
  if Z V.1 (V.1 (4052 + t)) (V.1 (4059 + t)) v then vinc V1 2066 else V1
def vrt (Z : (Nat → Int32) → Int32 → Int32 → Int32 → Bool) (V : vV) (t : Nat) (v : Int32) : vV :=
  let n := V.2.2.1 t - 1
  let F := V.2.2.2 t n
  let V1 := vnf (vs (vs V (3961 + t) (V.1 (3961 + t) - (V.1 (2228 + F.1) + 2))) (3954 + t) (V.1 (3954 + t) - 1)) t n
  if n = 0 then vdn Z V1 t v
  else
    let V2 := if V.1 (3933 + t) = 1 then vlv V1 t F else V1
    let V3 := vs (vs (vs V2 (3982 + t) (nI (vpl V2 t (n - 1)))) (3975 + t) (nI (F.2.2.2.1 % 1024 / 32))) (3968 + t) (nI (F.2.2.2.1 % 32))
    let c := vco (F.2.2.2.1 % 1024 / 32) (F.2.2.2.1 % 32 - 1)
    let V4 := vnu V3 t (n - 1) (V.1 (c + 3)).toInt.toNat v
    if 2048 ≤ F.2.2.2.1 then vfv V4 t (V.1 (c + 1)) else V4
end
section
/-! ===== the program stays ===== -/
/-- the same program, the same RED and MERGE -/
def vpe (w w' : Nat → Int32) : Prop := ∀ i, (2228 ≤ i ∧ i < 2898) ∨ i = 2050 ∨ i = 2051 → w' i = w i
theorem vpe.upd {w : Nat → Int32} {i : Nat} {v : Int32} (h : (i < 2228 ∨ 2898 ≤ i) ∧ i ≠ 2050 ∧ i ≠ 2051) : vpe w (mj_upd w i v) := fun j hj => mj_upd_ne (by omega)
theorem vpe.trans {w1 w2 w3 : Nat → Int32} (h : vpe w1 w2) (h' : vpe w2 w3) : vpe w1 w3 := fun i hi => (h' i hi).trans (h i hi)
theorem vpe.refl {w : Nat → Int32} : vpe w w := fun _ _ => rfl
theorem vpe.symm {w w' : Nat → Int32} (h : vpe w w') : vpe w' w := fun i hi => (h i hi).symm
section
variable {w w' : Nat → Int32}
theorem vpe.sz (h : vpe w w') {f : Nat} (hf : f < 10) : vsz w' f = vsz w f ∧ vwd w' f = vwd w f ∧ vli w' f = vli w f ∧ w' (2238 + f) = w (2238 + f) := by
  unfold vwd vsz vli
  rw [h _ (Or.inl (by omega)), h _ (Or.inl (by omega)), h _ (Or.inl (by omega))]
  exact ⟨rfl, rfl, rfl, rfl⟩
theorem vpe.co (h : vpe w w') {f k j : Nat} (hf : f < 10) (hk : k < 16) (hj : j < 4) : w' (vco f k + j) = w (vco f k + j) := by
  unfold vco
  exact h _ (Or.inl (by omega))
theorem vpe.co0 (h : vpe w w') {f k : Nat} (hf : f < 10) (hk : k < 16) : w' (vco f k) = w (vco f k) := h.co (j := 0) hf hk (by omega)
theorem vpe.slt (h : vpe w w') {f : Nat} (hf : f < 10) {x : Int32} : (vslt w' f x ↔ vslt w f x) ∧ (vnum w' f x ↔ vnum w f x) ∧ (vptr w' f x ↔ vptr w f x) := by
  obtain ⟨h1, -, -, h4⟩ := h.sz hf
  unfold vslt vnum vptr
  rw [h1, h4]
  exact ⟨Iff.rfl, Iff.rfl, Iff.rfl⟩
theorem vpe.lin (h : vpe w w') {f k : Nat} (hf : f < 10) (hk : k < 16) (hl : vlin w f k) : vlin w' f k := by
  unfold vlin at hl ⊢
  rw [h.co0 hf hk, h.co hf hk (by omega), h.co hf hk (by omega), h.co hf hk (by omega)]
  have e := fun x => h.slt (f := f) hf (x := x)
  unfold vcan at hl ⊢
  simp only [(e _).1, (e _).2.1, (e _).2.2]
  exact hl
theorem Ipr.ww (hp : Ipr w) (h : vpe w w') : Ipr w' := by
  intro f hf
  obtain ⟨h1, h2, h3⟩ := hp f hf
  have hl := (hp.li hf).2
  obtain ⟨-, -, e3, -⟩ := h.sz hf
  refine ⟨?_, ?_, fun k hk => ?_⟩
  · rw [h _ (Or.inl (by omega))]; exact h1
  · rw [h _ (Or.inl (by omega))]; exact h2
  · rw [e3] at hk
    exact h.lin hf (by omega) (h3 k hk)
theorem vpe.cal (h : vpe w w') {f k : Nat} (hf : f < 10) (hk : k < 16) : vcal w' f k = vcal w f k := by
  unfold vcal
  rw [h.co0 hf hk, h.co hf hk (by omega), h.co hf hk (by omega)]
theorem vpe.tl (h : vpe w w') {x : Int32} : tld w' x ↔ tld w x := by
  constructor
  · intro q
    refine ⟨q.1, ?_⟩
    have := q.2
    rw [h _ (Or.inl (by omega))] at this
    exact this
  · intro q
    refine ⟨q.1, ?_⟩
    rw [h _ (Or.inl (by omega))]
    exact q.2
theorem vdl_succ {D : Nat → Option Nat} {f k : Nat} : vdl w D f (k + 1) = (vdl w D f k).bind (fun m => if tld w (vcal w f k) then (D (vcal w f k).toInt.toNat).map (fun d => max m d) else some m) := by
  rw [vdl]
  cases vdl w D f k with
  | none => rfl
  | some m =>
    rw [Option.bind_some]
    dsimp only
    split
    · cases D (vcal w f k).toInt.toNat <;> rfl
    · rfl
theorem vpe.dl (h : vpe w w') {D D' : Nat → Option Nat} {f : Nat} (hf : f < 10) (hD : ∀ g, g < 10 → D' g = D g) : ∀ k, k ≤ 16 → vdl w' D' f k = vdl w D f k := by
  intro k
  induction k with
  | zero => intro _; rw [vdl, vdl]
  | succ k ihk =>
    intro hk
    rw [vdl_succ, vdl_succ, ihk (by omega), h.cal hf (by omega)]
    congr 1
    funext d
    by_cases c : tld w (vcal w f k)
    · rw [if_pos c, if_pos (h.tl.mpr c), hD _ (by have := c.1; omega)]
    · rw [if_neg c, if_neg (fun q => c (h.tl.mp q))]
theorem vdp_succ {m f : Nat} : vdp w (m + 1) f = (vdl w (vdp w m) f (vli w f)).map (fun d => vwd w f + d) := by
  rw [vdp]
  cases vdl w (vdp w m) f (vli w f) <;> rfl
theorem vpe.dp (h : vpe w w') (hp : Ipr w) : ∀ m f, f < 10 → vdp w' m f = vdp w m f := by
  intro m
  induction m with
  | zero => intro f hf; rw [vdp, vdp]
  | succ m ih =>
    intro f hf
    obtain ⟨-, e2, e3, -⟩ := h.sz hf
    rw [vdp_succ, vdp_succ, e3, e2, h.dl hf ih _ (hp.li hf).2]
theorem vpe.mg (h : vpe w w') (hp : Ipr w) {f : Nat} (hf : f < 10) : vmg w' f = vmg w f ∧ vnd w' f = vnd w f := by
  have e : vmg w' f = vmg w f := by
    unfold vmg
    rw [h.dp hp 10 f hf, h 2050 (Or.inr (Or.inl rfl)), h 2051 (Or.inr (Or.inr rfl))]
  refine ⟨e, ?_⟩
  unfold vnd
  rw [e, h.dp hp 10 f hf, (h.sz hf).2.1]
theorem vpe.us (h : vpe w w') {fr : Nat → vF} {k : Nat} : ∀ {n : Nat}, (∀ i, i < n → (fr i).1 < 10) → vus w' fr n = vus w fr n ∧ vud w' fr k n = vud w fr k n := by
  intro n
  induction n with
  | zero => intro _; exact ⟨rfl, rfl⟩
  | succ n ih =>
    intro hf
    obtain ⟨h1, h2⟩ := ih (fun i hi => hf i (by omega))
    unfold vus vud
    rw [h1, h2, (h.sz (hf n (by omega))).2.1]
    exact ⟨rfl, rfl⟩
theorem Geo.ww {ps : List vP} {t np n : Nat} {fr : Nat → vF} (hg : Geo w ps t np n fr) (h : vpe w w') (hf : ∀ i, i < n → (fr i).1 < 10) : Geo w' ps t np n fr := by
  refine ⟨fun i hi => ?_, hg.2.1, fun i hi => ?_⟩
  · rw [(h.sz (hf i hi)).2.1]; exact hg.1 i hi
  · rw [(h.sz (hf i (by omega))).2.1]; exact hg.2.2 i hi
theorem vbk.ww {F G : vF} (hb : vbk w F G) (h : vpe w w') (hp : Ipr w) (hg : G.1 < 10) : vbk w' F G := by
  obtain ⟨h1, h2, h3, h4, h5⟩ := hb
  have hl := (hp.li hg).2
  refine ⟨h1, h2, h3, by rw [(h.sz hg).2.2.1]; exact h4, ?_⟩
  rw [h.co0 hg (by omega), h.co hg (by omega) (by omega), h.co hg (by omega) (by omega)]
  exact h5
theorem Ifr.ww {ps : List vP} {t n : Nat} {fr : Nat → vF} (hi : Ifr w ps t n fr) (h : vpe w w') (hp : Ipr w) : Ifr w' ps t n fr := by
  obtain ⟨h1, h2, h3, h4, h5, h6⟩ := hi
  refine ⟨fun i hi => ⟨(h1 i hi).1, by rw [(h.sz (h1 i hi).1).1]; exact (h1 i hi).2⟩, h2, fun i hi => (h3 i hi).ww h hp (h1 i (by omega)).1, h4, fun i hi hc => ?_, fun i hi k hk hb q hq => ?_⟩
  · obtain ⟨d, d1, d2, d3⟩ := h5 i hi hc
    exact ⟨d, by rw [h.dp hp 10 _ (h1 i hi).1]; exact d1, by rw [h 2051 (Or.inr (Or.inr rfl))]; exact d2, d3⟩
  · rw [(h.sz (h1 i hi).1).1] at hk
    rw [(h.sz (h1 i hi).1).2.2.2] at hb
    obtain ⟨q1, q2, q3⟩ := h6 i hi k hk hb q hq
    have hf := (h1 q.1 (by omega)).1
    exact ⟨q1, by rw [(h.sz hf).1]; exact q2, by rw [(h.sz hf).2.2.2]; exact q3⟩
end
theorem VJ.ww {lim : Nat} {V V' : vV} (hj : VJ lim V) (h : vpe V.1 V'.1) (h2 : V'.2 = V.2) : VJ lim V' := by
  obtain ⟨h0, h1, h3, h4⟩ := hj
  refine ⟨h0.ww h, by rw [h2]; exact h1, by rw [h2]; exact h3, fun t ht hn => ?_⟩
  rw [h2] at hn ⊢
  obtain ⟨np, a1, a2, a3⟩ := h4 t ht hn
  exact ⟨np, a1, a2.ww h (fun i hi => (a3.1 i hi).1), a3.ww h h0⟩
theorem VJ.vs {lim : Nat} {V : vV} {i : Nat} {v : Int32} (hj : VJ lim V) (hi : (i < 2228 ∨ 2898 ≤ i) ∧ i ≠ 2050 ∧ i ≠ 2051) : VJ lim (vs V i v) := hj.ww (vpe.upd hi) rfl
end
section
/-! ===== the reference gives all back, is out, gives its spare back ===== -/
theorem RR.mk' {w w' : Nat → Int32} {V V' : vV} (h : RR w V) (h1 : ∀ i, vtr i → w' i = V'.1 i) (h2 : vr_P w' V'.2.1) (h3 : ∀ p, p < 2048 → w' p = w p) (h4 : ∀ mm, VM mm V → VM mm V') : RR w' V' := by
  obtain ⟨-, -, mm, g3, g4⟩ := h
  exact ⟨h1, h2, mm, fun p hp => (h3 p hp).trans (g3 p hp), h4 mm g4⟩
theorem vfind_filter {P : vP → Bool} {t n : Nat} : ∀ {ps : List vP}, (∀ q ∈ ps, vkey t n q = true → P q = true) → (ps.filter P).find? (vkey t n) = ps.find? (vkey t n) := by
  intro ps
  induction ps with
  | nil => intro _; rfl
  | cons q ps ih =>
    intro h
    have hi := ih (fun p hp => h p (List.mem_cons_of_mem _ hp))
    by_cases e : vkey t n q = true
    · rw [List.filter_cons_of_pos (h q (List.mem_cons_self ..) e), List.find?_cons_of_pos e, List.find?_cons_of_pos e]
    · rw [List.find?_cons_of_neg e]
      by_cases p : P q = true
      · rw [List.filter_cons_of_pos p, List.find?_cons_of_neg e, hi]
      · rw [List.filter_cons_of_neg p, hi]
theorem vat_eq {ps qs : List vP} {t n : Nat} (h : qs.find? (vkey t n) = ps.find? (vkey t n)) : vat qs t n = vat ps t n ∧ vln qs t n = vln ps t n := by
  unfold vat vln
  rw [h]
  exact ⟨rfl, rfl⟩
/-- frames as words, when places stay -/
theorem MR.pl {mm w : Nat → Int32} {n : Nat} {fr : Nat → vF} {pl pl' : Nat → Nat} (h : MR mm w n fr pl) (he : ∀ i, i < n → pl' i = pl i) (hq : ∀ i, i < n → ∀ k, k < vsz w (fr i).1 → bt (w (2238 + (fr i).1)) k → ∀ q, (fr i).2.2.2.2.2 k = some q → q.1 ≤ i) : MR mm w n fr pl' := by
  intro i hi
  obtain ⟨h1, h2, h3, h4⟩ := h i hi
  rw [he i hi]
  refine ⟨h1, ?_, h3, fun k hk => ?_⟩
  · rw [h2]
    by_cases e : i = 0
    · rw [if_pos e, if_pos e]
    · rw [if_neg e, if_neg e, he (i - 1) (by omega)]
  · rw [h4 k hk]
    unfold vsw
    by_cases e : bt (w (2238 + (fr i).1)) k
    · rw [if_pos e, if_pos e]
      cases eq : (fr i).2.2.2.2.2 k with
      | none => rfl
      | some q =>
        have := hq i hi k hk e q eq
        show nI (pl q.1 + 2 + q.2) = nI (pl' q.1 + 2 + q.2)
        rw [he q.1 (by omega)]
    · rw [if_neg e, if_neg e]
/-- pieces change, the frames' own ones lie where they lay -/
theorem VM.ps {lim : Nat} {V V' : vV} {mm : Nat → Int32} (hI : VJ lim V) (h : VM mm V) (hw : ∀ i, 2228 ≤ i → i < 2248 → V'.1 i = V.1 i) (hf : ∀ t, t < 6 → V'.2.2.1 t ≤ V.2.2.1 t ∧ ∀ i, i < V'.2.2.1 t → V'.2.2.2 t i = V.2.2.2 t i ∧ vat V'.2.1 t (V.2.2.2 t i).2.1 = vat V.2.1 t (V.2.2.2 t i).2.1) : VM mm V' := by
  intro t ht
  obtain ⟨h1, h2⟩ := hf t ht
  refine MR_w hw ?_
  have hM : MR mm V.1 (V'.2.2.1 t) (V.2.2.2 t) (vpl V t) := fun i hi => h t ht i (by omega)
  have hM2 : MR mm V.1 (V'.2.2.1 t) (V.2.2.2 t) (vpl V' t) := by
    refine hM.pl (fun i hi => ?_) (fun i hi k hk hb q hq => ?_)
    · unfold vpl
      rw [(h2 i hi).1, (h2 i hi).2]
    · obtain ⟨np, -, -, a3⟩ := hI.geo ht (by omega)
      exact (a3.2.2.2.2.2 i (by omega) k hk hb q hq).1
  intro i hi
  rw [(h2 i hi).1]
  exact hM2 i hi
theorem vnot_t {q : vP} {t : Nat} : (decide (q.2.2.1 ≠ t)) = true ↔ q.2.2.1 ≠ t := by simp
theorem q_givesAll_loop {ps : List vP} {t : Nat} (ht : t < 6) (hl : ps.length ≤ 256) (hb : ∀ q ∈ ps, q.2.2.1 < 6) : ∀ (k n : Nat) (s : wt_S), k ≤ ps.length → k < n → vr_P (s 111) (ps.take k ++ (ps.drop k).filter (fun q => decide (q.2.2.1 ≠ t))) → ∃ w' n', gX11_givesAll_11 n s (nI t) (nI k + (-1)) = gX11_givesAll_11 (n' + 1) (wt_uf s 111 w') (nI t) (-1) ∧ vr_P w' (ps.filter (fun q => decide (q.2.2.1 ≠ t))) ∧ ∀ q, vout q → w' q = s 111 q := by
  intro k
  induction k with
  | zero =>
    intro n s hk hn hP
    obtain ⟨n, rfl⟩ : ∃ m, n = m + 1 := ⟨n - 1, by omega⟩
    refine ⟨s 111, n, ?_, by simpa using hP, fun _ _ => rfl⟩
    rw [uf_self, show nI 0 + (-1) = -1 by decide +kernel]
  | succ k ih =>
    intro n s hk hn hP
    obtain ⟨n, rfl⟩ : ∃ m, n = m + 1 := ⟨n - 1, by omega⟩
    obtain ⟨q, hq⟩ : ∃ q, ps[k]? = some q := ⟨_, List.getElem?_eq_getElem (by omega)⟩
    have et : ps.take (k + 1) = ps.take k ++ [q] := by
      rw [List.take_add_one, hq]; rfl
    have ed : ps.drop k = q :: ps.drop (k + 1) := by
      rw [List.drop_eq_getElem_cons (by omega)]
      rw [List.getElem?_eq_getElem (by omega)] at hq
      rw [Option.some.inj hq]
    have hlk : (ps.take k).length = k := by rw [List.length_take]; omega
    have hr : vrow (s 111) k q := by
      refine hP.2.2 k q ?_
      rw [et, List.append_assoc, List.getElem?_append_right (by omega), hlk, Nat.sub_self]
      rfl
    have hqm := hb q (List.mem_of_getElem? hq)
    rw [nI_pred2]
    have step : ∀ X, gX11_givesAll_11 (n + 1) s (nI t) (nI k) = X ↔ (if nI q.2.2.1 ≠ nI t then gX11_givesAll_11 n s (nI t) (nI k + (-1)) else (wt_cl (gX11_gives s (nI k)) fun _ s6 => gX11_givesAll_11 n s6 (nI t) (nI k + (-1)))) = X := by
      intro X
      rw [gX11_givesAll_11, nI_int (by omega), if_neg (by show ¬ (k : Int) < 0; omega), li_add, ix_nI (by omega) (by omega), hr.2.2.1]
    by_cases c : q.2.2.1 = t
    · obtain ⟨w1, e1, e2, e3⟩ := q_gives (k0 := k) hP (by
        rw [List.length_append, et, List.length_append, hlk]
        show k < k + 1 + _
        omega)
      have ee : (ps.take (k + 1) ++ (ps.drop (k + 1)).filter (fun q => decide (q.2.2.1 ≠ t))).eraseIdx k = ps.take k ++ (ps.drop k).filter (fun q => decide (q.2.2.1 ≠ t)) := by
        rw [et, ed, List.append_assoc, List.eraseIdx_append_of_length_le (by omega), hlk, Nat.sub_self, List.filter_cons_of_neg (by simp [c])]
        rfl
      rw [ee] at e2
      obtain ⟨w', n', f1, f2, f3⟩ := ih n (wt_uf s 111 w1) (by omega) (by omega) (by rw [wt_uf_at]; exact e2)
      refine ⟨w', n', ?_, f2, fun i hi => ?_⟩
      · rw [step, if_neg (by rw [c]; simp), e1, cl_some, f1, uf_uf]
      · rw [f3 i hi, wt_uf_at, e3 i hi]
    · obtain ⟨w', n', f1, f2, f3⟩ := ih n s (by omega) (by omega) (by
        rw [ed, List.filter_cons_of_pos (by simpa using c)]
        rw [et, List.append_assoc] at hP
        exact hP)
      refine ⟨w', n', ?_, f2, f3⟩
      rw [step, if_pos (fun e => c ((nI_inj32 (by omega) (by omega)).mp e))]
      exact f1
theorem q_givesAll_74 {s : wt_S} {t : Nat} (ht : t < 7) : gX11_givesAll_74 s (nI t) = some ((), wt_uf s 111 (mj_upd (mj_upd (mj_upd (mj_upd (mj_upd (mj_upd (s 111) (3989 + t) (-1)) (3996 + t) 0) (4066 + t) 0) (3954 + t) 0) (3961 + t) 0) (3975 + t) (-1))) := by
  unfold gX11_givesAll_74
  simp only [wr_eq]
  rw [li_add, ix_nI (by omega) (by omega), li_add, ix_nI (by omega) (by omega), li_add, ix_nI (by omega) (by omega), li_add, ix_nI (by omega) (by omega), li_add, ix_nI (by omega) (by omega), li_add, ix_nI (by omega) (by omega)]
  simp only [u_uf, uf_uf, wt_uf_at]
theorem vtt {c t : Nat} (h : 3926 ≤ c ∧ c ≤ 4066 ∧ (c - 3926) % 7 = 0) (ht : t < 6) : vtr (c + t) := by
  unfold vtr
  omega
theorem mj_upd_eq2 {f g : Nat → Int32} {i j : Nat} {v : Int32} (h : i = j ∨ f i = g i) : mj_upd f j v i = mj_upd g j v i := by
  by_cases e : i = j
  · subst e; rw [mj_upd_self, mj_upd_self]
  · rw [mj_upd_ne e, mj_upd_ne e]
    exact h.resolve_left e
theorem vga_1 {V : vV} {t : Nat} : (vga V t).1 = mj_upd (mj_upd (mj_upd (mj_upd (mj_upd (mj_upd (if V.1 (3989 + t) = -1 then V.1 else mj_upd V.1 (3923 + (V.1 (3989 + t)).toInt.toNat) (-1)) (3989 + t) (-1)) (3996 + t) 0) (4066 + t) 0) (3954 + t) 0) (3961 + t) 0) (3975 + t) (-1) := by
  unfold vga
  by_cases h : V.1 (3989 + t) = -1
  · simp only [if_pos h]; rfl
  · simp only [if_neg h]; rfl
theorem vga_2 {V : vV} {t : Nat} : (vga V t).2 = (V.2.1.filter (fun q => decide (q.2.2.1 ≠ t)), mj_upd V.2.2.1 t 0, V.2.2.2) := by
  unfold vga
  by_cases h : V.1 (3989 + t) = -1
  · simp only [if_pos h]; rfl
  · simp only [if_neg h]; rfl
theorem VM.ga {lim : Nat} {V : vV} {t : Nat} {mm : Nat → Int32} (hI : VJ lim V) (ht : t < 6) (h : VM mm V) (hs : V.1 (3989 + t) = -1 ∨ ∃ k, k < 3 ∧ V.1 (3989 + t) = nI k) : VM mm (vga V t) := by
  refine h.ps hI (fun i h1 h2 => ?_) (fun t' ht' => ?_)
  · rw [vga_1, mj_upd_ne (by omega), mj_upd_ne (by omega), mj_upd_ne (by omega), mj_upd_ne (by omega), mj_upd_ne (by omega), mj_upd_ne (by omega)]
    rcases hs with e | ⟨k, hk, e⟩
    · rw [if_pos e]
    · rw [if_neg (by rw [e]; exact nI_m1 (by omega)), mj_upd_ne (by omega)]
  · rw [vga_2]
    by_cases e : t' = t
    · subst e
      show mj_upd V.2.2.1 t' 0 t' ≤ _ ∧ ∀ i, i < mj_upd V.2.2.1 t' 0 t' → _
      rw [mj_upd_self]
      exact ⟨Nat.zero_le _, fun i hi => absurd hi (by omega)⟩
    · show mj_upd V.2.2.1 t 0 t' ≤ _ ∧ ∀ i, i < mj_upd V.2.2.1 t 0 t' → _
      rw [mj_upd_ne e]
      refine ⟨Nat.le_refl _, fun i hi => ⟨rfl, (vat_eq (vfind_filter (fun q _ hk => ?_))).1⟩⟩
      have : q.2.2.1 = t' := (by simpa [vkey] using hk : q.2.2.1 = t' ∧ _).1
      simp [this, e]
theorem q_ga {lim : Nat} {s : wt_S} {V : vV} {t : Nat} (hI : VJ lim V) (hl : lim = 2048) (h : RS s V) (ht : t < 6) (hs : V.1 (3989 + t) = -1 ∨ ∃ k, k < 3 ∧ V.1 (3989 + t) = nI k) : ∃ s', gX11_givesAll s (nI t) = some ((), s') ∧ RS s' (vga V t) ∧ RF s s' := by
  obtain ⟨w', n', e1, e2, e3⟩ := q_givesAll_loop (ps := V.2.1) ht h.2.2.1.2.1 (fun q hq => (hI.2.1.2 q hq).2.2.1) V.2.1.length wt_N s (Nat.le_refl _) (by have := h.2.2.1.2.1; unfold wt_N; omega) (by rw [List.take_length, List.drop_length]; simpa using h.2.2.1)
  have e0 : (s 111 2898) - 1 = nI V.2.1.length + (-1) := by rw [h.2.2.1.1, i_sub1]
  have hh : w' (3989 + t) = V.1 (3989 + t) := by rw [e3 _ (Or.inr (by omega)), h.2.at (vtt (c := 3989) (by omega) ht)]
  have fin : ∀ w2 : Nat → Int32, (∀ i, vtr i → w2 i = (if V.1 (3989 + t) = -1 then V.1 else mj_upd V.1 (3923 + (V.1 (3989 + t)).toInt.toNat) (-1)) i) → vr_P w2 (V.2.1.filter (fun q => decide (q.2.2.1 ≠ t))) → (∀ p, p < 2048 → w2 p = s 111 p) → RR (mj_upd (mj_upd (mj_upd (mj_upd (mj_upd (mj_upd w2 (3989 + t) (-1)) (3996 + t) 0) (4066 + t) 0) (3954 + t) 0) (3961 + t) 0) (3975 + t) (-1)) (vga V t) := by
    intro w2 g1 g2 g3
    refine h.2.mk' (fun i hi => ?_) ?_ (fun p hp => ?_) (fun mm hm => hm.ga hI ht hs)
    · rw [vga_1]
      refine mj_upd_eq2 (Or.inr (mj_upd_eq2 (Or.inr (mj_upd_eq2 (Or.inr (mj_upd_eq2 (Or.inr (mj_upd_eq2 (Or.inr (mj_upd_eq2 (Or.inr ?_)))))))))))
      exact g1 i hi
    · rw [vga_2]
      exact vr_P_upd (Or.inr (by omega)) (vr_P_upd (Or.inr (by omega)) (vr_P_upd (Or.inr (by omega)) (vr_P_upd (Or.inr (by omega)) (vr_P_upd (Or.inr (by omega)) (vr_P_upd (Or.inr (by omega)) g2)))))
    · rw [mj_upd_ne (by omega), mj_upd_ne (by omega), mj_upd_ne (by omega), mj_upd_ne (by omega), mj_upd_ne (by omega), mj_upd_ne (by omega)]
      exact g3 p hp
  unfold gX11_givesAll
  rw [e0, e1, gX11_givesAll_11, if_pos (by decide +kernel), li_add, ix_nI (by omega) (by omega), wt_uf_at, hh]
  rcases hs with c | ⟨k, hk, c⟩
  · rw [if_pos c, q_givesAll_74 (by omega), wt_uf_at, uf_uf]
    refine ⟨_, rfl, h.uf (fin w' (fun i hi => ?_) e2 (fun p hp => e3 p (Or.inl (by omega)))), RF.uf (Or.inl rfl)⟩
    rw [if_pos c, e3 i (vtr_out hi).1, h.2.at hi]
  · have cn : ¬ V.1 (3989 + t) = -1 := by rw [c]; exact nI_m1 (by omega)
    rw [if_neg cn, ix_nI (by omega) (by omega), hh, c, li_add, ix_nI (by omega) (by omega), wr_eq, u_uf, wt_uf_at, uf_uf, q_givesAll_74 (by omega), wt_uf_at, uf_uf]
    refine ⟨_, rfl, h.uf (fin _ (fun i hi => ?_) (vr_P_upd (Or.inr (by omega)) e2) (fun p hp => ?_)), RF.uf (Or.inl rfl)⟩
    · rw [if_neg cn, c, nI_int (by omega)]
      show mj_upd w' (3923 + k) (-1) i = mj_upd V.1 (3923 + k) (-1) i
      exact mj_upd_eq2 (Or.inr (by rw [e3 i (vtr_out hi).1, h.2.at hi]))
    · rw [mj_upd_ne (by omega)]
      exact e3 p (Or.inl (by omega))
end
section
/-! ===== bits of BACK ===== -/
theorem bk_all : ∀ x y : Fin 64, ((nI (64 * x.val + y.val) &&& 1024 = 0) ↔ (64 * x.val + y.val) / 1024 % 2 = 0) ∧ ((nI (64 * x.val + y.val) &&& 2048 = 0) ↔ (64 * x.val + y.val) < 2048) ∧ (nI (64 * x.val + y.val) &&& 1023) / 32 = nI ((64 * x.val + y.val) % 1024 / 32) ∧ (nI (64 * x.val + y.val) &&& 31) = nI ((64 * x.val + y.val) % 32) ∧ ((nI (64 * x.val + y.val) &&& 1023) >>> ((5 : Int32) &&& 31)) = nI ((64 * x.val + y.val) % 1024 / 32) := by decide +kernel
theorem bk_at {b : Nat} (h : b < 4096) : ((nI b &&& 1024 = 0) ↔ b / 1024 % 2 = 0) ∧ ((nI b &&& 2048 = 0) ↔ b < 2048) ∧ (nI b &&& 1023) / 32 = nI (b % 1024 / 32) ∧ (nI b &&& 31) = nI (b % 32) ∧ ((nI b &&& 1023) >>> ((5 : Int32) &&& 31)) = nI (b % 1024 / 32) := by
  have := bk_all ⟨b / 64, by omega⟩ ⟨b % 64, by omega⟩
  rw [show 64 * (b / 64) + b % 64 = b by omega] at this
  exact this
/-! ===== pieces found and given back ===== -/
theorem vfi_find {P : vP → Bool} : ∀ {ps : List vP} {k : Nat}, (vfi P ps k = none ↔ ps.find? P = none) ∧ ∀ x, vfi P ps k = some x → k ≤ x ∧ ps.find? P = ps[x - k]? ∧ x - k < ps.length := by
  intro ps
  induction ps with
  | nil => intro k; exact ⟨Iff.intro (fun _ => rfl) (fun _ => rfl), fun x h => by cases h⟩
  | cons q ps ih =>
    intro k
    unfold vfi
    by_cases c : P q = true
    · rw [if_pos c, List.find?_cons_of_pos c]
      refine ⟨by simp, fun x h => ?_⟩
      cases h
      exact ⟨Nat.le_refl _, by rw [Nat.sub_self]; rfl, by rw [Nat.sub_self]; simp⟩
    · rw [if_neg c, List.find?_cons_of_neg c]
      refine ⟨ih.1, fun x h => ?_⟩
      obtain ⟨h1, h2, h3⟩ := ih.2 x h
      refine ⟨by omega, ?_, by simp; omega⟩
      rw [h2, show x - k = (x - (k + 1)) + 1 by omega]
      rfl
theorem vfi_erase {t n : Nat} : ∀ {ps : List vP} {k x : Nat}, ps.Pairwise (fun p q => ¬ (p.2.2.1 = q.2.2.1 ∧ p.2.2.2 = q.2.2.2)) → vfi (vkey t n) ps k = some x → ps.eraseIdx (x - k) = ps.filter (fun q => !vkey t n q) := by
  intro ps
  induction ps with
  | nil => intro k x _ h; cases h
  | cons q ps ih =>
    intro k x hp h
    obtain ⟨p1, p2⟩ := List.pairwise_cons.mp hp
    unfold vfi at h
    by_cases c : vkey t n q = true
    · rw [if_pos c] at h
      cases h
      rw [Nat.sub_self, List.filter_cons_of_neg (by simp [c])]
      show ps = _
      rw [List.filter_eq_self.mpr]
      intro p hp2
      have c : q.2.2.1 = t ∧ q.2.2.2 = n := by simpa [vkey] using c
      have := p1 p hp2
      simp only [vkey]
      simp
      by_cases e1 : p.2.2.1 = t
      · right
        intro e2
        exact this ⟨by rw [c.1, e1], by rw [c.2, e2]⟩
      · left
        exact e1
    · rw [if_neg c] at h
      have hx := (vfi_find.2 x h).1
      rw [List.filter_cons_of_pos (by simp [c]), show x - k = (x - (k + 1)) + 1 by omega, List.eraseIdx_cons_succ, ih p2 h]
theorem vfi_some {t n : Nat} {ps : List vP} (h : ∃ q ∈ ps, q.2.2.1 = t ∧ q.2.2.2 = n) : ∃ x q, vfi (vkey t n) ps 0 = some x ∧ ps[x]? = some q ∧ x < ps.length ∧ q ∈ ps ∧ q.2.2.1 = t ∧ q.2.2.2 = n ∧ vat ps t n = q.1 ∧ vln ps t n = q.2.1 := by
  obtain ⟨q, q1, q2, q3, q4, q5, q6⟩ := vget h
  cases hv : vfi (vkey t n) ps 0 with
  | none => rw [vfi_find.1.mp hv] at q6; cases q6
  | some x =>
    obtain ⟨-, h2, h3⟩ := vfi_find.2 x hv
    rw [Nat.sub_zero] at h2 h3
    exact ⟨x, q, rfl, by rw [← h2, q6], h3, q1, q2, q3, q4, q5⟩
/-- a task's frames and its scalars -/
def Ico (V : vV) (t np : Nat) : Prop := V.1 (3954 + t) = nI (V.2.2.1 t) ∧ V.1 (4066 + t) = nI np ∧ (1 ≤ np ∧ np ≤ 256) ∧ Itp V.2.1 t np ∧ ((V.1 (3933 + t) = 0 ∧ np = 1 ∧ ∀ q ∈ V.2.1, ¬ (q.2.2.1 = t ∧ q.2.2.2 = 1000)) ∨ V.1 (3933 + t) = 1) ∧ V.1 (3961 + t) = nI (vus V.1 (V.2.2.2 t) (V.2.2.1 t)) ∧
  (0 < V.2.2.1 t → Geo V.1 V.2.1 t np (V.2.2.1 t) (V.2.2.2 t) ∧ (V.2.2.2 t (V.2.2.1 t - 1)).2.1 = np - 1 ∧ Ifr V.1 V.2.1 t (V.2.2.1 t) (V.2.2.2 t) ∧ V.1 (3982 + t) = nI (vpl V t (V.2.2.1 t - 1)) ∧ V.1 (3975 + t) = nI (V.2.2.2 t (V.2.2.1 t - 1)).1) ∧ (V.2.2.1 t = 0 → np = 1 ∧ V.1 (3982 + t) = 0)
theorem Ico.n {lim : Nat} {V : vV} {t np : Nat} (h : Ico V t np) (hj : VJ lim V) (hl : lim ≤ 10000) : V.2.2.1 t ≤ 3334 ∧ vus V.1 (V.2.2.2 t) (V.2.2.1 t) ≤ lim := by
  by_cases c : V.2.2.1 t = 0
  · rw [c]; exact ⟨by omega, by unfold vus; omega⟩
  · obtain ⟨n, hn⟩ : ∃ n, V.2.2.1 t = n + 1 := ⟨V.2.2.1 t - 1, by omega⟩
    obtain ⟨g, -, f, -⟩ := h.2.2.2.2.2.2.1 (by omega)
    rw [hn] at g f ⊢
    have h1 := g.all hj.2.1
    have h2 := vus3 (fun i hi => (f.1 i hi).2)
    omega
section
variable {s : wt_S} {V : vV} {t np : Nat}
theorem RS.tk (h : RS s V) {c : Nat} (hc : 3926 ≤ c ∧ c ≤ 4066 ∧ (c - 3926) % 7 = 0) (ht : t < 6) : s 111 (c + t) = V.1 (c + t) := h.2.at (vtt hc ht)
theorem RS.pr (h : RS s V) {c : Nat} (hc : 2228 ≤ c ∧ c < 2898) : s 111 c = V.1 c := h.2.at (Or.inr (Or.inl hc))
theorem RS.se (h : RS s V) {c : Nat} (hc : 2048 ≤ c ∧ c ≤ 2067) : s 111 c = V.1 c := h.2.at (Or.inl hc)
/-- a word of a frame -/
theorem RS.wd {lim : Nat} (h : RS s V) (hj : VJ lim V) (hl : lim = 2048) {i : Nat} (ht : t < 6) (hi : i < V.2.2.1 t) : s 111 (vpl V t i) = (if i = 0 then -1 else nI (vpl V t (i - 1))) ∧ s 111 (vpl V t i + 1) = nI (V.2.2.2 t i).2.2.2.1 ∧ ∀ k, k < vsz V.1 (V.2.2.2 t i).1 → s 111 (vpl V t i + 2 + k) = vsw V.1 (vpl V t) (V.2.2.2 t i) k := by
  obtain ⟨-, -, mm, h3, h4⟩ := h.2
  obtain ⟨-, g1, g2, g3⟩ := h4 t ht i hi
  have hf := (hj.fit ht hi).2.2
  unfold vwd at hf
  refine ⟨by rw [h3 _ (by omega)]; exact g1, by rw [h3 _ (by omega)]; exact g2, fun k hk => by rw [h3 _ (by omega)]; exact g3 k hk⟩
theorem Ifr.bk {w : Nat → Int32} {ps : List vP} {n : Nat} {fr : Nat → vF} (h : Ifr w ps t n fr) {i : Nat} (hi : i < n) : (fr i).2.2.2.1 < 4096 := by
  cases i with
  | zero => rcases h.2.1 with e | e <;> rw [e] <;> omega
  | succ i => exact (h.2.2.1 i hi).1
theorem q_isCovered {lim : Nat} (h : RS s V) (hj : VJ lim V) (hl : lim = 2048) (hc : Ico V t np) (ht : t < 6) : gX11_isCovered s (nI t) = some (rb (vlc V t = true), s) := by
  have hn := hc.n hj (by omega)
  unfold gX11_isCovered
  rw [li_add, ix_nI (by omega) (by omega), h.tk (c := 3954) (by omega) ht, hc.1, nI_int (by omega)]
  by_cases c : V.2.2.1 t = 0
  · rw [if_pos (by rw [c]; decide), rb_neg]
    unfold vlc
    simp [c]
  · obtain ⟨g, -, f, a, -⟩ := hc.2.2.2.2.2.2.1 (by omega)
    have hi : V.2.2.1 t - 1 < V.2.2.1 t := by omega
    have hf := hj.fit ht hi
    unfold vwd at hf
    rw [if_neg (by show ¬ ((V.2.2.1 t : Nat) : Int) ≤ 0; omega), li_add, ix_nI (by omega) (by omega), h.tk (c := 3982) (by omega) ht, a, li_add2, q_word0 h.1 (by omega), cl_some, (h.wd hj hl ht hi).2.1]
    have hb := (bk_at (f.bk hi)).1
    by_cases cc : (V.2.2.2 t (V.2.2.1 t - 1)).2.2.2.1 / 1024 % 2 = 0
    · rw [if_pos (hb.mpr cc), rb_neg]
      unfold vlc
      simp [cc]
    · rw [if_neg (fun e => cc (hb.mp e)), rb_pos]
      unfold vlc
      simp
      omega
theorem q_topOf {lim : Nat} (h : RS s V) (hj : VJ lim V) (hl : lim = 2048) (hc : Ico V t np) (ht : t < 6) : gX11_topOf s (nI t) = some (nI (vtop V t), s) := by
  have hn := hc.n hj (by omega)
  unfold gX11_topOf
  rw [li_add, ix_nI (by omega) (by omega), h.tk (c := 3954) (by omega) ht, hc.1, nI_int (by omega)]
  unfold vtop
  by_cases c : V.2.2.1 t = 0
  · have hnp := hc.2.2.1
    obtain ⟨x, q, e1, e2, e3, -, -, -, e4, -⟩ := vfi_some (hc.2.2.2.1.1 0 (by omega))
    have hl256 := h.2.2.1.2.1
    rw [if_pos (by rw [c]; decide), if_pos h.1, show (0 : Int32) = nI 0 from rfl, q_pieceOf h.2.2.1 (by rw [← hl]; exact hj.2.1) ht (by omega), cl_some, e1]
    show (wt_ix (2899 + nI x) 4073 fun k4 => some (s 111 k4, s)) = _
    rw [li_add, ix_nI (by omega) (by omega), (h.2.2.1.2.2 x q e2).1, if_pos c, e4]
  · obtain ⟨g, -, f, a, b⟩ := hc.2.2.2.2.2.2.1 (by omega)
    have hi : V.2.2.1 t - 1 < V.2.2.1 t := by omega
    have hf := (f.1 _ hi).1
    rw [if_neg (by show ¬ ((V.2.2.1 t : Nat) : Int) ≤ 0; omega), li_add, ix_nI (by omega) (by omega), h.tk (c := 3982) (by omega) ht, a, li_add, ix_nI (by omega) (by omega), h.tk (c := 3975) (by omega) ht, b, q_frameOf hf, cl_some, h.pr (by omega), (hj.1.wd hf).1, nI_add, if_neg c]
theorem q_lastPiece {lim : Nat} (h : RS s V) (hj : VJ lim V) (hl : lim = 2048) (hc : Ico V t np) (ht : t < 6) : ∃ x q, gX11_lastPiece s (nI t) = some (nI x, s) ∧ vfi (vkey t (np - 1)) V.2.1 0 = some x ∧ V.2.1[x]? = some q ∧ x < V.2.1.length ∧ x < 256 ∧ q ∈ V.2.1 ∧ q.2.2.1 = t ∧ q.2.2.2 = np - 1 ∧ vat V.2.1 t (np - 1) = q.1 ∧ vln V.2.1 t (np - 1) = q.2.1 := by
  obtain ⟨x, q, e1, e2, e3, e4, e5, e6, e7, e8⟩ := vfi_some (hc.2.2.2.1.1 (np - 1) (by have := hc.2.2.1; omega))
  refine ⟨x, q, ?_, e1, e2, e3, by have := h.2.2.1.2.1; omega, e4, e5, e6, e7, e8⟩
  unfold gX11_lastPiece
  have hnp := hc.2.2.1
  rw [li_add, ix_nI (by omega) (by omega), h.tk (c := 4066) (by omega) ht, hc.2.1, li_sub (by omega), q_pieceOf h.2.2.1 (by rw [← hl]; exact hj.2.1) ht (by omega), cl_some, e1]
  rfl
end
end
section
/-! ===== the words that are places are turned ===== -/
/-- frames that lie at ql, their words speaking of pl -/
def vMQ (mm w : Nat → Int32) (n : Nat) (fr : Nat → vF) (ql pl : Nat → Nat) : Prop := ∀ i, i < n → mm (ql i) = (if i = 0 then -1 else nI (pl (i - 1))) ∧ mm (ql i + 1) = nI (fr i).2.2.2.1 ∧ ∀ k, k < vsz w (fr i).1 → mm (ql i + 2 + k) = vsw w pl (fr i) k
/-- so far: frames above i have been turned, of frame i the slots before k0 -/
def TQ (mm w : Nat → Int32) (n : Nat) (fr : Nat → vF) (ql pl pl' : Nat → Nat) (i k0 : Nat) : Prop := ∀ j, j < n → mm (ql j) = (if j = 0 then -1 else nI ((if i < j then pl' else pl) (j - 1))) ∧ mm (ql j + 1) = nI (fr j).2.2.2.1 ∧ ∀ k, k < vsz w (fr j).1 → mm (ql j + 2 + k) = vsw w (if i < j ∨ i = j ∧ k < k0 then pl' else pl) (fr j) k
/-- what the turning stands on: W the scalars, frames apart and within the memory, goals -/
def TH (W : Nat → Int32) (n : Nat) (fr : Nat → vF) (ql pl pl' : Nat → Nat) (lim : Nat) : Prop := Ipr W ∧ (∀ i, i < n → (fr i).1 < 10 ∧ ql i + vwd W (fr i).1 ≤ lim) ∧ (∀ i j, i < n → j < n → i ≠ j → ql i + vwd W (fr i).1 ≤ ql j ∨ ql j + vwd W (fr j).1 ≤ ql i) ∧
  (∀ i, i < n → ∀ k, k < vsz W (fr i).1 → bt (W (2238 + (fr i).1)) k → ∀ q, (fr i).2.2.2.2.2 k = some q → q.1 ≤ i ∧ q.2 < vsz W (fr q.1).1) ∧ (∀ i, i + 1 < n → (fr (i + 1)).2.2.2.1 < 4096 ∧ (fr (i + 1)).2.2.2.1 % 1024 / 32 = (fr i).1) ∧ (∀ i, i < n → pl i + vwd W (fr i).1 ≤ lim)
section
variable {W mm : Nat → Int32} {n : Nat} {fr : Nat → vF} {ql pl pl' : Nat → Nat} {lim : Nat}
theorem TQ.next {i k : Nat} (hT : TH W n fr ql pl pl' lim) (hi : i < n) (hk : k < vsz W (fr i).1) (h : TQ mm W n fr ql pl pl' i k) : TQ (mj_upd mm (ql i + 2 + k) (vsw W pl' (fr i) k)) W n fr ql pl pl' i (k + 1) := by
  intro j hj
  obtain ⟨h1, h2, h3⟩ := h j hj
  have hz := (hT.2.1 i hi).2
  by_cases e : i = j
  · subst e
    refine ⟨by rw [mj_upd_ne (by omega)]; exact h1, by rw [mj_upd_ne (by omega)]; exact h2, fun k' hk' => ?_⟩
    by_cases ek : k' = k
    · subst ek
      rw [mj_upd_self, if_pos (Or.inr ⟨rfl, by omega⟩)]
    · rw [mj_upd_ne (by omega), h3 k' hk']
      by_cases c : k' < k
      · rw [if_pos (Or.inr ⟨rfl, c⟩), if_pos (Or.inr ⟨rfl, by omega⟩)]
      · rw [if_neg (by omega), if_neg (by omega)]
  · have hd := hT.2.2.1 i j hi hj e
    unfold vwd at hd hz
    refine ⟨by rw [mj_upd_ne (by omega)]; exact h1, by rw [mj_upd_ne (by omega)]; exact h2, fun k' hk' => ?_⟩
    rw [mj_upd_ne (by omega), h3 k' hk']
    by_cases c : i < j
    · rw [if_pos (Or.inl c), if_pos (Or.inl c)]
    · rw [if_neg (by omega), if_neg (by omega)]
/-- a slot that isn't turned -/
theorem TQ.skip {i k : Nat} (hi : i < n) (hk : k < vsz W (fr i).1) (h : TQ mm W n fr ql pl pl' i k) (he : vsw W pl' (fr i) k = vsw W pl (fr i) k) : TQ mm W n fr ql pl pl' i (k + 1) := by
  intro j hj
  obtain ⟨h1, h2, h3⟩ := h j hj
  refine ⟨h1, h2, fun k' hk' => ?_⟩
  rw [h3 k' hk']
  by_cases e : i = j
  · subst e
    by_cases ek : k' = k
    · subst ek
      rw [if_neg (by omega), if_pos (Or.inr ⟨rfl, by omega⟩), he]
    · by_cases c : k' < k
      · rw [if_pos (Or.inr ⟨rfl, c⟩), if_pos (Or.inr ⟨rfl, by omega⟩)]
      · rw [if_neg (by omega), if_neg (by omega)]
  · by_cases c : i < j
    · rw [if_pos (Or.inl c), if_pos (Or.inl c)]
    · rw [if_neg (by omega), if_neg (by omega)]
/-- the base, and on with the frame below -/
theorem TQ.down {i : Nat} (hT : TH W n fr ql pl pl' lim) (hi : i + 1 < n) (h : TQ mm W n fr ql pl pl' (i + 1) (vsz W (fr (i + 1)).1)) : TQ (mj_upd mm (ql (i + 1)) (nI (pl' i))) W n fr ql pl pl' i 0 := by
  intro j hj
  obtain ⟨h1, h2, h3⟩ := h j hj
  by_cases e : i + 1 = j
  · subst e
    refine ⟨by rw [mj_upd_self, if_neg (by omega), if_pos (by omega)]; rfl, by rw [mj_upd_ne (by omega)]; exact h2, fun k' hk' => ?_⟩
    rw [mj_upd_ne (by omega), h3 k' hk', if_pos (Or.inr ⟨rfl, hk'⟩), if_pos (Or.inl (by omega))]
  · have hd := hT.2.2.1 (i + 1) j hi hj e
    unfold vwd at hd
    refine ⟨?_, by rw [mj_upd_ne (by omega)]; exact h2, fun k' hk' => ?_⟩
    · rw [mj_upd_ne (by omega), h1]
      by_cases c : i + 1 < j
      · simp only [if_pos c, if_pos (show i < j by omega)]
      · simp only [if_neg c, if_neg (show ¬ i < j by omega)]
    · rw [mj_upd_ne (by omega), h3 k' hk']
      by_cases c : i + 1 < j
      · rw [if_pos (Or.inl c), if_pos (Or.inl (by omega))]
      · rw [if_neg (by omega), if_neg (by omega)]
theorem TQ.start (h : vMQ mm W n fr ql pl) : TQ mm W n fr ql pl pl' (n - 1) 0 := by
  intro j hj
  obtain ⟨h1, h2, h3⟩ := h j hj
  refine ⟨?_, h2, fun k hk => ?_⟩
  · rw [h1, if_neg (show ¬ n - 1 < j by omega)]
  · rw [h3 k hk, if_neg (by omega)]
theorem TQ.fin (hn : 0 < n) (h : TQ mm W n fr ql pl pl' 0 (vsz W (fr 0).1)) : vMQ mm W n fr ql pl' := by
  intro j hj
  obtain ⟨h1, h2, h3⟩ := h j hj
  refine ⟨?_, h2, fun k hk => ?_⟩
  · rw [h1]
    by_cases e : j = 0
    · rw [if_pos e, if_pos e]
    · rw [if_neg e, if_neg e, if_pos (by omega)]
  · rw [h3 k hk, if_pos]
    by_cases e : j = 0
    · subst e; exact Or.inr ⟨rfl, hk⟩
    · exact Or.inl (by omega)
/-- a slot that speaks of a place, one that doesn't -/
theorem vsw_cases {F : vF} {k : Nat} : (bt (W (2238 + F.1)) k ∧ ∃ q, F.2.2.2.2.2 k = some q ∧ vsw W pl F k = nI (pl q.1 + 2 + q.2) ∧ vsw W pl' F k = nI (pl' q.1 + 2 + q.2)) ∨ (bt (W (2238 + F.1)) k ∧ F.2.2.2.2.2 k = none ∧ vsw W pl F k = -1 ∧ vsw W pl' F k = -1) ∨ (¬ bt (W (2238 + F.1)) k ∧ vsw W pl' F k = vsw W pl F k) := by
  unfold vsw
  by_cases c : bt (W (2238 + F.1)) k
  · cases e : F.2.2.2.2.2 k with
    | none => exact Or.inr (Or.inl ⟨c, rfl, by rw [if_pos c], by rw [if_pos c]⟩)
    | some q => exact Or.inl ⟨c, q, rfl, by rw [if_pos c], by rw [if_pos c]⟩
  · exact Or.inr (Or.inr ⟨c, by rw [if_neg c, if_neg c]⟩)
end
/-! ### the reference's turns -/
/-- goals of places of frames -/
def GO (s : wt_S) (W : Nat → Int32) (n : Nat) (fr : Nat → vF) (pl pl' : Nat → Nat) : Prop := ∀ w' : Nat → Int32, ∀ i, i < n → ∀ j, j < vwd W (fr i).1 → gX11_goalOf (wt_uf s 111 w') (nI (pl i + j)) = some (nI (pl' i + j), wt_uf s 111 w')
section
variable {W : Nat → Int32} {n : Nat} {fr : Nat → vF} {pl pl' : Nat → Nat} {s0 : wt_S} {t : Nat}
theorem q_turns_67 {K : wt_S → Int32 → Int32 → Int32 → Int32 → Option (Unit × wt_S)} (hT : TH W n fr pl' pl pl' 2048) (hG : GO s0 W n fr pl pl') {i : Nat} (hi : i < n) {m1 : Int32} : ∀ (m k fu : Nat) (w : Nat → Int32), k + m = vsz W (fr i).1 → m < fu → (∀ f, f < 10 → w (2228 + f) = W (2228 + f) ∧ w (2238 + f) = W (2238 + f)) → TQ w W n fr pl' pl pl' i k →
    ∃ w', (∀ x, 2048 ≤ x → w' x = w x) ∧ (∀ x, (∀ j, j < n → x < pl' j ∨ pl' j + vwd W (fr j).1 ≤ x) → w' x = w x) ∧
      (if i = 0 then TQ w' W n fr pl' pl pl' 0 (vsz W (fr 0).1) ∧ gX11_turns_67 K fu (wt_uf s0 111 w) (nI t) (nI (pl' i)) (nI (fr i).1) m1 (nI k) = some ((), wt_uf s0 111 w')
        else TQ w' W n fr pl' pl pl' (i - 1) 0 ∧ gX11_turns_67 K fu (wt_uf s0 111 w) (nI t) (nI (pl' i)) (nI (fr i).1) m1 (nI k) = K (wt_uf s0 111 w') (nI t) (nI (pl' (i - 1))) (nI (fr (i - 1)).1) (m1 + 1)) := by
  have hf := hT.2.1 i hi
  have hzz := (hT.1.sz hf.1)
  have hw := hf.2
  unfold vwd at hw
  intro m
  induction m with
  | zero =>
    intro k fu w hk hfu hp hq
    obtain ⟨fu, rfl⟩ : ∃ m, fu = m + 1 := ⟨fu - 1, by omega⟩
    obtain rfl : k = vsz W (fr i).1 := by omega
    obtain ⟨q1, q2, q3⟩ := hq i hi
    rw [if_neg (Nat.lt_irrefl i)] at q1
    by_cases e : i = 0
    · subst e
      refine ⟨w, fun _ _ => rfl, fun _ _ => rfl, ?_⟩
      rw [if_pos rfl]
      refine ⟨hq, ?_⟩
      rw [gX11_turns_67, li_add, ix_nI (by omega) (by omega), wt_uf_at, (hp _ hf.1).1, hzz.1, nI_int (by omega), if_pos (by omega), ix_nI (by omega) (by omega), q1, if_pos rfl, if_neg (by decide)]
    · rw [if_neg e] at q1
      obtain ⟨i, rfl⟩ : ∃ j, i = j + 1 := ⟨i - 1, by omega⟩
      have hb := hT.2.2.2.2.1 i hi
      have hli := hT.2.2.2.2.2 i (by omega)
      have hg := hG w i (by omega) 0 (by unfold vwd; omega)
      rw [Nat.add_zero, Nat.add_zero] at hg
      refine ⟨mj_upd w (pl' (i + 1)) (nI (pl' i)), fun x hx => mj_upd_ne (by omega), fun x hx => mj_upd_ne (by have := hx (i + 1) hi; unfold vwd at this; omega), ?_⟩
      rw [if_neg e]
      refine ⟨TQ.down hT hi hq, ?_⟩
      have q1 : w (pl' (i + 1)) = nI (pl i) := q1
      rw [gX11_turns_67, li_add, ix_nI (by omega) (by omega), wt_uf_at, (hp _ hf.1).1, hzz.1, nI_int (by omega), if_pos (by omega), ix_nI (by omega) (by omega), q1, if_pos (nI_m1 (by unfold vwd at hli; omega)), hg, cl_some, ix_nI (by omega) (by omega), wr_eq, u_uf, wt_uf_at, uf_uf, li_add2, ix_nI (by omega) (by omega), ix_nI (by omega) (by omega), wt_uf_at, mj_upd_self, mj_upd_ne (by omega), q2, (bk_at hb.1).2.2.1, hb.2]
      rfl
  | succ m ih =>
    intro k fu w hk hfu hp hq
    obtain ⟨fu, rfl⟩ : ∃ m, fu = m + 1 := ⟨fu - 1, by omega⟩
    have hk1 : k < vsz W (fr i).1 := by omega
    obtain ⟨q1, q2, q3⟩ := hq i hi
    have q3 := q3 k hk1
    rw [if_neg (by omega)] at q3
    have start : ∀ X, gX11_turns_67 K (fu + 1) (wt_uf s0 111 w) (nI t) (nI (pl' i)) (nI (fr i).1) m1 (nI k) = X ↔ (if bt (W (2238 + (fr i).1)) k then (if w (pl' i + 2 + k) = -1 then gX11_turns_67 K fu (wt_uf s0 111 w) (nI t) (nI (pl' i)) (nI (fr i).1) m1 (nI (k + 1)) else (wt_cl (gX11_goalOf (wt_uf s0 111 w) (w (pl' i + 2 + k))) fun v15 s14 => gX11_turns_67 K fu (wt_u s14 111 (pl' i + 2 + k) v15) (nI t) (nI (pl' i)) (nI (fr i).1) m1 (nI (k + 1)))) else gX11_turns_67 K fu (wt_uf s0 111 w) (nI t) (nI (pl' i)) (nI (fr i).1) m1 (nI (k + 1))) = X := by
      intro X
      rw [gX11_turns_67, li_add, ix_nI (by omega) (by omega), wt_uf_at, (hp _ hf.1).1, hzz.1, nI_int (by omega), nI_int (by omega), if_neg (by omega), li_add, ix_nI (by omega) (by omega), (hp _ hf.1).2, q_has, cl_some, if_rb, nI_1, li_add2, nI_add, ix_nI (by omega) (by omega), ix_nI (by omega) (by omega), wt_uf_at]
      simp only [ix_nI (show pl' i + 2 + k < 4073 by omega) (show 4073 ≤ 100000 by omega), wr_eq]
    rcases vsw_cases (W := W) (pl := pl) (pl' := pl') (F := fr i) (k := k) with ⟨c1, q, c2, c3, c4⟩ | ⟨c1, c2, c3, c4⟩ | ⟨c1, c2⟩
    · have hpq := hT.2.2.2.1 i hi k hk1 c1 q c2
      have hg := hG w q.1 (by omega) (2 + q.2) (by unfold vwd; omega)
      rw [← Nat.add_assoc, ← Nat.add_assoc] at hg
      have hlq := hT.2.2.2.2.2 q.1 (by omega)
      obtain ⟨w', a1, a2, a3⟩ := ih (k + 1) fu (mj_upd w (pl' i + 2 + k) (vsw W pl' (fr i) k)) (by omega) (by omega) (fun f hf => by rw [mj_upd_ne (by omega), mj_upd_ne (by omega)]; exact hp f hf) (TQ.next hT hi hk1 hq)
      refine ⟨w', fun x hx => by rw [a1 x hx, mj_upd_ne (by omega)], fun x hx => by rw [a2 x hx, mj_upd_ne (by have := hx i hi; unfold vwd at this; omega)], ?_⟩
      simp only [start]
      rw [if_pos c1, q3, c3, if_neg (nI_m1 (by unfold vwd at hlq; omega)), hg, cl_some, u_uf, wt_uf_at, uf_uf, ← c4]
      exact a3
    · obtain ⟨w', a1, a2, a3⟩ := ih (k + 1) fu w (by omega) (by omega) hp (TQ.skip hi hk1 hq (by rw [c3, c4]))
      refine ⟨w', a1, a2, ?_⟩
      simp only [start]
      rw [if_pos c1, q3, c3, if_pos rfl]
      exact a3
    · obtain ⟨w', a1, a2, a3⟩ := ih (k + 1) fu w (by omega) (by omega) hp (TQ.skip hi hk1 hq c2)
      refine ⟨w', a1, a2, ?_⟩
      simp only [start]
      rw [if_neg c1]
      exact a3
end
end
section
/-! ===== the reference turns all frames of a task; carries parts; goals ===== -/
section
variable {W : Nat → Int32} {n : Nat} {fr : Nat → vF} {pl pl' : Nat → Nat} {s0 : wt_S} {t : Nat}
theorem q_turns_49 (hT : TH W n fr pl' pl pl' 2048) (hG : GO s0 W n fr pl pl') (ht : t < 6) (hn : n < 5000) : ∀ (i fu : Nat) (w : Nat → Int32), i < n → i < fu → w (3954 + t) = nI n → (∀ f, f < 10 → w (2228 + f) = W (2228 + f) ∧ w (2238 + f) = W (2238 + f)) → TQ w W n fr pl' pl pl' i 0 →
    ∃ w', gX11_turns_49 fu (wt_uf s0 111 w) (nI t) (nI (pl' i)) (nI (fr i).1) (nI (n - 1 - i)) = some ((), wt_uf s0 111 w') ∧ vMQ w' W n fr pl' pl' ∧ (∀ x, 2048 ≤ x → w' x = w x) ∧ (∀ x, (∀ j, j < n → x < pl' j ∨ pl' j + vwd W (fr j).1 ≤ x) → w' x = w x) := by
  intro i
  induction i with
  | zero =>
    intro fu w hi hfu hF hp hq
    obtain ⟨fu, rfl⟩ : ∃ m, fu = m + 1 := ⟨fu - 1, by omega⟩
    have hz := (hT.1.sz (hT.2.1 0 hi).1).2
    obtain ⟨w', a1, a2, a3⟩ := q_turns_67 (t := t) (K := gX11_turns_49 fu) hT hG hi (m1 := nI (n - 1 - 0)) (vsz W (fr 0).1) 0 wt_N w (by omega) (by unfold wt_N; omega) hp hq
    rw [if_pos rfl] at a3
    refine ⟨w', ?_, TQ.fin hi a3.1, a1, a2⟩
    rw [gX11_turns_49, li_add, ix_nI (by omega) (by omega), wt_uf_at, hF, nI_int (by omega), nI_int (by omega), if_neg (by omega)]
    exact a3.2
  | succ i ih =>
    intro fu w hi hfu hF hp hq
    obtain ⟨fu, rfl⟩ : ∃ m, fu = m + 1 := ⟨fu - 1, by omega⟩
    have hz := (hT.1.sz (hT.2.1 (i + 1) hi).1).2
    obtain ⟨w', a1, a2, a3⟩ := q_turns_67 (t := t) (K := gX11_turns_49 fu) hT hG hi (m1 := nI (n - 1 - (i + 1))) (vsz W (fr (i + 1)).1) 0 wt_N w (by omega) (by unfold wt_N; omega) hp hq
    rw [if_neg (by omega)] at a3
    obtain ⟨w2, b1, b2, b3, b4⟩ := ih fu w' (by omega) (by omega) (by rw [a1 _ (by omega)]; exact hF) (fun f hf => by rw [a1 _ (by omega), a1 _ (by omega)]; exact hp f hf) a3.1
    refine ⟨w2, ?_, b2, fun x hx => by rw [b3 x hx, a1 x hx], fun x hx => by rw [b4 x hx, a2 x hx]⟩
    rw [gX11_turns_49, li_add, ix_nI (by omega) (by omega), wt_uf_at, hF, nI_int (by omega), nI_int (by omega), if_neg (by omega)]
    refine a3.2.trans ?_
    rw [nI_1, show n - 1 - (i + 1) + 1 = n - 1 - i by omega]
    exact b1
theorem q_turns {s : wt_S} (hT : TH W n fr pl' pl pl' 2048) (hG : GO s W n fr pl pl') (ht : t < 6) (hn : 0 < n ∧ n < 5000) (h1 : s 111 (3954 + t) = nI n) (h2 : s 111 (3982 + t) = nI (pl (n - 1))) (h3 : s 111 (3975 + t) = nI (fr (n - 1)).1) (hp : ∀ f, f < 10 → s 111 (2228 + f) = W (2228 + f) ∧ s 111 (2238 + f) = W (2238 + f)) (hq : vMQ (s 111) W n fr pl' pl) :
    ∃ w', gX11_turns s (nI t) = some ((), wt_uf s 111 w') ∧ vMQ w' W n fr pl' pl' ∧ w' (3982 + t) = nI (pl' (n - 1)) ∧ (∀ x, 2048 ≤ x → x ≠ 3982 + t → w' x = s 111 x) ∧ (∀ x, x < 2048 → (∀ j, j < n → x < pl' j ∨ pl' j + vwd W (fr j).1 ≤ x) → w' x = s 111 x) := by
  have hg := hG (s 111) (n - 1) (by omega) 0 (by unfold vwd; omega)
  rw [uf_self, Nat.add_zero, Nat.add_zero] at hg
  have hf := hT.2.1 (n - 1) (by omega)
  have hin : ∀ x, 2048 ≤ x → ∀ j, j < n → x < pl' j ∨ pl' j + vwd W (fr j).1 ≤ x := fun x hx j hj => by have := (hT.2.1 j hj).2; omega
  obtain ⟨w', a1, a2, a3, a4⟩ := q_turns_49 (s0 := s) hT hG ht hn.2 (n - 1) wt_N (mj_upd (s 111) (3982 + t) (nI (pl' (n - 1)))) (by omega) (by unfold wt_N; omega) (by rw [mj_upd_ne (by omega)]; exact h1) (fun f hf => by rw [mj_upd_ne (by omega), mj_upd_ne (by omega)]; exact hp f hf)
    (TQ.start (fun i hi => by
      obtain ⟨q1, q2, q3⟩ := hq i hi
      have := (hT.2.1 i hi).2
      unfold vwd at this
      exact ⟨by rw [mj_upd_ne (by omega)]; exact q1, by rw [mj_upd_ne (by omega)]; exact q2, fun k hk => by rw [mj_upd_ne (by omega)]; exact q3 k hk⟩))
  refine ⟨w', ?_, a2, by rw [a3 _ (by omega), mj_upd_self], fun x hx hx2 => by rw [a3 x hx, mj_upd_ne hx2], fun x hx hx2 => by rw [a4 x hx2, mj_upd_ne (by omega)]⟩
  unfold gX11_turns
  rw [li_add, ix_nI (by omega) (by omega), h2, hg, cl_some, ix_nI (by omega) (by omega), wr_eq, u_uf, ix_nI (by omega) (by omega), li_add, ix_nI (by omega) (by omega), wt_uf_at, mj_upd_self, mj_upd_ne (by omega), h3]
  rw [show n - 1 - (n - 1) = 0 by omega] at a1
  exact a1
end
/-! ### parts: from, how many, to -/
abbrev vT : Type := Nat × Nat × Nat
def PT (s : wt_S) (pt : List vT) : Prop := s 110 9 = nI pt.length ∧ pt.length ≤ 256 ∧ ∀ k q, pt[k]? = some q → s 115 k = nI q.1 ∧ s 116 k = nI q.2.1 ∧ s 117 k = nI q.2.2
theorem PT.uf {s : wt_S} {pt : List vT} {w : Nat → Int32} (h : PT s pt) : PT (wt_uf s 111 w) pt := by
  unfold PT
  rw [wt_uf_ne (by omega), wt_uf_ne (by omega), wt_uf_ne (by omega), wt_uf_ne (by omega)]
  exact h
def vin (p : Nat) (q : vT) : Bool := decide (q.1 ≤ p ∧ p < q.1 + q.2.1)
def vgo (pt : List vT) (p : Nat) : Nat := match pt.find? (vin p) with
  | some q => q.2.2 + (p - q.1)
  | none => p
theorem sub1_int {a : Nat} (h : a < 2147483648) : (nI a - 1).toInt = (a : Int) - 1 := by
  cases a with
  | zero => decide
  | succ a =>
    rw [li_sub (by omega), nI_int (by omega)]
    show ((a + 1 - 1 : Nat) : Int) = _
    omega
theorem q_goalOf {s : wt_S} {pt : List vT} {p : Nat} (h : PT s pt) (hb : ∀ q ∈ pt, q.1 < 100000 ∧ q.2.1 < 100000 ∧ q.2.2 < 100000) (hp : p < 100000) : gX11_goalOf s (nI p) = some (nI (vgo pt p), s) := by
  obtain ⟨h1, h2, h3⟩ := h
  have loop : ∀ (qs : List vT) (k fu : Nat), pt.drop k = qs → qs.length < fu → k ≤ pt.length → gX11_goalOf_2 fu s (nI p) (nI k) = some (nI (vgo qs p), s) := by
    intro qs
    induction qs with
    | nil =>
      intro k fu hq hfu hk
      obtain ⟨fu, rfl⟩ : ∃ m, fu = m + 1 := ⟨fu - 1, by simp at hfu; omega⟩
      have hk2 : pt.length ≤ k := List.drop_eq_nil_iff.mp hq
      rw [gX11_goalOf_2, h1, nI_int (by omega), nI_int (by omega), if_pos (by omega)]
      rfl
    | cons q qs ih =>
      intro k fu hq hfu hk
      obtain ⟨fu, rfl⟩ : ∃ m, fu = m + 1 := ⟨fu - 1, by simp at hfu; omega⟩
      obtain ⟨e1, e2, e3⟩ := drop_cons hq
      obtain ⟨r1, r2, r3⟩ := h3 k q e1
      have hb := hb q (List.mem_of_getElem? e1)
      rw [gX11_goalOf_2, h1, nI_int (by omega), nI_int (by omega), if_neg (by omega), ix_nI (by omega) (by omega), ix_nI (by omega) (by omega), ix_nI (by omega) (by omega), r1, r2, nI_add, q_isIn, cl_some, if_rb, nI_int (by omega), nI_int (by omega), sub1_int (by omega)]
      unfold vgo
      by_cases c : q.1 ≤ p ∧ p < q.1 + q.2.1
      · rw [if_pos (by omega), ix_nI (by omega) (by omega), ix_nI (by omega) (by omega), r3, r1, nI_add, nI_sub (by omega), List.find?_cons_of_pos (by simpa [vin] using c)]
        show some (nI (q.2.2 + p - q.1), s) = some (nI (q.2.2 + (p - q.1)), s)
        rw [show q.2.2 + p - q.1 = q.2.2 + (p - q.1) by omega]
      · rw [if_neg (by omega), nI_1, List.find?_cons_of_neg (by simpa [vin] using c)]
        exact ih (k + 1) fu e2 (by simp at hfu; omega) (by omega)
  exact loop pt 0 wt_N rfl (by unfold wt_N; omega) (by omega)
/-- parts that can be carried one after the other -/
def CP (pt : List vT) : Prop := (∀ q ∈ pt, q.1 + q.2.1 ≤ 2048 ∧ q.2.2 + q.2.1 ≤ 2048 ∧ (q.2.2 ≤ q.1 ∨ q.1 + q.2.1 ≤ q.2.2 ∨ q.2.2 + q.2.1 ≤ q.1)) ∧ pt.Pairwise (fun p q => (p.2.2 + p.2.1 ≤ q.1 ∨ q.1 + q.2.1 ≤ p.2.2) ∧ (p.2.2 + p.2.1 ≤ q.2.2 ∨ q.2.2 + q.2.1 ≤ p.2.2))
theorem q_carries_12 {K : wt_S → Int32 → Option (Unit × wt_S)} {k : Nat} {q : vT} (hk : k < 256) (hq : q.1 + q.2.1 ≤ 2048 ∧ q.2.2 + q.2.1 ≤ 2048 ∧ (q.2.2 ≤ q.1 ∨ q.1 + q.2.1 ≤ q.2.2 ∨ q.2.2 + q.2.1 ≤ q.1)) {w0 : Nat → Int32} : ∀ (m i fu : Nat) (s : wt_S), i + m = q.2.1 → m < fu → s 115 k = nI q.1 → s 116 k = nI q.2.1 → s 117 k = nI q.2.2 → (∀ j, j < i → s 111 (q.2.2 + j) = w0 (q.1 + j)) → (∀ x, (x < q.2.2 ∨ q.2.2 + i ≤ x) → s 111 x = w0 x) →
    ∃ w', gX11_carries_12 K fu s (nI k) (nI i) = K (wt_uf s 111 w') (nI (k + 1)) ∧ (∀ j, j < q.2.1 → w' (q.2.2 + j) = w0 (q.1 + j)) ∧ ∀ x, (x < q.2.2 ∨ q.2.2 + q.2.1 ≤ x) → w' x = w0 x := by
  intro m
  induction m with
  | zero =>
    intro i fu s hi hfu h1 h2 h3 h4 h5
    obtain ⟨fu, rfl⟩ : ∃ m, fu = m + 1 := ⟨fu - 1, by omega⟩
    obtain rfl : i = q.2.1 := by omega
    refine ⟨s 111, ?_, h4, h5⟩
    rw [gX11_carries_12, ix_nI (by omega) (by omega), h2, if_pos (Int.le_refl _), uf_self, nI_1]
  | succ m ih =>
    intro i fu s hi hfu h1 h2 h3 h4 h5
    obtain ⟨fu, rfl⟩ : ∃ m, fu = m + 1 := ⟨fu - 1, by omega⟩
    obtain ⟨w', a1, a2, a3⟩ := ih (i + 1) fu (wt_uf s 111 (mj_upd (s 111) (q.2.2 + i) (s 111 (q.1 + i)))) (by omega) (by omega) (by rw [wt_uf_ne (by omega)]; exact h1) (by rw [wt_uf_ne (by omega)]; exact h2) (by rw [wt_uf_ne (by omega)]; exact h3)
      (fun j hj => by
        rw [wt_uf_at]
        by_cases e : j = i
        · subst e
          rw [mj_upd_self]
          exact h5 _ (by omega)
        · rw [mj_upd_ne (by omega)]
          exact h4 j (by omega))
      (fun x hx => by
        rw [wt_uf_at, mj_upd_ne (by omega)]
        exact h5 x (by omega))
    refine ⟨w', ?_, a2, a3⟩
    rw [gX11_carries_12, ix_nI (by omega) (by omega), h2, nI_int (by omega), nI_int (by omega), if_neg (by omega), ix_nI (by omega) (by omega), ix_nI (by omega) (by omega), h1, nI_add, ix_nI (by omega) (by omega), h3, nI_add, ix_nI (by omega) (by omega), wr_eq, u_uf, nI_1, a1, uf_uf]
theorem q_carries {s : wt_S} {pt : List vT} (h : PT s pt) (hc : CP pt) : ∃ w', gX11_carries s = some ((), wt_uf s 111 w') ∧ (∀ q ∈ pt, ∀ j, j < q.2.1 → w' (q.2.2 + j) = s 111 (q.1 + j)) ∧ ∀ x, (∀ q ∈ pt, x < q.2.2 ∨ q.2.2 + q.2.1 ≤ x) → w' x = s 111 x := by
  have loop : ∀ (qs : List vT) (k fu : Nat) (w : Nat → Int32), pt.drop k = qs → qs.length < fu → k ≤ pt.length → (∀ q ∈ qs, ∀ j, j < q.2.1 → w (q.1 + j) = s 111 (q.1 + j)) →
      ∃ w', gX11_carries_2 fu (wt_uf s 111 w) (nI k) = some ((), wt_uf s 111 w') ∧ (∀ q ∈ qs, ∀ j, j < q.2.1 → w' (q.2.2 + j) = s 111 (q.1 + j)) ∧ ∀ x, (∀ q ∈ qs, x < q.2.2 ∨ q.2.2 + q.2.1 ≤ x) → w' x = w x := by
    intro qs
    induction qs with
    | nil =>
      intro k fu w hq hfu hk hs
      obtain ⟨fu, rfl⟩ : ∃ m, fu = m + 1 := ⟨fu - 1, by simp at hfu; omega⟩
      have hk2 : pt.length ≤ k := List.drop_eq_nil_iff.mp hq
      refine ⟨w, ?_, fun q hq => (by cases hq), fun _ _ => rfl⟩
      have hl := h.2.1
      rw [gX11_carries_2, wt_uf_ne (by omega), h.1, nI_int (by omega), nI_int (by omega), if_pos (by omega)]
    | cons q qs ih =>
      intro k fu w hq hfu hk hs
      obtain ⟨fu, rfl⟩ : ∃ m, fu = m + 1 := ⟨fu - 1, by simp at hfu; omega⟩
      obtain ⟨e1, e2, e3⟩ := drop_cons hq
      have hl := h.2.1
      obtain ⟨r1, r2, r3⟩ := h.2.2 k q e1
      have hb := hc.1 q (List.mem_of_getElem? e1)
      have hpw : (q :: qs).Pairwise (fun p q => (p.2.2 + p.2.1 ≤ q.1 ∨ q.1 + q.2.1 ≤ p.2.2) ∧ (p.2.2 + p.2.1 ≤ q.2.2 ∨ q.2.2 + q.2.1 ≤ p.2.2)) := hq ▸ hc.2.sublist (List.drop_sublist k pt)
      have hp1 := (List.pairwise_cons.mp hpw).1
      obtain ⟨w1, a1, a2, a3⟩ := q_carries_12 (K := gX11_carries_2 fu) (k := k) (by omega) hb (w0 := w) q.2.1 0 wt_N (wt_uf s 111 w) (by omega) (by unfold wt_N; omega) (by rw [wt_uf_ne (by omega)]; exact r1) (by rw [wt_uf_ne (by omega)]; exact r2) (by rw [wt_uf_ne (by omega)]; exact r3) (fun j hj => absurd hj (by omega)) (fun x _ => by rw [wt_uf_at])
      obtain ⟨w2, b1, b2, b3⟩ := ih (k + 1) fu w1 e2 (by simp at hfu; omega) (by omega) (fun p hp j hj => by
        have := (hp1 p hp).1
        rw [a3 _ (by omega)]
        exact hs p (List.mem_cons_of_mem _ hp) j hj)
      refine ⟨w2, ?_, fun p hp j hj => ?_, fun x hx => ?_⟩
      · rw [gX11_carries_2, wt_uf_ne (by omega), h.1, nI_int (by omega), nI_int (by omega), if_neg (by omega)]
        refine a1.trans ?_
        rw [uf_uf]
        exact b1
      · rcases List.mem_cons.mp hp with e | hp
        · subst e
          rw [b3 _ (fun p2 hp2 => by have := (hp1 p2 hp2).2; omega), a2 j hj]
          exact hs p (List.mem_cons_self ..) j hj
        · exact b2 p hp j hj
      · rw [b3 x (fun p hp => hx p (List.mem_cons_of_mem _ hp)), a3 x (hx q (List.mem_cons_self ..))]
  obtain ⟨w', a1, a2, a3⟩ := loop pt 0 wt_N (s 111) rfl (by have := h.2.1; unfold wt_N; omega) (by omega) (fun _ _ _ _ => rfl)
  rw [uf_self] at a1
  exact ⟨w', a1, a2, a3⟩
end
section
/-! ===== gaps, and pieces that come in ===== -/
theorem vgap_spec {lim words : Nat} : ∀ {ps : List vP} {a g : Nat}, vo lim ps → (∀ q ∈ ps, a ≤ q.1) → vgap lim a ps words = some g → a ≤ g ∧ g + words ≤ lim ∧ ∀ q ∈ ps, g + words ≤ q.1 ∨ q.1 + q.2.1 ≤ g := by
  intro ps
  induction ps with
  | nil =>
    intro a g ho ha h
    unfold vgap at h
    split at h
    · cases h
      exact ⟨Nat.le_refl _, by assumption, fun q hq => (by cases hq)⟩
    · cases h
  | cons q ps ih =>
    intro a g ho ha h
    have hq := ho.2 q (List.mem_cons_self ..)
    have hq1 := ha q (List.mem_cons_self ..)
    unfold vgap at h
    split at h
    · rename_i c
      cases h
      refine ⟨Nat.le_refl _, by omega, fun p hp => ?_⟩
      rcases List.mem_cons.mp hp with e | hp
      · subst e; exact Or.inl c
      · have := vo_head ho p hp
        exact Or.inl (by omega)
    · obtain ⟨h1, h2, h3⟩ := ih (vo_tail ho) (vo_head ho) h
      refine ⟨by omega, h2, fun p hp => ?_⟩
      rcases List.mem_cons.mp hp with e | hp
      · subst e; exact Or.inr h1
      · exact h3 p hp
theorem vgap0 {lim words g : Nat} {ps : List vP} (ho : vo lim ps) (h : vgap lim 0 ps words = some g) : g + words ≤ lim ∧ ∀ q ∈ ps, g + words ≤ q.1 ∨ q.1 + q.2.1 ≤ g := (vgap_spec ho (fun _ _ => Nat.zero_le _) h).2
theorem vins_mem {q p : vP} : ∀ {ps : List vP}, p ∈ vins q ps ↔ p = q ∨ p ∈ ps := by
  intro ps
  induction ps with
  | nil => simp [vins]
  | cons a ps ih =>
    unfold vins
    split
    · simp
    · rw [List.mem_cons, ih, List.mem_cons]
      constructor
      · rintro (h | h | h)
        · exact Or.inr (Or.inl h)
        · exact Or.inl h
        · exact Or.inr (Or.inr h)
      · rintro (h | h | h)
        · exact Or.inr (Or.inl h)
        · exact Or.inl h
        · exact Or.inr (Or.inr h)
theorem vins_len {q : vP} : ∀ {ps : List vP}, (vins q ps).length = ps.length + 1 := by
  intro ps
  induction ps with
  | nil => rfl
  | cons a ps ih =>
    unfold vins
    split
    · rfl
    · rw [List.length_cons, ih, List.length_cons]
theorem vins_pw {R : vP → vP → Prop} {q : vP} : ∀ {ps : List vP}, ps.Pairwise R → (∀ p ∈ ps, (q.1 < p.1 → R q p) ∧ (¬ q.1 < p.1 → R p q)) → (∀ p ∈ ps, ∀ p' ∈ ps, q.1 < p.1 → R p p' → R q p') → (vins q ps).Pairwise R := by
  intro ps
  induction ps with
  | nil => intro _ _ _; exact List.pairwise_singleton _ _
  | cons a ps ih =>
    intro h1 h2 h3
    obtain ⟨a1, a2⟩ := List.pairwise_cons.mp h1
    unfold vins
    split
    · rename_i c
      refine List.pairwise_cons.mpr ⟨fun p hp => ?_, h1⟩
      rcases List.mem_cons.mp hp with e | hp
      · subst e; exact (h2 p (List.mem_cons_self ..)).1 c
      · exact h3 a (List.mem_cons_self ..) p (List.mem_cons_of_mem _ hp) c (a1 p hp)
    · rename_i c
      refine List.pairwise_cons.mpr ⟨fun p hp => ?_, ih a2 (fun p hp => h2 p (List.mem_cons_of_mem _ hp)) (fun p hp p' hp' => h3 p (List.mem_cons_of_mem _ hp) p' (List.mem_cons_of_mem _ hp'))⟩
      rcases vins_mem.mp hp with e | hp
      · subst e; exact (h2 a (List.mem_cons_self ..)).2 c
      · exact a1 p hp
theorem vo_ins {lim : Nat} {ps : List vP} {q : vP} (ho : vo lim ps) (h1 : 1 ≤ q.2.1 ∧ q.1 + q.2.1 ≤ lim ∧ q.2.2.1 < 6 ∧ q.2.2.2 < 4294967296) (h2 : ∀ p ∈ ps, q.1 + q.2.1 ≤ p.1 ∨ p.1 + p.2.1 ≤ q.1) : vo lim (vins q ps) := by
  refine ⟨vins_pw ho.1 (fun p hp => ⟨fun c => ?_, fun c => ?_⟩) (fun p hp p' hp' c hr => ?_), fun p hp => ?_⟩
  · have := h2 p hp
    have := ho.2 p hp
    omega
  · have := h2 p hp
    have := ho.2 p hp
    omega
  · have := h2 p hp
    have := ho.2 p hp
    show q.1 + q.2.1 ≤ p'.1
    have hr : p.1 + p.2.1 ≤ p'.1 := hr
    omega
  · rcases vins_mem.mp hp with e | hp
    · subst e; exact h1
    · exact ho.2 p hp
theorem vkeys_pw {R : vP → vP → Prop} (hs : ∀ p q, R p q → R q p) {q : vP} : ∀ {ps : List vP}, ps.Pairwise R → (∀ p ∈ ps, R q p) → (vins q ps).Pairwise R := by
  intro ps
  induction ps with
  | nil => intro _ _; exact List.pairwise_singleton _ _
  | cons a ps ih =>
    intro h1 h2
    obtain ⟨a1, a2⟩ := List.pairwise_cons.mp h1
    unfold vins
    split
    · exact List.pairwise_cons.mpr ⟨h2, h1⟩
    · refine List.pairwise_cons.mpr ⟨fun p hp => ?_, ih a2 (fun p hp => h2 p (List.mem_cons_of_mem _ hp))⟩
      rcases vins_mem.mp hp with e | hp
      · subst e; exact hs _ _ (h2 a (List.mem_cons_self ..))
      · exact a1 p hp
theorem vfind_ins_ne {t n : Nat} {q : vP} (h : vkey t n q = false) : ∀ {ps : List vP}, (vins q ps).find? (vkey t n) = ps.find? (vkey t n) := by
  intro ps
  induction ps with
  | nil => simp [vins, List.find?, h]
  | cons a ps ih =>
    unfold vins
    split
    · rw [List.find?_cons_of_neg (by simp [h])]
    · by_cases c : vkey t n a = true
      · rw [List.find?_cons_of_pos c, List.find?_cons_of_pos c]
      · rw [List.find?_cons_of_neg c, List.find?_cons_of_neg c, ih]
theorem vfind_ins_eq {t n : Nat} {q : vP} (h : vkey t n q = true) : ∀ {ps : List vP}, (∀ p ∈ ps, vkey t n p = false) → (vins q ps).find? (vkey t n) = some q := by
  intro ps
  induction ps with
  | nil => intro _; simp [vins, List.find?, h]
  | cons a ps ih =>
    intro hn
    unfold vins
    split
    · rw [List.find?_cons_of_pos h]
    · rw [List.find?_cons_of_neg (by simp [hn a (List.mem_cons_self ..)]), ih (fun p hp => hn p (List.mem_cons_of_mem _ hp))]
/-- frames in one piece lie one behind the other -/
theorem Geo.one {w : Nat → Int32} {ps : List vP} {t n : Nat} {fr : Nat → vF} (h : Geo w ps t 1 n fr) : ∀ i, i < n → (fr i).2.2.1 = vus w fr i := by
  intro i
  induction i with
  | zero => intro _; exact h.2.1.1
  | succ i ih =>
    intro hi
    have h1 := (h.1 i (by omega)).1
    have h2 := (h.1 (i + 1) hi).1
    rcases h.2.2 i hi with ⟨e1, e2⟩ | ⟨e1, e2⟩
    · rw [e2, ih (by omega), vus]
    · omega
theorem vus_mono {w : Nat → Int32} {fr : Nat → vF} {a b : Nat} (h : a ≤ b) : vus w fr a ≤ vus w fr b := by
  induction h with
  | refl => exact Nat.le_refl _
  | step _ ih => exact Nat.le_trans ih (Nat.le_add_right _ _)
end
