/-! ===== what always holds ===== -/
def vwd (w : Nat → Int32) (f : Nat) : Nat := vsz w f + 2
def vli (w : Nat → Int32) (f : Nat) : Nat := (w (2248 + f)).toInt.toNat
def vco (f k : Nat) : Nat := 2258 + 4 * (16 * f + k)
/-- words of the first frames -/
def vus (w : Nat → Int32) (fr : Nat → vF) : Nat → Nat
  | 0 => 0
  | n + 1 => vus w fr n + vwd w (fr n).1
/-- those of them in one piece -/
def vud (w : Nat → Int32) (fr : Nat → vF) (k : Nat) : Nat → Nat
  | 0 => 0
  | n + 1 => vud w fr k n + if (fr n).2.1 = k then vwd w (fr n).1 else 0
/-- words on a side for a frame that was called back -/
def vfo (w : Nat → Int32) (F : vF) : Nat := if 2048 ≤ F.2.2.2.1 then (w (vco (F.2.2.2.1 % 1024 / 32) (F.2.2.2.1 % 32 - 1) + 1)).toInt.toNat else 0
def vos (w : Nat → Int32) (fr : Nat → vF) : Nat → Nat
  | 0 => 0
  | n + 1 => vos w fr n + vfo w (fr n)
def vslt (w : Nat → Int32) (f : Nat) (x : Int32) : Prop := ∃ k, x = nI k ∧ k < vsz w f
def vnum (w : Nat → Int32) (f : Nat) (x : Int32) : Prop := ∃ k, x = nI k ∧ k < vsz w f ∧ ¬ bt (w (2238 + f)) k
def vptr (w : Nat → Int32) (f : Nat) (x : Int32) : Prop := ∃ k, x = nI k ∧ k < vsz w f ∧ bt (w (2238 + f)) k
def vfun (x : Int32) : Prop := ∃ f, x = nI f ∧ f < 10
/-- a line that can be -/
def vcan (w : Nat → Int32) (f : Nat) (kind a b c : Int32) : Prop :=
  (0 ≤ kind.toInt ∧ kind.toInt ≤ 10) ∧ (kind = 0 → vnum w f a) ∧ (kind = 1 ∨ kind = 2 → vnum w f a ∧ vnum w f b ∧ vnum w f c) ∧ (kind = 3 → vptr w f a ∧ vnum w f b) ∧ (kind = 4 → vnum w f a ∧ vptr w f b) ∧ (kind = 5 → vptr w f a ∧ vnum w f b) ∧
  (kind = 6 → vfun a ∧ vslt w f b ∧ vnum w f c) ∧ (kind = 7 → vnum w f a ∧ ∃ l, b = nI l ∧ l ≤ 15) ∧ (kind = 8 → vnum w f a) ∧ (kind = 9 → (∃ n, a = nI n ∧ 1 ≤ n ∧ n ≤ 40) ∧ (b = -1 ∨ vfun b) ∧ vnum w f c)
def vlin (w : Nat → Int32) (f k : Nat) : Prop := vcan w f (w (vco f k)) (w (vco f k + 1)) (w (vco f k + 2)) (w (vco f k + 3))
/-- the program -/
def Ipr (w : Nat → Int32) : Prop := ∀ f, f < 10 → (∃ z, z ≤ 8 ∧ w (2228 + f) = nI z) ∧ (∃ l, l ≤ 16 ∧ w (2248 + f) = nI l) ∧ ∀ k, k < vli w f → vlin w f k
/-- what is set -/
def Ise (lim : Nat) (w : Nat → Int32) : Prop := (∃ z, w 2048 = nI z ∧ 8 ≤ z ∧ z ≤ lim ∧ lim ≤ 256 * z) ∧ (w 2049 = 0 ∨ w 2049 = 1) ∧ (w 2050 = 0 ∨ w 2050 = 1) ∧ (∃ z, w 2051 = nI z ∧ 10 ≤ z ∧ z ≤ 80) ∧ (∃ z, w 2052 = nI z ∧ 1 ≤ z ∧ z ≤ 3) ∧ (∃ z, w 2053 = nI z ∧ z ≤ 1000000)
/-- pieces -/
def Ipc (lim : Nat) (w : Nat → Int32) (ps : List vP) : Prop := vo lim ps ∧ ps.Pairwise (fun p q => ¬ (p.2.2.1 = q.2.2.1 ∧ p.2.2.2 = q.2.2.2)) ∧ ∀ q ∈ ps, (w 2048).toInt.toNat ≤ q.2.1
/-- how the frames of a task lie -/
def Geo (w : Nat → Int32) (ps : List vP) (t np n : Nat) (fr : Nat → vF) : Prop :=
  (∀ i, i < n → (fr i).2.1 < np ∧ (fr i).2.2.1 + vwd w (fr i).1 ≤ vln ps t (fr i).2.1) ∧ ((fr 0).2.2.1 = 0 ∧ (fr 0).2.1 ≤ 1) ∧
  (∀ i, i + 1 < n → ((fr (i + 1)).2.1 = (fr i).2.1 ∧ (fr (i + 1)).2.2.1 = (fr i).2.2.1 + vwd w (fr i).1) ∨ ((fr (i + 1)).2.1 = (fr i).2.1 + 1 ∧ (fr (i + 1)).2.2.1 = 0))
def vcv (F : vF) : Prop := F.2.2.2.1 / 1024 % 2 = 1
/-- how deep a function is: none, if without an end -/
def vcal (w : Nat → Int32) (f k : Nat) : Int32 := if w (vco f k) = 6 then w (vco f k + 1) else if w (vco f k) = 9 then w (vco f k + 2) else -1
def vdl (w : Nat → Int32) (D : Nat → Option Nat) (f : Nat) : Nat → Option Nat
  | 0 => some 0
  | k + 1 => match vdl w D f k with
    | none => none
    | some m => if tld w (vcal w f k) then (match D (vcal w f k).toInt.toNat with
      | none => none
      | some d => some (max m d)) else some m
def vdp (w : Nat → Int32) : Nat → Nat → Option Nat
  | 0, _ => none
  | m + 1, f => match vdl w (vdp w m) f (vli w f) with
    | none => none
    | some d => some (vwd w f + d)
/-- BACK of a frame, by the one below it -/
def vbk (w : Nat → Int32) (F G : vF) : Prop := F.2.2.2.1 < 4096 ∧ F.2.2.2.1 % 1024 / 32 = G.1 ∧ 1 ≤ F.2.2.2.1 % 32 ∧ F.2.2.2.1 % 32 - 1 < vli w G.1 ∧
  ((F.2.2.2.1 < 2048 ∧ w (vco G.1 (F.2.2.2.1 % 32 - 1)) = 6 ∧ w (vco G.1 (F.2.2.2.1 % 32 - 1) + 1) = nI F.1) ∨ (2048 ≤ F.2.2.2.1 ∧ w (vco G.1 (F.2.2.2.1 % 32 - 1)) = 9 ∧ w (vco G.1 (F.2.2.2.1 % 32 - 1) + 2) = nI F.1))
/-- the frames of a task -/
def Ifr (w : Nat → Int32) (ps : List vP) (t n : Nat) (fr : Nat → vF) : Prop :=
  (∀ i, i < n → (fr i).1 < 10 ∧ 1 ≤ vsz w (fr i).1) ∧ ((fr 0).2.2.2.1 = 0 ∨ (fr 0).2.2.2.1 = 1024) ∧ (∀ i, i + 1 < n → vbk w (fr (i + 1)) (fr i)) ∧
  (∀ i, i + 1 < n → vcv (fr i) → vcv (fr (i + 1))) ∧ (∀ i, i < n → vcv (fr i) → ∃ d, vdp w 10 (fr i).1 = some d ∧ d ≤ (w 2051).toInt.toNat ∧ (fr i).2.2.1 + d ≤ vln ps t (fr i).2.1) ∧
  (∀ i, i < n → ∀ k, k < vsz w (fr i).1 → bt (w (2238 + (fr i).1)) k → ∀ q, (fr i).2.2.2.2.2 k = some q → q.1 ≤ i ∧ q.2 < vsz w (fr q.1).1 ∧ ¬ bt (w (2238 + (fr q.1).1)) q.2)
/-- the pieces of a task -/
def Itp (ps : List vP) (t np : Nat) : Prop := (∀ k, k < np → ∃ q ∈ ps, q.2.2.1 = t ∧ q.2.2.2 = k) ∧ ∀ q ∈ ps, q.2.2.1 = t → q.2.2.2 < np ∨ q.2.2.2 = 1000
def vbz (w : Nat → Int32) (t : Nat) : Prop := w (3926 + t) = 1 ∨ w (3926 + t) = 2
/-- a task that is going or waiting -/
def Ibz (lim : Nat) (V : vV) (t : Nat) : Prop := ∃ n np, V.2.2.1 t = n + 1 ∧ V.1 (3954 + t) = nI (n + 1) ∧ V.1 (4066 + t) = nI np ∧ (1 ≤ np ∧ np ≤ 256) ∧ Itp V.2.1 t np ∧
  ((V.1 (3933 + t) = 0 ∧ np = 1 ∧ ∀ q ∈ V.2.1, ¬ (q.2.2.1 = t ∧ q.2.2.2 = 1000)) ∨ V.1 (3933 + t) = 1) ∧ Geo V.1 V.2.1 t np (n + 1) (V.2.2.2 t) ∧ (V.2.2.2 t n).2.1 = np - 1 ∧ Ifr V.1 V.2.1 t (n + 1) (V.2.2.2 t) ∧
  V.1 (3961 + t) = nI (vus V.1 (V.2.2.2 t) (n + 1)) ∧ V.1 (3982 + t) = nI (vpl V t n) ∧ V.1 (3975 + t) = nI (V.2.2.2 t n).1 ∧ (∃ l, l ≤ 16 ∧ V.1 (3968 + t) = nI l) ∧
  V.1 (3996 + t) = nI (vos V.1 (V.2.2.2 t) (n + 1)) ∧ vos V.1 (V.2.2.2 t) (n + 1) ≤ 1000000 ∧ ((V.1 (3989 + t) = -1 ∧ vos V.1 (V.2.2.2 t) (n + 1) = 0) ∨ ∃ k, k < 3 ∧ V.1 (3989 + t) = nI k ∧ V.1 (3923 + k) = nI t ∧ 1 ≤ vos V.1 (V.2.2.2 t) (n + 1)) ∧ tld V.1 (V.1 (4052 + t))
/-- one that is not -/
def Iid (V : vV) (t : Nat) : Prop := V.2.2.1 t = 0 ∧ V.1 (3954 + t) = 0 ∧ V.1 (4066 + t) = 0 ∧ V.1 (3961 + t) = 0 ∧ V.1 (3975 + t) = -1 ∧ V.1 (3989 + t) = -1 ∧ V.1 (3996 + t) = 0 ∧ (V.1 (3926 + t) = 0 ∨ V.1 (3926 + t) = 3 ∨ V.1 (3926 + t) = 4) ∧ ∀ q ∈ V.2.1, q.2.2.1 ≠ t
def Isd (w : Nat → Int32) : Prop := ∀ k, k < 3 → w (3923 + k) = -1 ∨ ∃ t, t < 6 ∧ w (3923 + k) = nI t ∧ w (3989 + t) = nI k
def VI (lim B : Nat) (V : vV) : Prop := Ise lim V.1 ∧ Ipr V.1 ∧ Ipc lim V.1 V.2.1 ∧ Isd V.1 ∧ (∃ k, k ≤ B ∧ V.1 2067 = nI k) ∧ ∀ t, t < 6 → (vbz V.1 t ∧ Ibz lim V t) ∨ Iid V t
/-! ### what follows at once -/
theorem vget {ps : List vP} {t k : Nat} (h : ∃ q ∈ ps, q.2.2.1 = t ∧ q.2.2.2 = k) : ∃ q ∈ ps, q.2.2.1 = t ∧ q.2.2.2 = k ∧ vat ps t k = q.1 ∧ vln ps t k = q.2.1 ∧ ps.find? (vkey t k) = some q := by
  have : (ps.find? (vkey t k)).isSome := by
    rw [List.find?_isSome]
    obtain ⟨q, h1, h2, h3⟩ := h
    exact ⟨q, h1, by simp [vkey, h2, h3]⟩
  obtain ⟨q, hq⟩ := Option.isSome_iff_exists.mp this
  have h1 := List.mem_of_find?_eq_some hq
  have h2 := List.find?_some hq
  have h2 : q.2.2.1 = t ∧ q.2.2.2 = k := by simpa [vkey] using h2
  refine ⟨q, h1, h2.1, h2.2, ?_, ?_, hq⟩
  · unfold vat; rw [hq]
  · unfold vln; rw [hq]
theorem vuniq {ps : List vP} (h : ps.Pairwise (fun p q => ¬ (p.2.2.1 = q.2.2.1 ∧ p.2.2.2 = q.2.2.2))) : ∀ p ∈ ps, ∀ q ∈ ps, p.2.2.1 = q.2.2.1 → p.2.2.2 = q.2.2.2 → p = q := by
  induction ps with
  | nil => intro p hp; cases hp
  | cons a ps ih =>
    obtain ⟨h1, h2⟩ := List.pairwise_cons.mp h
    intro p hp q hq e1 e2
    rcases List.mem_cons.mp hp with r1 | hp1 <;> rcases List.mem_cons.mp hq with r2 | hq1
    · rw [r1, r2]
    · rw [r1] at e1 e2; exact absurd ⟨e1, e2⟩ (h1 q hq1)
    · rw [r2] at e1 e2; exact absurd ⟨e1.symm, e2.symm⟩ (h1 p hp1)
    · exact ih h2 p hp1 q hq1 e1 e2
theorem vdisj {lim : Nat} {ps : List vP} (h : vo lim ps) : ∀ p ∈ ps, ∀ q ∈ ps, p ≠ q → p.1 + p.2.1 ≤ q.1 ∨ q.1 + q.2.1 ≤ p.1 := by
  induction ps with
  | nil => intro p hp; cases hp
  | cons a ps ih =>
    intro p hp q hq hn
    rcases List.mem_cons.mp hp with r1 | hp1 <;> rcases List.mem_cons.mp hq with r2 | hq1
    · exact absurd (r1.trans r2.symm) hn
    · rw [r1]; exact Or.inl (vo_head h q hq1)
    · rw [r2]; exact Or.inr (vo_head h p hp1)
    · exact ih (vo_tail h) p hp1 q hq1 hn
theorem Geo.lt {w : Nat → Int32} {ps : List vP} {t np n : Nat} {fr : Nat → vF} (h : Geo w ps t np n fr) {i j : Nat} (hij : i < j) (hj : j < n) : (fr i).2.1 < (fr j).2.1 ∨ ((fr i).2.1 = (fr j).2.1 ∧ (fr i).2.2.1 + vwd w (fr i).1 ≤ (fr j).2.2.1) := by
  induction j with
  | zero => omega
  | succ j ih =>
    have hs := h.2.2 j hj
    by_cases e : i = j
    · subst e
      rcases hs with ⟨h1, h2⟩ | ⟨h1, h2⟩
      · exact Or.inr ⟨h1.symm, by omega⟩
      · exact Or.inl (by omega)
    · rcases ih (by omega) (by omega) with h3 | ⟨h3, h4⟩
      · exact Or.inl (by omega)
      · rcases hs with ⟨h1, h2⟩ | ⟨h1, h2⟩
        · exact Or.inr ⟨by omega, by omega⟩
        · exact Or.inl (by omega)
/-- a frame lies in a piece of its task -/
theorem Geo.pc {w : Nat → Int32} {ps : List vP} {t np n : Nat} {fr : Nat → vF} (h : Geo w ps t np n fr) (hp : Itp ps t np) {i : Nat} (hi : i < n) : ∃ q ∈ ps, q.2.2.1 = t ∧ q.2.2.2 = (fr i).2.1 ∧ vat ps t (fr i).2.1 = q.1 ∧ q.1 + (fr i).2.2.1 + vwd w (fr i).1 ≤ q.1 + q.2.1 := by
  obtain ⟨h1, h2⟩ := h.1 i hi
  obtain ⟨q, q1, q2, q3, q4, q5, -⟩ := vget (hp.1 _ h1)
  exact ⟨q, q1, q2, q3, q4, by omega⟩
/-- frames have no word in common -/
theorem Geo.dj {w : Nat → Int32} {lim : Nat} {ps : List vP} {t t' np np' n n' : Nat} {fr fr' : Nat → vF} (ho : vo lim ps) (hu : ps.Pairwise (fun p q => ¬ (p.2.2.1 = q.2.2.1 ∧ p.2.2.2 = q.2.2.2))) (h : Geo w ps t np n fr) (hp : Itp ps t np) (h' : Geo w ps t' np' n' fr') (hp' : Itp ps t' np') (he : t = t' → fr = fr' ∧ n = n') {i j : Nat} (hi : i < n) (hj : j < n') (hne : ¬ (t = t' ∧ i = j)) :
    vat ps t (fr i).2.1 + (fr i).2.2.1 + vwd w (fr i).1 ≤ vat ps t' (fr' j).2.1 + (fr' j).2.2.1 ∨ vat ps t' (fr' j).2.1 + (fr' j).2.2.1 + vwd w (fr' j).1 ≤ vat ps t (fr i).2.1 + (fr i).2.2.1 := by
  obtain ⟨p, p1, p2, p3, p4, p5⟩ := h.pc hp hi
  obtain ⟨q, q1, q2, q3, q4, q5⟩ := h'.pc hp' hj
  by_cases e : p = q
  · subst e
    have et : t = t' := p2.symm.trans q2
    have ef := he et
    subst et
    obtain ⟨ef, en⟩ := ef
    subst ef
    subst en
    have hij : i ≠ j := fun e => hne ⟨rfl, e⟩
    rcases Nat.lt_or_gt_of_ne hij with hlt | hgt
    · rcases h.lt hlt hj with h6 | ⟨h6, h7⟩
      · omega
      · left; omega
    · rcases h.lt hgt hi with h6 | ⟨h6, h7⟩
      · omega
      · right; omega
  · rcases vdisj ho p p1 q q1 e with h6 | h6
    · left; omega
    · right; omega
