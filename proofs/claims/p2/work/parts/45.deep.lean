/-! ===== how deep a function is: the reference ===== -/
theorem nI_or (a b : Nat) : nI a ||| nI b = nI (a ||| b) := by
  apply Int32.toBitVec_inj.mp
  show BitVec.ofNat 32 a ||| BitVec.ofNat 32 b = BitVec.ofNat 32 (a ||| b)
  rw [BitVec.ofNat_or]
theorem bt_all : ∀ a b : Fin 32, ∀ k : Fin 10, bt (nI (32 * a.val + b.val)) k.val ↔ (32 * a.val + b.val).testBit k.val = true := by decide +kernel
theorem bt_nI {S k : Nat} (h : S < 1024) (hk : k < 10) : bt (nI S) k ↔ S.testBit k = true := by
  have := bt_all ⟨S / 32, by omega⟩ ⟨S % 32, by omega⟩ ⟨k, hk⟩
  rw [show 32 * (S / 32) + S % 32 = S by omega] at this
  exact this
theorem sh_all : ∀ g : Fin 10, (1 : Int32) <<< (nI g.val &&& 31) = nI (2 ^ g.val) := by decide +kernel
/-- a function calls another one -/
def vE (w : Nat → Int32) (f g : Nat) : Prop := ∃ k, k < vli w f ∧ tld w (vcal w f k) ∧ (vcal w f k).toInt.toNat = g
def vPn (w : Nat → Int32) : Nat → Nat → Nat → Prop
  | 0, f, g => vE w f g
  | n + 1, f, g => ∃ h, vE w f h ∧ vPn w n h g
def vR (w : Nat → Int32) (f g : Nat) : Prop := ∃ n, vPn w n f g
def vcb (w : Nat → Int32) (f : Nat) : Nat → Nat
  | 0 => 0
  | k + 1 => if tld w (vcal w f k) then vcb w f k ||| 2 ^ (vcal w f k).toInt.toNat else vcb w f k
theorem vE_lt {w : Nat → Int32} {f g : Nat} (h : vE w f g) : g < 10 := by
  obtain ⟨k, -, h1, h2⟩ := h
  have := h1.1
  omega
theorem vcb_bit {w : Nat → Int32} {f g : Nat} : ∀ {n : Nat}, (vcb w f n).testBit g = true ↔ ∃ k, k < n ∧ tld w (vcal w f k) ∧ (vcal w f k).toInt.toNat = g := by
  intro n
  induction n with
  | zero => unfold vcb; simp
  | succ n ih =>
    unfold vcb
    by_cases c : tld w (vcal w f n)
    · rw [if_pos c, Nat.testBit_or, Bool.or_eq_true, ih, Nat.testBit_two_pow]
      constructor
      · rintro (⟨k, h1, h2, h3⟩ | h)
        · exact ⟨k, by omega, h2, h3⟩
        · exact ⟨n, by omega, c, by simpa using h⟩
      · rintro ⟨k, h1, h2, h3⟩
        by_cases e : k = n
        · subst e; exact Or.inr (by simpa using h3)
        · exact Or.inl ⟨k, by omega, h2, h3⟩
    · rw [if_neg c, ih]
      constructor
      · rintro ⟨k, h1, h2, h3⟩; exact ⟨k, by omega, h2, h3⟩
      · rintro ⟨k, h1, h2, h3⟩
        by_cases e : k = n
        · subst e; exact absurd h2 c
        · exact ⟨k, by omega, h2, h3⟩
theorem vcb_lt {w : Nat → Int32} {f : Nat} : ∀ {n : Nat}, vcb w f n < 1024 := by
  intro n
  induction n with
  | zero => unfold vcb; omega
  | succ n ih =>
    unfold vcb
    split
    · rename_i c
      have h2 : 2 ^ (vcal w f n).toInt.toNat < 2 ^ 10 := Nat.pow_lt_pow_right (by omega) (by have := c.1; omega)
      exact Nat.or_lt_two_pow (n := 10) ih h2
    · exact ih
section
variable {s : wt_S} {w : Nat → Int32}
theorem q_calledBy_loop {f : Nat} (hp : Ipr (s 111)) (hf : f < 10) : ∀ (m k fu : Nat), k + m = vli (s 111) f → m < fu → gX11_calledBy_4 fu s (nI f) (nI (vcb (s 111) f k)) (nI k) = some (nI (vcb (s 111) f (vli (s 111) f)), s) := by
  have hli := hp.li hf
  intro m
  induction m with
  | zero =>
    intro k fu hk hfu
    obtain ⟨fu, rfl⟩ : ∃ m, fu = m + 1 := ⟨fu - 1, by omega⟩
    obtain rfl : k = vli (s 111) f := by omega
    rw [gX11_calledBy_4, li_add, ix_nI (by omega) (by omega), hli.1, if_pos (Int.le_refl _)]
  | succ m ih =>
    intro k fu hk hfu
    obtain ⟨fu, rfl⟩ : ∃ m, fu = m + 1 := ⟨fu - 1, by omega⟩
    have next := ih (k + 1) fu (by omega) (by omega)
    have hst : ∀ z, z = vcal (s 111) f k → gX11_calledBy_75 (gX11_calledBy_4 fu) s (nI f) (nI (vcb (s 111) f k)) (nI k) z = some (nI (vcb (s 111) f (vli (s 111) f)), s) := by
      intro z hz
      unfold gX11_calledBy_75
      rw [q_isTold, cl_some, if_rb, nI_1]
      rw [vcb] at next
      by_cases c : tld (s 111) z
      · rw [if_pos c]
        rw [if_pos (hz ▸ c), ← hz] at next
        obtain ⟨g, hg, rfl⟩ := nI_ex c.1.1
        have hg10 := c.1.2
        rw [nI_int hg] at hg10 next
        rw [sh_all ⟨g, by omega⟩, nI_or]
        exact next
      · rw [if_neg c]
        rw [if_neg (hz ▸ c)] at next
        exact next
    rw [gX11_calledBy_4, li_add, ix_nI (by omega) (by omega), hli.1, nI_int (by omega), nI_int (by omega), if_neg (by omega), q_codeAt, cl_some, ix_nI (by omega) (by omega)]
    have hv : vcal (s 111) f k = if s 111 (2258 + 4 * (16 * f + k)) = 6 then s 111 (2258 + 4 * (16 * f + k) + 1) else if s 111 (2258 + 4 * (16 * f + k)) = 9 then s 111 (2258 + 4 * (16 * f + k) + 2) else -1 := rfl
    by_cases c6 : s 111 (2258 + 4 * (16 * f + k)) = 6
    · rw [if_pos c6] at hv
      rw [if_neg (by simp [c6]), li_add2, ix_nI (by omega) (by omega)]
      exact hst _ hv.symm
    · rw [if_neg c6] at hv
      rw [if_pos c6, ix_nI (by omega) (by omega)]
      by_cases c9 : s 111 (2258 + 4 * (16 * f + k)) = 9
      · rw [if_pos c9] at hv
        rw [if_neg (by simp [c9]), li_add2, ix_nI (by omega) (by omega)]
        exact hst _ hv.symm
      · rw [if_neg c9] at hv
        rw [if_pos c9]
        exact hst _ hv.symm
theorem q_calledBy {f : Nat} (hp : Ipr (s 111)) (hf : f < 10) : gX11_calledBy s (nI f) = some (nI (vcb (s 111) f (vli (s 111) f)), s) :=
  q_calledBy_loop hp hf (vli (s 111) f) 0 wt_N (by omega) (by have := (hp.li hf).2; unfold wt_N; omega)
def vC (w : Nat → Int32) (f : Nat) : Nat := vcb w f (vli w f)
theorem vC_bit {f g : Nat} : (vC w f).testBit g = true ↔ vE w f g := vcb_bit
/-- a set and all that its functions call -/
def vun (w : Nat → Int32) (S T : Nat) : Nat → Nat
  | 0 => T
  | g + 1 => if S.testBit g then vun w S T g ||| vC w g else vun w S T g
theorem vun_bit {S T h : Nat} : ∀ {n : Nat}, (vun w S T n).testBit h = true ↔ T.testBit h = true ∨ ∃ g, g < n ∧ S.testBit g = true ∧ vE w g h := by
  intro n
  induction n with
  | zero => unfold vun; simp
  | succ n ih =>
    unfold vun
    by_cases c : S.testBit n = true
    · rw [if_pos c, Nat.testBit_or, Bool.or_eq_true, ih, vC_bit]
      constructor
      · rintro ((h | ⟨g, h1, h2, h3⟩) | h)
        · exact Or.inl h
        · exact Or.inr ⟨g, by omega, h2, h3⟩
        · exact Or.inr ⟨n, by omega, c, h⟩
      · rintro (h | ⟨g, h1, h2, h3⟩)
        · exact Or.inl (Or.inl h)
        · by_cases e : g = n
          · subst e; exact Or.inr h3
          · exact Or.inl (Or.inr ⟨g, by omega, h2, h3⟩)
    · rw [if_neg c, ih]
      constructor
      · rintro (h | ⟨g, h1, h2, h3⟩)
        · exact Or.inl h
        · exact Or.inr ⟨g, by omega, h2, h3⟩
      · rintro (h | ⟨g, h1, h2, h3⟩)
        · exact Or.inl h
        · by_cases e : g = n
          · subst e; exact absurd h2 c
          · exact Or.inr ⟨g, by omega, h2, h3⟩
theorem vun_lt {S T : Nat} (hT : T < 1024) : ∀ {n : Nat}, vun w S T n < 1024 ∧ T ≤ vun w S T n := by
  intro n
  induction n with
  | zero => unfold vun; omega
  | succ n ih =>
    unfold vun
    split
    · exact ⟨Nat.or_lt_two_pow (n := 10) ih.1 vcb_lt, Nat.le_trans ih.2 Nat.left_le_or⟩
    · exact ih
theorem q_reachedBy_18 {K : wt_S → Int32 → Int32 → Option (Int32 × wt_S)} {S T : Nat} (hp : Ipr (s 111)) (hS : S < 1024) : ∀ (m g fu : Nat), g + m = 10 → m < fu → gX11_reachedBy_18 K fu s (nI (vun (s 111) S T g)) (nI S) (nI g) = K s (nI (vun (s 111) S T 10)) (nI S) := by
  intro m
  induction m with
  | zero =>
    intro g fu hg hfu
    obtain ⟨fu, rfl⟩ : ∃ m, fu = m + 1 := ⟨fu - 1, by omega⟩
    obtain rfl : g = 10 := by omega
    rw [gX11_reachedBy_18, if_pos (by decide)]
  | succ m ih =>
    intro g fu hg hfu
    obtain ⟨fu, rfl⟩ : ∃ m, fu = m + 1 := ⟨fu - 1, by omega⟩
    have next := ih (g + 1) fu (by omega) (by omega)
    rw [vun] at next
    rw [gX11_reachedBy_18, nI_int (by omega), if_neg (by show ¬ (10 : Int) ≤ g; omega), q_has, cl_some, if_rb, nI_1]
    by_cases c : S.testBit g = true
    · rw [if_pos ((bt_nI hS (by omega)).mpr c), q_calledBy hp (by omega), cl_some, nI_or]
      rw [if_pos c] at next
      exact next
    · rw [if_neg (fun q => c ((bt_nI hS (by omega)).mp q))]
      rw [if_neg c] at next
      exact next
theorem vR.step {f g h : Nat} (h1 : vR w f g) (h2 : vE w g h) : vR w f h := by
  obtain ⟨n, hn⟩ := h1
  have : ∀ n f, vPn w n f g → vPn w (n + 1) f h := by
    intro n
    induction n with
    | zero => intro f hf; exact ⟨g, hf, h2⟩
    | succ n ih =>
      intro f hf
      obtain ⟨x, x1, x2⟩ := hf
      exact ⟨x, x1, ih x x2⟩
  exact ⟨n + 1, this n f hn⟩
theorem vR.closed {f : Nat} {S : Nat} (h1 : ∀ g, vE w f g → S.testBit g = true) (h2 : ∀ g, S.testBit g = true → ∀ h, vE w g h → S.testBit h = true) {g : Nat} (h : vR w f g) : S.testBit g = true := by
  obtain ⟨n, hn⟩ := h
  have : ∀ n x, S.testBit x = true → vPn w n x g → S.testBit g = true := by
    intro n
    induction n with
    | zero => intro x hx hg; exact h2 x hx g hg
    | succ n ih =>
      intro x hx hg
      obtain ⟨y, y1, y2⟩ := hg
      exact ih y (h2 x hx y y1) y2
  cases n with
  | zero => exact h1 g hn
  | succ n =>
    obtain ⟨y, y1, y2⟩ := hn
    exact this n y (h1 y y1) y2
theorem vR_lt {f g : Nat} (h : vR w f g) : g < 10 := by
  obtain ⟨n, hn⟩ := h
  have : ∀ n f, vPn w n f g → g < 10 := by
    intro n
    induction n with
    | zero => intro f h; exact vE_lt h
    | succ n ih => intro f ⟨x, _, x2⟩; exact ih x x2
  exact this n f hn
theorem q_reachedBy_8 {f : Nat} (hp : Ipr (s 111)) : ∀ (m U T fu : Nat), 1024 - U ≤ m → m < fu → U < 1024 → T < 1024 → (U = 0 ∨ U ≤ T) → (∀ g, vE (s 111) f g → T.testBit g = true) → (∀ g, T.testBit g = true → vR (s 111) f g) → (∀ g, U.testBit g = true → ∀ h, vE (s 111) g h → T.testBit h = true) → (∀ g, U.testBit g = true → T.testBit g = true) → ∃ R, R < 1024 ∧ gX11_reachedBy_8 fu s (nI T) (nI U) = some (nI R, s) ∧ ∀ g, R.testBit g = true ↔ vR (s 111) f g := by
  intro m
  induction m with
  | zero => intro U T fu hm _ hU; omega
  | succ m ih =>
    intro U T fu hm hfu hU hT hle h1 h2 h3 h4
    obtain ⟨fu, rfl⟩ : ∃ m, fu = m + 1 := ⟨fu - 1, by omega⟩
    by_cases c : U = T
    · subst c
      refine ⟨U, hU, ?_, fun g => ⟨h2 g, fun h => vR.closed h1 h3 h⟩⟩
      rw [gX11_reachedBy_8, if_pos rfl]
    · have hlt := vun_lt (w := s 111) (S := T) (T := T) hT (n := 10)
      obtain ⟨R, r1, r2, r3⟩ := ih T (vun (s 111) T T 10) fu (by omega) (by omega) hT hlt.1 (Or.inr hlt.2) (fun g hg => vun_bit.mpr (Or.inl (h1 g hg))) (fun g hg => by
        rcases vun_bit.mp hg with h | ⟨x, x1, x2, x3⟩
        · exact h2 g h
        · exact (h2 x x2).step x3) (fun g hg x hx => vun_bit.mpr (Or.inr ⟨g, vR_lt (h2 g hg), hg, hx⟩)) (fun g hg => vun_bit.mpr (Or.inl hg))
      refine ⟨R, r1, ?_, r3⟩
      rw [gX11_reachedBy_8, if_neg (fun e => c ((nI_inj (by omega) (by omega)).mp e))]
      exact (q_reachedBy_18 (T := T) hp hT 10 0 wt_N (by omega) (by unfold wt_N; omega)).trans r2
theorem q_reachedBy {f : Nat} (hp : Ipr (s 111)) (hf : f < 10) : ∃ R, R < 1024 ∧ gX11_reachedBy s (nI f) = some (nI R, s) ∧ ∀ g, R.testBit g = true ↔ vR (s 111) f g := by
  obtain ⟨R, r1, r2, r3⟩ := q_reachedBy_8 (f := f) hp 1024 0 (vC (s 111) f) wt_N (by omega) (by unfold wt_N; omega) (by omega) vcb_lt (Or.inl rfl) (fun g hg => vC_bit.mpr hg) (fun g hg => ⟨0, vC_bit.mp hg⟩) (fun g hg => by simp at hg) (fun g hg => by simp at hg)
  refine ⟨R, r1, ?_, r3⟩
  unfold gX11_reachedBy
  rw [q_calledBy hp hf, cl_some]
  exact r2
/-- without an end -/
def vEnd (w : Nat → Int32) (f : Nat) : Prop := vR w f f ∨ ∃ g, vR w f g ∧ vR w g g
theorem q_isEndlessOne {f : Nat} (hp : Ipr (s 111)) (hf : f < 10) : (vEnd (s 111) f → gX11_isEndlessOne s (nI f) = some (1, s)) ∧ (¬ vEnd (s 111) f → gX11_isEndlessOne s (nI f) = some (0, s)) := by
  obtain ⟨R, r1, r2, r3⟩ := q_reachedBy hp hf
  have loop : ∀ (m g fu : Nat), g + m = 10 → m < fu → ((∃ h, g ≤ h ∧ h < 10 ∧ vR (s 111) f h ∧ vR (s 111) h h) → gX11_isEndlessOne_18 fu s (nI R) (nI g) = some (1, s)) ∧ ((¬ ∃ h, g ≤ h ∧ h < 10 ∧ vR (s 111) f h ∧ vR (s 111) h h) → gX11_isEndlessOne_18 fu s (nI R) (nI g) = some (0, s)) := by
    intro m
    induction m with
    | zero =>
      intro g fu hg hfu
      obtain ⟨fu, rfl⟩ : ∃ m, fu = m + 1 := ⟨fu - 1, by omega⟩
      obtain rfl : g = 10 := by omega
      rw [gX11_isEndlessOne_18, if_pos (by decide)]
      exact ⟨fun ⟨h, h1, h2, _⟩ => by omega, fun _ => rfl⟩
    | succ m ih =>
      intro g fu hg hfu
      obtain ⟨fu, rfl⟩ : ∃ m, fu = m + 1 := ⟨fu - 1, by omega⟩
      obtain ⟨i1, i2⟩ := ih (g + 1) fu (by omega) (by omega)
      rw [gX11_isEndlessOne_18, nI_int (by omega), if_neg (by show ¬ (10 : Int) ≤ g; omega), q_has, cl_some, if_rb, nI_1]
      by_cases c : vR (s 111) f g
      · obtain ⟨R2, a1, a2, a3⟩ := q_reachedBy (f := g) hp (by omega)
        rw [if_pos ((bt_nI r1 (by omega)).mpr ((r3 g).mpr c)), a2, cl_some, q_has, cl_some, if_rb]
        by_cases c2 : vR (s 111) g g
        · rw [if_pos ((bt_nI a1 (by omega)).mpr ((a3 g).mpr c2))]
          exact ⟨fun _ => rfl, fun h => absurd ⟨g, Nat.le_refl _, by omega, c, c2⟩ h⟩
        · rw [if_neg (fun q => c2 ((a3 g).mp ((bt_nI a1 (by omega)).mp q)))]
          refine ⟨fun ⟨h, h1, h2, h3, h4⟩ => i1 ⟨h, ?_, h2, h3, h4⟩, fun h => i2 (fun ⟨x, x1, x2⟩ => h ⟨x, by omega, x2⟩)⟩
          by_cases e : h = g
          · subst e; exact absurd h4 c2
          · omega
      · rw [if_neg (fun q => c ((r3 g).mp ((bt_nI r1 (by omega)).mp q)))]
        refine ⟨fun ⟨h, h1, h2, h3, h4⟩ => i1 ⟨h, ?_, h2, h3, h4⟩, fun h => i2 (fun ⟨x, x1, x2⟩ => h ⟨x, by omega, x2⟩)⟩
        by_cases e : h = g
        · subst e; exact absurd h3 c
        · omega
  obtain ⟨l1, l2⟩ := loop 10 0 wt_N (by omega) (by unfold wt_N; omega)
  have e0 : gX11_isEndlessOne s (nI f) = if bt (nI R) f then some (1, s) else gX11_isEndlessOne_18 wt_N s (nI R) (nI 0) := by
    unfold gX11_isEndlessOne
    rw [r2, cl_some, q_has, cl_some, if_rb]
    rfl
  have hb := bt_nI r1 hf
  rw [e0]
  by_cases c : vR (s 111) f f
  · rw [if_pos (hb.mpr ((r3 f).mpr c))]
    exact ⟨fun _ => rfl, fun h => absurd (Or.inl c) h⟩
  · rw [if_neg (fun q => c ((r3 f).mp (hb.mp q)))]
    refine ⟨fun h => l1 ?_, fun h => l2 (fun ⟨g, _, _, g1, g2⟩ => h (Or.inr ⟨g, g1, g2⟩))⟩
    rcases h with h | ⟨g, g1, g2⟩
    · exact absurd h c
    · exact ⟨g, Nat.zero_le _, vR_lt g1, g1, g2⟩
end
/-! ### depth -/
theorem vdl_spec {w : Nat → Int32} {D : Nat → Option Nat} {f : Nat} : ∀ {n : Nat}, (vdl w D f n = none ↔ ∃ k, k < n ∧ tld w (vcal w f k) ∧ D (vcal w f k).toInt.toNat = none) ∧ ∀ m, vdl w D f n = some m → (∀ k, k < n → tld w (vcal w f k) → ∃ d, D (vcal w f k).toInt.toNat = some d ∧ d ≤ m) ∧ (m = 0 ∨ ∃ k, k < n ∧ tld w (vcal w f k) ∧ D (vcal w f k).toInt.toNat = some m) := by
  intro n
  induction n with
  | zero =>
    rw [vdl]
    refine ⟨by simp, fun m hm => ?_⟩
    cases hm
    exact ⟨fun k hk => absurd hk (by omega), Or.inl rfl⟩
  | succ n ih =>
    rw [vdl_succ]
    cases e : vdl w D f n with
    | none =>
      obtain ⟨k, k1, k2, k3⟩ := ih.1.mp e
      refine ⟨⟨fun _ => ⟨k, by omega, k2, k3⟩, fun _ => rfl⟩, fun m hm => (by cases hm)⟩
    | some m0 =>
      obtain ⟨h1, h2⟩ := ih.2 m0 e
      rw [Option.bind_some]
      have h0 : ¬ ∃ k, k < n ∧ tld w (vcal w f k) ∧ D (vcal w f k).toInt.toNat = none := fun q => by rw [ih.1.mpr q] at e; cases e
      by_cases c : tld w (vcal w f n)
      · rw [if_pos c]
        cases e2 : D (vcal w f n).toInt.toNat with
        | none =>
          refine ⟨⟨fun _ => ⟨n, by omega, c, e2⟩, fun _ => rfl⟩, fun m hm => (by cases hm)⟩
        | some d =>
          refine ⟨⟨fun q => (by cases q), fun ⟨k, k1, k2, k3⟩ => ?_⟩, fun m hm => ?_⟩
          · by_cases ek : k = n
            · subst ek; rw [e2] at k3; cases k3
            · exact absurd ⟨k, by omega, k2, k3⟩ h0
          · have hm : max m0 d = m := Option.some.inj hm
            refine ⟨fun k hk ht => ?_, ?_⟩
            · by_cases ek : k = n
              · subst ek; exact ⟨d, e2, hm ▸ Nat.le_max_right m0 d⟩
              · obtain ⟨d', d1, d2⟩ := h1 k (by omega) ht
                exact ⟨d', d1, Nat.le_trans d2 (hm ▸ Nat.le_max_left m0 d)⟩
            · by_cases em : m0 ≤ d
              · exact Or.inr ⟨n, by omega, c, by rw [e2, ← hm, Nat.max_eq_right em]⟩
              · rw [Nat.max_eq_left (by omega)] at hm
                rcases h2 with h2 | ⟨k, k1, k2, k3⟩
                · exact Or.inl (hm ▸ h2)
                · exact Or.inr ⟨k, by omega, k2, by rw [k3, hm]⟩
      · rw [if_neg c]
        refine ⟨⟨fun q => (by cases q), fun ⟨k, k1, k2, k3⟩ => ?_⟩, fun m hm => ?_⟩
        · by_cases ek : k = n
          · subst ek; exact absurd k2 c
          · exact absurd ⟨k, by omega, k2, k3⟩ h0
        · have hm : m0 = m := Option.some.inj hm
          subst hm
          refine ⟨fun k hk ht => ?_, ?_⟩
          · by_cases ek : k = n
            · subst ek; exact absurd ht c
            · exact h1 k (by omega) ht
          · rcases h2 with h2 | ⟨k, k1, k2, k3⟩
            · exact Or.inl h2
            · exact Or.inr ⟨k, by omega, k2, k3⟩
section
variable {w : Nat → Int32}
theorem vdp_spec {m f : Nat} : (vdp w (m + 1) f = none ↔ ∃ g, vE w f g ∧ vdp w m g = none) ∧ ∀ d, vdp w (m + 1) f = some d → ∃ M, d = vwd w f + M ∧ (∀ g, vE w f g → ∃ d', vdp w m g = some d' ∧ d' ≤ M) ∧ (M = 0 ∨ ∃ g, vE w f g ∧ vdp w m g = some M) := by
  rw [vdp_succ]
  obtain ⟨h1, h2⟩ := vdl_spec (w := w) (D := vdp w m) (f := f) (n := vli w f)
  constructor
  · rw [Option.map_eq_none_iff, h1]
    constructor
    · rintro ⟨k, k1, k2, k3⟩; exact ⟨_, ⟨k, k1, k2, rfl⟩, k3⟩
    · rintro ⟨g, ⟨k, k1, k2, rfl⟩, k3⟩; exact ⟨k, k1, k2, k3⟩
  · intro d hd
    obtain ⟨M, m1, m2⟩ := Option.map_eq_some_iff.mp hd
    obtain ⟨a1, a2⟩ := h2 M m1
    refine ⟨M, m2.symm, ?_, ?_⟩
    · rintro g ⟨k, k1, k2, rfl⟩; exact a1 k k1 k2
    · rcases a2 with a2 | ⟨k, k1, k2, k3⟩
      · exact Or.inl a2
      · exact Or.inr ⟨_, ⟨k, k1, k2, rfl⟩, k3⟩
theorem vdp_mono : ∀ {m f d : Nat}, vdp w m f = some d → vdp w (m + 1) f = some d := by
  intro m
  induction m with
  | zero => intro f d h; rw [vdp] at h; cases h
  | succ m ih =>
    intro f d h
    obtain ⟨M, e, h1, h2⟩ := vdp_spec.2 d h
    cases hv : vdp w (m + 1 + 1) f with
    | none =>
      obtain ⟨g, g1, g2⟩ := vdp_spec.1.mp hv
      obtain ⟨d', d1, -⟩ := h1 g g1
      rw [ih d1] at g2
      cases g2
    | some d2 =>
      obtain ⟨M2, e2, h3, h4⟩ := vdp_spec.2 d2 hv
      have hM : M = M2 := by
        apply Nat.le_antisymm
        · rcases h2 with h2 | ⟨g, g1, g2⟩
          · omega
          · obtain ⟨d', d1, d3⟩ := h3 g g1
            rw [ih g2] at d1
            cases d1
            exact d3
        · rcases h4 with h4 | ⟨g, g1, g2⟩
          · omega
          · obtain ⟨d', d1, d3⟩ := h1 g g1
            rw [ih d1] at g2
            cases g2
            exact d3
      rw [e, e2, hM]
theorem vdp_path : ∀ {n m f g : Nat}, vPn w n f g → m ≤ n + 1 → vdp w m f = none := by
  intro n
  induction n with
  | zero =>
    intro m f g h hm
    cases m with
    | zero => rw [vdp]
    | succ m =>
      obtain rfl : m = 0 := by omega
      exact vdp_spec.1.mpr ⟨g, h, by rw [vdp]⟩
  | succ n ih =>
    intro m f g h hm
    obtain ⟨x, x1, x2⟩ := h
    cases m with
    | zero => rw [vdp]
    | succ m => exact vdp_spec.1.mpr ⟨x, x1, ih x2 (by omega)⟩
theorem vPn_app : ∀ {n m f g h : Nat}, vPn w n f g → vPn w m g h → vPn w (n + m + 1) f h := by
  intro n
  induction n with
  | zero => intro m f g h h1 h2; rw [Nat.zero_add]; exact ⟨g, h1, h2⟩
  | succ n ih =>
    intro m f g h h1 h2
    obtain ⟨x, x1, x2⟩ := h1
    rw [show n + 1 + m + 1 = (n + m + 1) + 1 by omega]
    exact ⟨x, x1, ih x2 h2⟩
theorem vEnd_none {f : Nat} (h : vEnd w f) (m : Nat) : vdp w m f = none := by
  have cyc : ∀ g, vR w g g → ∀ k, ∃ n, k ≤ n ∧ vPn w n g g := by
    intro g hg k
    induction k with
    | zero => obtain ⟨n, hn⟩ := hg; exact ⟨n, Nat.zero_le _, hn⟩
    | succ k ih =>
      obtain ⟨n, n1, n2⟩ := ih
      obtain ⟨n0, hn0⟩ := hg
      exact ⟨n + n0 + 1, by omega, vPn_app n2 hn0⟩
  rcases h with h | ⟨g, ⟨n0, g1⟩, g2⟩
  · obtain ⟨n, n1, n2⟩ := cyc f h m
    exact vdp_path n2 (by omega)
  · obtain ⟨n, n1, n2⟩ := cyc g g2 m
    exact vdp_path (vPn_app g1 n2) (by omega)
theorem nodup_lt : ∀ {n : Nat} {l : List Nat}, l.Nodup → (∀ x ∈ l, x < n) → l.length ≤ n := by
  intro n
  induction n with
  | zero =>
    intro l _ h
    cases l with
    | nil => simp
    | cons a l => exact absurd (h a (List.mem_cons_self ..)) (by omega)
  | succ n ih =>
    intro l hd h
    have h1 := ih (l := l.erase n) (hd.erase n) (fun x hx => by
      have := h x (List.mem_of_mem_erase hx)
      have hne : x ≠ n := fun e => by subst e; exact absurd hx (by rw [hd.mem_erase_iff]; simp)
      omega)
    by_cases c : n ∈ l
    · rw [List.length_erase_of_mem c] at h1
      omega
    · rw [List.erase_of_not_mem c] at h1
      omega
/-- a way of so many calls, as a list -/
theorem vdp_way : ∀ {m f : Nat}, vdp w m f = none → ∃ l : List Nat, l.length = m ∧ (∀ x ∈ l, x < 10 ∧ vR w f x) ∧ (l.Pairwise (fun x y => vR w x y)) := by
  intro m
  induction m with
  | zero => intro f _; exact ⟨[], rfl, fun x hx => (by cases hx), List.Pairwise.nil⟩
  | succ m ih =>
    intro f h
    obtain ⟨g, g1, g2⟩ := vdp_spec.1.mp h
    obtain ⟨l, l1, l2, l3⟩ := ih g2
    refine ⟨g :: l, by rw [List.length_cons, l1], fun x hx => ?_, List.pairwise_cons.mpr ⟨fun x hx => (l2 x hx).2, l3⟩⟩
    rcases List.mem_cons.mp hx with e | hx
    · subst e; exact ⟨vE_lt g1, 0, g1⟩
    · obtain ⟨n, hn⟩ := (l2 x hx).2
      exact ⟨(l2 x hx).1, n + 1, g, g1, hn⟩
theorem pw_dup {R : Nat → Nat → Prop} : ∀ {l : List Nat}, l.Pairwise R → ¬ l.Nodup → ∃ x ∈ l, R x x := by
  intro l
  induction l with
  | nil => intro _ h; exact absurd List.nodup_nil h
  | cons a l ih =>
    intro hp hd
    obtain ⟨h1, h2⟩ := List.pairwise_cons.mp hp
    by_cases c : a ∈ l
    · exact ⟨a, List.mem_cons_self .., h1 a c⟩
    · obtain ⟨x, x1, x2⟩ := ih h2 (fun q => hd (List.nodup_cons.mpr ⟨c, q⟩))
      exact ⟨x, List.mem_cons_of_mem _ x1, x2⟩
theorem vdp_end {f : Nat} (hf : f < 10) : vdp w 10 f = none ↔ vEnd w f := by
  constructor
  · intro h
    obtain ⟨l, l1, l2, l3⟩ := vdp_way h
    have hd : ¬ (f :: l).Nodup := fun q => by
      have := nodup_lt (n := 10) q (fun x hx => by
        rcases List.mem_cons.mp hx with e | hx
        · omega
        · exact (l2 x hx).1)
      rw [List.length_cons, l1] at this
      omega
    obtain ⟨x, x1, x2⟩ := pw_dup (List.pairwise_cons.mpr ⟨fun x hx => (l2 x hx).2, l3⟩) hd
    rcases List.mem_cons.mp x1 with e | hx
    · subst e; exact Or.inl x2
    · exact Or.inr ⟨x, (l2 x hx).2, x2⟩
  · intro h; exact vEnd_none h 10
end
