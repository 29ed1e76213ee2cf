/-! ===== the first state is good; the claim ===== -/
theorem iz0 : iz 2147483648 = 0 := by decide
theorem izm : iz 2147483647 = -1 := by decide
section
variable {s : wt_S}
theorem S0.c (h : S0 s) (a i n v : Nat) (hm : (a, i, n, v) ∈ sr_c) {k : Nat} (hk : k < n) : s a (i + k) = iz v := h.1 _ hm k hk
theorem S0.c1 (h : S0 s) (a i v : Nat) (hm : (a, i, 1, v) ∈ sr_c) : s a i = iz v := h.c a i 1 v hm (Nat.lt_succ_self 0)
theorem S0.z (h : S0 s) (a i n : Nat) (hm : (a, i, n, 2147483648) ∈ sr_c) {j : Nat} (h1 : i ≤ j) (h2 : j < i + n) : s a j = 0 := by
  have := h.c a i n _ hm (k := j - i) (by omega)
  rw [show i + (j - i) = j by omega, iz0] at this
  exact this
theorem S0.m (h : S0 s) (a i n : Nat) (hm : (a, i, n, 2147483647) ∈ sr_c) {j : Nat} (h1 : i ≤ j) (h2 : j < i + n) : s a j = -1 := by
  have := h.c a i n _ hm (k := j - i) (by omega)
  rw [show i + (j - i) = j by omega, izm] at this
  exact this
theorem S0_ci (h : S0 s) : CI 0 s s := by
  have hb : ∀ b ∈ [11, 40, 81], (b + 2, 7, 1, 2147483648) ∈ sr_c ∧ (b + 1, 4, 1, 2147483649) ∈ sr_c ∧ ∀ k ∈ List.range 6, (b + 17 + 2 * k, 4, 1, 2147483648) ∈ sr_c := by decide
  have hq : ∀ q ∈ [5, 76], (q + 3, 0, 10, 2147483648) ∈ sr_c ∧ (q + 1, 0, 10, 2147483648) ∈ sr_c := by decide
  refine ⟨fun b hb' => ?_, fun q hq' f hf => ?_, ?_, ?_, ?_, ?_, fun c hc => rfl⟩
  · have hm : b ∈ [11, 40, 81] := by rcases hb' with rfl | rfl | rfl <;> decide
    obtain ⟨h1, h2, h3⟩ := hb b hm
    refine ⟨?_, ?_, fun k hk => ?_⟩
    · rw [h.c1 _ _ _ h1]; decide
    · rw [h.c1 _ _ _ h2]; decide
    · rw [h.c1 _ _ _ (h3 k (List.mem_range.mpr hk))]; decide
  · have hm : q ∈ [5, 76] := by rcases hq' with rfl | rfl <;> decide
    obtain ⟨h1, h2⟩ := hq q hm
    rw [h.z _ _ _ h1 (Nat.zero_le f) (by omega), h.z _ _ _ h2 (Nat.zero_le f) (by omega)]
    decide
  · rw [h.c1 1 0 2147483656 (by decide)]; decide
  · rw [h.c1 2 0 2147483712 (by decide)]; decide
  · rw [h.c1 2 4 2147483651 (by decide)]; decide
  · rw [h.c1 3 4 2147483649 (by decide)]; decide
/-- the first picture -/
def v0 (s : wt_S) : vV := (s 111, [], fun _ => 0, fun _ _ => (0, 0, 0, 0, fun _ => 0, fun _ => none))
theorem S0_rs (h : S0 s) : RS s (v0 s) := by
  refine ⟨?_, fun i _ => rfl, ⟨?_, by simp [v0], fun x q hx => by simp [v0] at hx⟩, s 111, fun p _ => rfl, fun t _ i hi => ?_⟩
  · rw [h.c1 110 5 2147483648 (by decide)]; exact iz0
  · show s 111 2898 = nI 0
    rw [h.c1 111 2898 2147483648 (by decide), iz0]; rfl
  · exact absurd hi (Nat.not_lt_zero i)
theorem S0_vi (h : S0 s) : VI 2048 0 (v0 s) := by
  have z1 : ∀ j, 2228 ≤ j → j < 2258 → s 111 j = 0 := fun j a b => h.z 111 2228 30 (by decide) a (by omega)
  have z2 : ∀ j, 3926 ≤ j → j < 3975 → s 111 j = 0 := fun j a b => h.z 111 3926 49 (by decide) a (by omega)
  have z3 : ∀ j, 3996 ≤ j → j < 4073 → s 111 j = 0 := fun j a b => h.z 111 3996 77 (by decide) a (by omega)
  have m1 : ∀ j, 3975 ≤ j → j < 3982 → s 111 j = -1 := fun j a b => h.m 111 3975 7 (by decide) a (by omega)
  have m2 : ∀ j, 3989 ≤ j → j < 3996 → s 111 j = -1 := fun j a b => h.m 111 3989 7 (by decide) a (by omega)
  have m3 : ∀ j, 3923 ≤ j → j < 3926 → s 111 j = -1 := fun j a b => h.m 111 3923 3 (by decide) a (by omega)
  have n0 : (0 : Int32) = nI 0 := by decide
  refine ⟨⟨⟨16, ?_, by omega, by omega, by omega⟩, Or.inr ?_, Or.inr ?_, ⟨40, ?_, by omega, by omega⟩, ⟨1, ?_, by omega, by omega⟩, ⟨60, ?_, by omega⟩⟩, fun f hf => ⟨⟨0, by omega, ?_⟩, ⟨0, by omega, ?_⟩, fun k hk => ?_⟩, ⟨⟨List.Pairwise.nil, fun q hq => by cases hq⟩, List.Pairwise.nil, fun q hq => by cases hq⟩, fun k hk => Or.inl (m3 _ (by omega) (by omega)), ⟨0, Nat.le_refl 0, ?_⟩, fun t ht => Or.inr ⟨rfl, z2 _ (by omega) (by omega), z3 _ (by omega) (by omega), z2 _ (by omega) (by omega), m1 _ (by omega) (by omega), m2 _ (by omega) (by omega), z3 _ (by omega) (by omega), Or.inl (z2 _ (by omega) (by omega)), fun q hq => by cases hq⟩⟩
  · show s 111 2048 = nI 16
    rw [h.c1 111 2048 _ (by decide : (111, 2048, 1, 16 + 2147483648) ∈ sr_c), iz_nI]
  · show s 111 2049 = 1
    rw [h.c1 111 2049 2147483649 (by decide)]; decide
  · show s 111 2050 = 1
    rw [h.c1 111 2050 2147483649 (by decide)]; decide
  · show s 111 2051 = nI 40
    rw [h.c1 111 2051 _ (by decide : (111, 2051, 1, 40 + 2147483648) ∈ sr_c), iz_nI]
  · show s 111 2052 = nI 1
    rw [h.c1 111 2052 _ (by decide : (111, 2052, 1, 1 + 2147483648) ∈ sr_c), iz_nI]
  · show s 111 2053 = nI 60
    rw [h.c1 111 2053 _ (by decide : (111, 2053, 1, 60 + 2147483648) ∈ sr_c), iz_nI]
  · exact (z1 _ (by omega) (by omega)).trans n0
  · exact (z1 _ (by omega) (by omega)).trans n0
  · exfalso
    have hk : k < (s 111 (2248 + f)).toInt.toNat := hk
    rw [z1 _ (by omega) (by omega)] at hk
    exact absurd hk (by simp)
  · show s 111 2067 = nI 0
    rw [h.z 111 2054 14 (by decide) (by omega) (by omega)]; exact n0
theorem S0_rc (h : S0 s) : RC 11 2048 s (v0 s) [] (List.range 256) := by
  have w0 : ∀ j, 3926 ≤ j → j < 3975 → s 111 j = 0 := fun j a b => h.z 111 3926 49 (by decide) a (by omega)
  have w1 : ∀ j, 3975 ≤ j → j < 3982 → s 111 j = -1 := fun j a b => h.m 111 3975 7 (by decide) a (by omega)
  have w3 : ∀ j, 3989 ≤ j → j < 3996 → s 111 j = -1 := fun j a b => h.m 111 3989 7 (by decide) a (by omega)
  have w4 : ∀ j, 3996 ≤ j → j < 4073 → s 111 j = 0 := fun j a b => h.z 111 3996 77 (by decide) a (by omega)
  have p0 : ∀ j, 2228 ≤ j → j < 2258 → s 111 j = 0 := fun j a b => h.z 111 2228 30 (by decide) a (by omega)
  have h0 : ∀ k ∈ List.range 6, (11 + 17 + 2 * k, 0, 1, k + 2147483648) ∈ sr_c := by decide
  have hz : ∀ k ∈ List.range 6, ∀ j ∈ [1, 2, 3, 4, 5, 6, 8, 16], (11 + 17 + 2 * k, j, 1, 2147483648) ∈ sr_c := by decide
  have hm : ∀ k ∈ List.range 6, ∀ j ∈ [7, 9, 10, 11, 12, 13], (11 + 17 + 2 * k, j, 1, 2147483647) ∈ sr_c := by decide
  have hs : ∀ k ∈ List.range 6, (11 + 17 + 2 * k + 1, 0, 12, 2147483648) ∈ sr_c := by decide
  have tz : ∀ k, k < 6 → ∀ j, j ∈ [1, 2, 3, 4, 5, 6, 8, 16] → s (11 + 17 + 2 * k) j = 0 := fun k hk j hj => (h.c1 _ _ _ (hz k (List.mem_range.mpr hk) j hj)).trans iz0
  have tm : ∀ k, k < 6 → ∀ j, j ∈ [7, 9, 10, 11, 12, 13] → s (11 + 17 + 2 * k) j = -1 := fun k hk j hj => (h.c1 _ _ _ (hm k (List.mem_range.mpr hk) j hj)).trans izm
  refine ⟨rfl, ⟨?_, ?_, ?_, ?_, ?_, fun i hi => ?_, fun x i hx => ?_, fun z hz => by cases hz⟩, ⟨fun j hj => ?_, fun j hj => ?_⟩, fun k hk => ⟨⟨?_, fun e he => ?_, fun e he => ?_⟩, ⟨fun _ => ⟨?_, ?_⟩, fun q => absurd q (Nat.lt_irrefl 0)⟩, ⟨fun _ => ?_, fun z hz => by cases hz⟩, ⟨fun z hz => (by cases hz), fun _ => ?_⟩, fun q => ?_, fun z hz => by cases hz⟩, fun t ht i hi => absurd hi (Nat.not_lt_zero i), ⟨fun f hf => ⟨?_, ?_, ?_, ?_⟩, fun j hj => ?_⟩⟩
  · exact (h.c1 13 7 2147483648 (by decide)).trans iz0
  · exact (h.c1 13 8 2147483648 (by decide)).trans iz0
  · rw [h.c1 (11 + 2) 9 _ (by decide : (11 + 2, 9, 1, 2048 + 2147483648) ∈ sr_c), iz_nI]
  · show ([] ++ List.range 256).length = 256
    rw [List.nil_append, List.length_range]
  · show ([] ++ List.range 256).Nodup
    rw [List.nil_append]; exact List.nodup_range
  · have hi : i ∈ [] ++ List.range 256 := hi
    rw [List.nil_append] at hi
    exact List.mem_range.mp hi
  · have hx : ([] ++ List.range 256)[x]? = some i := hx
    rw [List.nil_append, List.getElem?_eq_some_iff] at hx
    obtain ⟨h1, h2⟩ := hx
    rw [List.length_range] at h1
    rw [List.getElem_range] at h2
    rw [h.2 (11 + 8) (by decide) x h1, h2]
  · have hc : ∀ e ∈ [(0, 16), (1, 1), (2, 1), (3, 40), (4, 1), (5, 60)], (11 + 1, e.1, 1, e.2 + 2147483648) ∈ sr_c ∧ (111, 2048 + e.1, 1, e.2 + 2147483648) ∈ sr_c := by decide
    have hx : ∃ v, (j, v) ∈ [(0, 16), (1, 1), (2, 1), (3, 40), (4, 1), (5, 60)] := by
      obtain rfl | rfl | rfl | rfl | rfl | rfl : j = 0 ∨ j = 1 ∨ j = 2 ∨ j = 3 ∨ j = 4 ∨ j = 5 := by omega
      · exact ⟨16, by decide⟩
      · exact ⟨1, by decide⟩
      · exact ⟨1, by decide⟩
      · exact ⟨40, by decide⟩
      · exact ⟨1, by decide⟩
      · exact ⟨60, by decide⟩
    obtain ⟨v, hv⟩ := hx
    obtain ⟨c1, c2⟩ := hc (j, v) hv
    exact (h.c1 _ _ _ c1).trans (h.c1 _ _ _ c2).symm
  · exact (h.z (11 + 13) 0 12 (by decide) (Nat.zero_le j) (by omega)).trans (h.z 111 2054 14 (by decide) (j := 2054 + j) (by omega) (by omega)).symm
  · rw [h.c1 _ _ _ (h0 k (List.mem_range.mpr hk)), iz_nI]
  · show s (11 + 17 + 2 * k) e.1 = s 111 (e.2 + k)
    simp only [tf, List.mem_cons, List.not_mem_nil, or_false] at he
    rcases he with rfl | rfl | rfl | rfl | rfl | rfl | rfl | rfl | rfl | rfl
    · rw [tz k hk _ (by decide), w0 _ (by omega) (by omega)]
    · rw [tz k hk _ (by decide), w0 _ (by omega) (by omega)]
    · rw [tz k hk _ (by decide), w0 _ (by omega) (by omega)]
    · rw [tz k hk _ (by decide), w0 _ (by omega) (by omega)]
    · rw [tz k hk _ (by decide), w0 _ (by omega) (by omega)]
    · rw [tz k hk _ (by decide), w4 _ (by omega) (by omega)]
    · rw [tm k hk _ (by decide), w3 _ (by omega) (by omega)]
    · rw [tz k hk _ (by decide), w4 _ (by omega) (by omega)]
    · rw [tm k hk _ (by decide), w1 _ (by omega) (by omega)]
    · rw [tz k hk _ (by decide), w4 _ (by omega) (by omega)]
  · show s (11 + 17 + 2 * k + 1) e.1 = s 111 (e.2 + k)
    have q2 : ∀ e ∈ ts, e.1 < 12 ∧ ((3926 ≤ e.2 ∧ e.2 + 6 < 3975) ∨ (3996 ≤ e.2 ∧ e.2 + 6 < 4073)) := by decide
    obtain ⟨q3, q4⟩ := q2 e he
    rw [h.z _ _ _ (hs k (List.mem_range.mpr hk)) (Nat.zero_le _) (by omega)]
    rcases q4 with q4 | q4
    · rw [w0 _ (by omega) (by omega)]
    · rw [w4 _ (by omega) (by omega)]
  · exact tm k hk 10 (by decide)
  · exact tm k hk 11 (by decide)
  · exact tm k hk 12 (by decide)
  · exact tm k hk 13 (by decide)
  · exact absurd (w0 (3926 + k) (by omega) (by omega)) q
  · exact (h.z (5 + 1) 0 10 (by decide) (Nat.zero_le f) (by omega)).trans (p0 (2228 + f) (by omega) (by omega)).symm
  · exact (h.z (5 + 2) 0 10 (by decide) (Nat.zero_le f) (by omega)).trans (p0 (2238 + f) (by omega) (by omega)).symm
  · exact (h.z (5 + 3) 0 10 (by decide) (Nat.zero_le f) (by omega)).trans (p0 (2248 + f) (by omega) (by omega)).symm
  · have e : vsz (v0 s).1 f = 0 := by
      show (s 111 (2228 + f)).toInt.toNat = 0
      rw [p0 _ (by omega) (by omega)]
      rfl
    rw [e, if_neg (by omega)]
    exact h.z (5 + 5) 0 10 (by decide) (Nat.zero_le f) (by omega)
  · exact (h.z (5 + 4) 0 640 (by decide) (Nat.zero_le j) (by omega)).trans (h.z 111 2258 640 (by decide) (j := 2258 + j) (by omega) (by omega)).symm
theorem S0_kc (h : S0 s) : KC s := by
  intro j hj
  obtain rfl | rfl | rfl | rfl | rfl | rfl : j = 0 ∨ j = 1 ∨ j = 2 ∨ j = 3 ∨ j = 4 ∨ j = 5 := by omega
  · rw [h.c1 1 0 2147483656 (by decide), h.c1 2 0 2147483712 (by decide), h.c1 3 0 2147483664 (by decide)]; decide
  · rw [h.c1 1 1 2147483648 (by decide), h.c1 2 1 2147483649 (by decide), h.c1 3 1 2147483649 (by decide)]; decide
  · rw [h.c1 1 2 2147483648 (by decide), h.c1 2 2 2147483649 (by decide), h.c1 3 2 2147483649 (by decide)]; decide
  · rw [h.c1 1 3 2147483658 (by decide), h.c1 2 3 2147483728 (by decide), h.c1 3 3 2147483688 (by decide)]; decide
  · rw [h.c1 1 4 2147483649 (by decide), h.c1 2 4 2147483651 (by decide), h.c1 3 4 2147483649 (by decide)]; decide
  · rw [h.c1 1 5 2147483658 (by decide), h.c1 2 5 2147483738 (by decide), h.c1 3 5 2147483708 (by decide)]; decide
theorem S0_nw (h : S0 s) : NW 0 s (v0 s) := by
  have h0 : ∀ k ∈ List.range 6, (40 + 17 + 2 * k, 0, 1, k + 2147483648) ∈ sr_c := by decide
  refine ⟨⟨[], List.range 256, S0_rc h⟩, S0_vi h, fun t ht => WL.no ?_, S0_kc h, fun k hk => by rw [h.c1 _ _ _ (h0 k (List.mem_range.mpr hk)), iz_nI]⟩
  show ¬ s 111 (3926 + t) = 2
  rw [h.z 111 3926 49 (by decide) (j := 3926 + t) (by omega) (by omega)]
  decide
theorem S0_lj (h : S0 s) : LJ 0 0 s := by
  have e4 : s 4 6 = 0 := (h.c1 4 6 2147483648 (by decide)).trans iz0
  have e110 : s 110 4 = 0 := (h.c1 110 4 2147483648 (by decide)).trans iz0
  exact ⟨S0_ci h, e4.trans e110.symm, v0 s, v0 s, ⟨S0_rs h, S0_vi h, Or.inl e110⟩, S0_nw h, Or.inl e4⟩
end
/-! ### the room -/
def wt_psz (p : wt_p) : Nat := match p with
  | .inl (_, n) => n
  | .inr (.inl (n, _)) => n
  | .inr (.inr (_, fs)) => fs.length
theorem wt_fs_len {f : Nat → Int32} : ∀ (fs : List (Option (Option Nat))) (i : Nat), (wt_fs f fs i).length = fs.length := by
  intro fs
  induction fs with
  | nil => intro i; rfl
  | cons q fs ih => intro i; cases q <;> exact congrArg (· + 1) (ih (i + 1))
theorem wt_es_sz {s : wt_S} : ∀ (H : List wt_p) (i : Nat), mj_sz (wt_es s H i) = (H.map wt_psz).sum ∧ (wt_es s H i).length = H.length := by
  intro H
  induction H with
  | nil => intro i; exact ⟨rfl, rfl⟩
  | cons p H ih =>
    intro i
    obtain ⟨h1, h2⟩ := ih (i + 1)
    refine ⟨?_, congrArg (· + 1) h2⟩
    show (mj_csz (wt_c p (s i)) :: (wt_es s H (i + 1)).map mj_csz).sum = _
    rw [List.sum_cons, List.map_cons, List.sum_cons]
    show mj_csz (wt_c p (s i)) + mj_sz (wt_es s H (i + 1)) = _
    rw [h1]
    congr 1
    rcases p with ⟨t, n⟩ | (⟨n, f⟩ | ⟨ci, fs⟩)
    · rfl
    · rfl
    · exact wt_fs_len fs 0
theorem wt_H_sz (L : Nat) : ((wt_H L).map wt_psz).sum ≤ L + 100000 ∧ (wt_H L).length = 119 := by
  constructor
  · unfold wt_H
    rw [List.map_cons, List.sum_cons]
    exact Nat.add_le_add_left (by decide +kernel) L
  · rfl
theorem law_run (L : Nat) (hL : L ≤ 3072) (xs : Nat → Int32) : ∃ N h1, mj_exec mj_I mj_cds N 30 kL_law kL_law [some (.inr (some 0)), none, none, none] [] (mj_old L xs) = some (some (.inl 1), h1) ∧ h1.length ≤ 600000 ∧ mj_sz h1 ≤ 7302250 := by
  obtain ⟨s, h0, hgo⟩ := sr_start L xs
  have z0 : (Int32.ofInt 0).toInt = 0 := by decide
  obtain ⟨r, s', e, hr⟩ := law_loop hL 512 513 0 0 s (Int32.ofInt 0) (by omega) (by omega) (by omega) (S0_lj h0) (by omega) (by omega)
  obtain ⟨R0, hR, s2, e1, e2, e3⟩ := sL_law_18 (L := L) (d := 1) 513 (s := s) (l3 := Int32.ofInt 0) _ e
  obtain ⟨N, hN⟩ := hgo R0 hR
  have hsz := wt_es_sz (s := s2) (wt_H L) 0
  have hw := wt_H_sz L
  refine ⟨N, R0.2, ?_, ?_, ?_⟩
  · rw [hN]
    have e2 : R0.1 = some (.inl r) := e2
    rw [hr] at e2
    rw [← e2]
  · rw [e1]
    show (wt_es s2 (wt_H L) 0).length ≤ _
    omega
  · rw [e1]
    show mj_sz (wt_es s2 (wt_H L) 0) ≤ _
    omega
/-- THE LAW, from its entry -/
theorem whole_start {p : Program} {e : Env} {s : State} {m : MethodId} {below : List Frame} {meth : Method} {c : Code} (l : Launch) (hflags : l.flags = flags0) {b L : Nat} {xs : Nat → Int32} (hL : L ≤ 3072) (C0 : lw_At p s m meth c b L xs) : W p l e room_1 s m #[Value.ref b] below meth c s.heap [] 0 0 (lw_Z below #[Value.ref b] s) (entryFrame m ([Value.ref b] : List Value).toArray 4) := by
  obtain ⟨N, h1, hE, hz1, hz2⟩ := law_run L hL xs
  exact mj_start l C0 hE hz1 hz2

set_option maxHeartbeats 4000000 in
theorem lw_walk (l : Launch) (hflags : l.flags = flags0) (b : Addr) (xs : List Int32) : MetFree l x (headSpec (Jvm.Cond.code x code maxLocals ret :: tables_1) room_1) (lw_P b xs) (fun _ _ _ _ _ => True) lw_Q := by
  refine MetFree.of_bodyS (code := code) (maxLocals := maxLocals) (ret := ret) (by decide) ?_ ?_
  · intro args s m h hn
    obtain ⟨meth, c, h1, h2, h3, h4, h5, h6, -, -⟩ := Cond.code_spec hn (atoms_spec (ws := Jvm.Cond.code x code maxLocals ret :: tables_1) h _ List.mem_cons_self)
    exact ⟨meth, c, h1, h2, h3, h4, h5, h6⟩
  · intro p e s m args below meth c s₁ B hml0 hP _
    obtain ⟨rfl, hx, hbd, hgv⟩ := hP
    obtain ⟨scr, harrAt, hlist, hof, hsmall⟩ := hx
    obtain ⟨hcb, hkn, -, -⟩ := State.arrayAt?_spec harrAt
    have hown : s.vm.findClass R_law = some m.cls := findClass_of_methodNamed B.named
    have hts0 : ∀ c ∈ (Jvm.Cond.code x code maxLocals ret :: tables_1), c.before #[Value.ref b] s = true := atoms_spec (ws := Jvm.Cond.code x code maxLocals ret :: tables_1) B.pre
    have hts : ∀ w ∈ lw_tbl, w.before #[Value.ref b] s = true := k2_hts_sels lw_privs (fun w hw => hts0 w (List.mem_cons_of_mem _ hw)) lw_privs_ok
    have hml : c.maxLocals = 4 := B.maxLocals_eq (hts0 _ List.mem_cons_self)
    have X₀ : Stand p l e room_1 s m #[Value.ref b] below meth c s₁ [] 0 0 := Stand.of_body B
    have hh0 : s₁.heap = s.heap := by rw [B.state]; rfl
    have hsz : scr.slots.size = xs.length := by rw [← Array.length_toList, hlist, List.length_map]
    have hval : ∀ j : Nat, j < xs.length → scr.slots[j]? = some (.int (xs.getD j 0)) := fun j hj => by
      rw [← Array.getElem?_toList, hlist]
      simp [hj]
    have hbl : b < s.heap.size := (Array.getElem?_eq_some_iff.mp hcb).1
    have hX : va_X b xs.length (fun j => xs.getD j 0) s s.heap := ⟨scr, hcb, hof, hkn, hsz, hval⟩
    have K : W p l e room_1 s m #[Value.ref b] below meth c s₁.heap [] 0 0 (lw_Z below #[Value.ref b] s) (entryFrame m ([Value.ref b] : List Value).toArray 4) := by
      rw [hh0]
      exact whole_start l hflags hbd ⟨B.exec, B.bytes, B.returns, hml, hown, hts, hX, hbl, B.notSynchronized, hgv⟩
    obtain ⟨t, a1, o, b1, b2, b3⟩ := K s₁ rfl X₀
    exact ⟨t, o, a1, b1, b2, b3⟩
theorem lw_pre_spec {args : Array Value} {s : State} (h : (Jvm.Cond.and given_1 narrow_1).before args s = true) (hr : rest_1_c.before args s = true) : ∃ (b : Addr) (xs : List Int32), lw_P b xs args s := by
  have hs := flat_of_before _ h
  have hq := flat_of_before _ hr
  have hc : (Cond.count 1).before args s = true := hs _ (by decide +kernel)
  have harr : (Cond.arrayOf (.arg 0) .int).before args s = true := hs _ (by decide +kernel)
  have hle : (Cond.le (.length (.arg 0)) (.int 3072)).before args s = true := hs _ (by decide +kernel)
  have hlen : (Cond.isInt (.length (.arg 0))).before args s = true := hq _ (by decide +kernel)
  have hall : (Cond.all (.arg 0) (.isInt (.elem (.arg 0) (.index 0)))).before args s = true := hq _ (by decide +kernel)
  obtain ⟨b, xs, hb, hx⟩ := State.ints_of_pre rfl harr hlen hall
  have hsm : xs.length < 2 ^ 31 := hx.choose_spec.2.2.2
  have hev : (Term.length (.arg 0)).eval args s none [] s = some (.int xs.length.toInt32) := hx.length_eval hb
  have hv := Cond.le_ints hev (show (Term.int 3072).eval args s none [] s = some (.int 3072) from rfl)
  have hd : xs.length.toInt32 ≤ 3072 := by
    simpa [Cond.before, Cond.holds, hv] using hle
  have hN : xs.length ≤ 3072 := (Int32.ofNat_le_ofNat hsm (by decide)).mp (show Int32.ofNat xs.length ≤ Int32.ofNat 3072 from hd)
  exact ⟨b, xs, Cond.one_arg hc (show args[0]? = some (.ref b) from hb), hx, hN, h⟩
theorem lw_comes (l : Launch) (hflags : l.flags = flags0) : Comes l x (Jvm.Cond.code x code maxLocals ret :: tables_1) room_1 (fun tb e args s => Calls_1 tb e args s ∧ rest_1 tb e args s ∧ Pre_1 tb e args s)
    (fun _ _ args s o t => lw_Q args s o t) := by
  intro p e ha hc hk s m args below hf hfit hheap happ hpre
  obtain ⟨b, xs, hP⟩ := lw_pre_spec hpre.2.2 hpre.2.1
  obtain ⟨k, o, h1, h2, h3, hQ⟩ := lw_walk l hflags b xs p e ha hc hk s m args below hf ((Spec.applies_iff_loose hf).mp happ).1 hP trivial
  exact ⟨k, o, h1, h2, h3, hQ⟩
theorem lw_frame {s t : State} {o : Outcome} {args : Array Value} (h : Framed s o t [] 600000 7302250) :
    Framed s o t (fieldLocs frame_1_writes args s ++ arrayLocs frame_1_arrays args s ++ staticLocs frame_1_statics s) 600000 7302250 := h
theorem lw_limb (L : Cond) (hL : ∀ (args : Array Value) (s t : State), L.after args s (.returned (some (.int 1))) t = true) :
    ArmFor flags0 classFile x code maxLocals ret World_1 tables_1 room_1 Calls_1 rest_1 Pre_1
      (fun tb e a s o t => postC L tb e a s o t ∧ Framed s o t (fieldLocs frame_1_writes a s ++ arrayLocs frame_1_arrays a s ++ staticLocs frame_1_statics s) 600000 7302250) := by
  intro l hflags _ _ p e ha hc hk s m args below hf hfit hheap happ hpre
  obtain ⟨k, o, h1, h2, h3, rfl, hF⟩ := lw_comes l hflags p e ha hc hk s m args below hf hfit hheap happ hpre
  exact ⟨k, _, h1, h2, h3, hL args s _, lw_frame hF⟩
theorem i_vc : Claimed_1_1 ∧ Claimed_1_2 := ⟨lw_limb limb_1_1 (fun args s t => by simp [limb_1_1, Cond.after, Cond.holds, Cond.value]), lw_limb limb_1_2 (fun args s t => Cond.after_iff.mpr (by
  first | (rw [show limb_1_2 = Cond.eq .result (.int 1) from rfl, Cond.eq_ints (x := 1) (y := 1) rfl rfl]; simp; done) | (simp [limb_1_2, Cond.value, Term.eval]; done)))⟩
