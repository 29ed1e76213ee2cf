/-! ===== the class: a piece is taken ===== -/
theorem c_ac {α : Type} {s : wt_S} {a c p q n n0 n1 : Nat} {F : wt_S → Option α} (h1 : p + n ≤ n0) (h2 : q + n ≤ n1) (h3 : n0 ≤ 100000) (h4 : n1 ≤ 100000) : wt_ac s a (nI p) c (nI q) (nI n) n0 n1 F = F (wt_uf s c (mj_cpy (s a) (s c) p q n)) := by
  unfold wt_ac
  rw [nI_int (by omega), nI_int (by omega), nI_int (by omega), if_pos (by omega), Int.toNat_natCast, Int.toNat_natCast, Int.toNat_natCast]
theorem ins_map {α β : Type} {f : α → β} {x : α} : ∀ {l : List α} {i : Nat}, (l.insertIdx i x).map f = (l.map f).insertIdx i (f x) := by
  intro l
  induction l with
  | nil => intro i; cases i <;> simp
  | cons a l ih =>
    intro i
    cases i with
    | zero => simp
    | succ i => simp [ih]
theorem er_map {α β : Type} {f : α → β} : ∀ {l : List α} {i : Nat}, (l.eraseIdx i).map f = (l.map f).eraseIdx i := by
  intro l
  induction l with
  | nil => intro i; simp
  | cons a l ih =>
    intro i
    cases i with
    | zero => simp
    | succ i => simp [ih]
theorem vall_insq {q : vP} : ∀ {ps : List vP}, vall (vins q ps) = vall ps + q.2.1 := by
  intro ps
  induction ps with
  | nil => show q.2.1 + 0 = 0 + q.2.1; omega
  | cons p ps ih =>
    unfold vins
    split
    · show q.2.1 + (p.2.1 + vall ps) = p.2.1 + vall ps + q.2.1; omega
    · show p.2.1 + vall (vins q ps) = p.2.1 + vall ps + q.2.1
      rw [ih]; omega
section
variable {b lim : Nat} {s s' : wt_S} {zs : List (vP × Nat)} {fr fr' : List Nat} {id : Nat}
theorem zids_n : (zids zs (id :: fr'))[zs.length]? = some id := by
  unfold zids
  rw [List.getElem?_append_right (by rw [List.length_map]; exact Nat.le_refl _), List.length_map, Nat.sub_self]
  rfl
theorem PC.fresh (h : PC b lim s zs (id :: fr')) : id < 256 ∧ s (b + 8) zs.length = nI id ∧ ∀ z ∈ zs, z.2 ≠ id := by
  refine ⟨h.2.2.2.2.2.1 id (List.mem_of_getElem? zids_n), h.2.2.2.2.2.2.1 _ _ zids_n, fun z hz e => ?_⟩
  have hn := h.2.2.2.2.1
  unfold zids at hn
  rw [List.nodup_append] at hn
  exact hn.2.2 z.2 (List.mem_map.mpr ⟨z, hz, rfl⟩) id (List.mem_cons_self) e
theorem c_insert (h : PC b lim s zs (id :: fr')) {x : Nat} (hx : x ≤ zs.length) : ∃ s', gX5_insert b s (nI x) = some (nI id, s') ∧ s' (b + 2) 7 = nI (zs.length + 1) ∧ (∀ k, k ≠ 7 → s' (b + 2) k = s (b + 2) k) ∧ (∀ c, c ≠ b + 2 → c ≠ b + 8 → s' c = s c) ∧ ∀ q y i, (zids (zs.insertIdx x (q, id)) fr')[y]? = some i → s' (b + 8) y = nI i := by
  have hl := h.len
  rw [List.length_cons] at hl
  obtain ⟨f1, f2, f3⟩ := h.fresh
  refine ⟨wt_u (wt_u (wt_uf s (b + 8) (mj_cpy (s (b + 8)) (s (b + 8)) x (x + 1) (zs.length - x))) (b + 8) x (nI id)) (b + 2) 7 (nI zs.length + 1), ?_, ?_, ?_, ?_, ?_⟩
  · unfold gX5_insert
    rw [if_neg (c_lo (by omega)), h.1, if_neg (by rw [nI_int (by omega), nI_int (by omega)]; omega), if_pos (by rw [nI_int (by omega), ci256]; omega), ix_nI (by omega) (by omega), nI_sub hx, show nI x + 1 = nI (x + 1) from nI_add x 1, c_ac (by omega) (by omega) (by omega) (by omega), ix_nI (by omega) (by omega), wr_eq, wr_eq, f2, wt_u_ne (by omega), wt_uf_ne (by omega), h.1]
  · rw [wt_u_self]; exact nI_add _ 1
  · intro k hk
    rw [wt_u_nk hk, wt_u_ne (by omega), wt_uf_ne (by omega)]
  · intro c h1 h2
    rw [wt_u_ne h1, wt_u_ne h2, wt_uf_ne h2]
  · intro q y i hy
    rw [wt_u_ne (by omega), wt_u_at, wt_uf_at]
    have hL : (zs.insertIdx x (q, id)).length = zs.length + 1 := List.length_insertIdx_of_le_length hx _
    unfold zids at hy
    by_cases c1 : y < zs.length + 1
    · rw [List.getElem?_append_left (by rw [List.length_map, hL]; exact c1), List.getElem?_map] at hy
      by_cases c2 : y < x
      · rw [List.getElem?_insertIdx_of_lt c2] at hy
        obtain ⟨z, hz, rfl⟩ := Option.map_eq_some_iff.mp hy
        rw [mj_upd_ne (by omega), mj_cpy_out (by omega)]
        exact h.2.2.2.2.2.2.1 _ _ (zids_at hz)
      · by_cases c3 : y = x
        · subst c3
          rw [List.getElem?_insertIdx_self, if_pos hx] at hy
          cases hy
          exact mj_upd_self
        · rw [List.getElem?_insertIdx_of_gt (by omega)] at hy
          obtain ⟨z, hz, rfl⟩ := Option.map_eq_some_iff.mp hy
          rw [mj_upd_ne c3, mj_cpy_in (by omega) (by omega), show x + (y - (x + 1)) = y - 1 by omega]
          exact h.2.2.2.2.2.2.1 _ _ (zids_at hz)
    · rw [List.getElem?_append_right (by rw [List.length_map, hL]; omega), List.length_map, hL] at hy
      rw [mj_upd_ne (by omega), mj_cpy_out (by omega)]
      refine h.2.2.2.2.2.2.1 y i ?_
      unfold zids
      rw [List.getElem?_append_right (by rw [List.length_map]; omega), List.length_map, show y - zs.length = (y - (zs.length + 1)) + 1 by omega, List.getElem?_cons_succ]
      exact hy
theorem zend_le (ho : vo lim (zs.map Prod.fst)) {x : Nat} {z : vP × Nat} (hz : zs[x]? = some z) : zend zs x ≤ z.1.1 := by
  cases x with
  | zero => exact Nat.zero_le _
  | succ x =>
    have hl := (List.getElem?_eq_some_iff.mp hz).1
    have hy : zs[x]? = some zs[x] := List.getElem?_eq_getElem (by omega)
    rw [zend_s hy]
    have hp := ho.1
    rw [List.pairwise_iff_getElem] at hp
    have := hp x (x + 1) (by rw [List.length_map]; omega) (by rw [List.length_map]; omega) (by omega)
    rw [List.getElem_map, List.getElem_map] at this
    have e : zs[x + 1] = z := (List.getElem?_eq_some_iff.mp hz).2
    rw [e] at this
    exact this
theorem zend_lim (ho : vo lim (zs.map Prod.fst)) {x : Nat} : zend zs x ≤ lim := by
  unfold zend
  split
  · exact Nat.zero_le _
  · split
    · rename_i z hz
      have := (ho.2 z.1 (List.mem_map.mpr ⟨z, List.mem_of_getElem? hz, rfl⟩)).2.1
      omega
    · exact Nat.zero_le _
theorem c_take_loop {words : Nat} {tk un : Int32} (h : PC b lim s zs fr) (ho : vo lim (zs.map Prod.fst)) (hw : words < 100000) (hl : lim ≤ 10000) : ∀ (m x fu : Nat), x + m = zs.length → m + 1 < fu →
    (vgap lim (zend zs x) ((zs.map Prod.fst).drop x) words = none → gX5_take_3 b fu s (nI words) tk un (nI x) = some (-1, s)) ∧
    ∀ g, vgap lim (zend zs x) ((zs.map Prod.fst).drop x) words = some g → ∃ y fu', x ≤ y ∧ y ≤ zs.length ∧ g = zend zs y ∧ (∀ z, zs[y]? = some z → g + words ≤ z.1.1) ∧ (y = zs.length → g + words ≤ lim) ∧ gX5_take_3 b fu s (nI words) tk un (nI x) = gX5_take_3 b (fu' + 1) s (nI words) tk un (nI y) := by
  have hn := h.len
  intro m
  induction m with
  | zero =>
    intro x fu hx hf
    obtain ⟨fu, rfl⟩ : ∃ k, fu = k + 2 := ⟨fu - 2, by omega⟩
    have hx : x = zs.length := by omega
    subst hx
    have hz := zend_lim ho (x := zs.length)
    rw [List.drop_of_length_le (by rw [List.length_map]; exact Nat.le_refl _)]
    have hv : vgap lim (zend zs zs.length) [] words = if zend zs zs.length + words ≤ lim then some (zend zs zs.length) else none := rfl
    rw [hv]
    by_cases c : zend zs zs.length + words ≤ lim
    · rw [if_pos c]
      refine ⟨fun e => (by cases e), fun g e => ⟨zs.length, fu + 1, Nat.le_refl _, Nat.le_refl _, ?_, fun z e => ?_, fun _ => ?_, rfl⟩⟩
      · exact (Option.some.inj e).symm
      · rw [List.getElem?_eq_none (Nat.le_refl _)] at e; cases e
      · rw [← Option.some.inj e]; exact c
    · rw [if_neg c]
      refine ⟨fun _ => ?_, fun g e => by cases e⟩
      rw [gX5_take_3, h.1, if_neg (Int.lt_irrefl _), c_gapFrom h (Nat.le_refl _), cl_some, c_gapTo_n h, cl_some, nI_sub hz, if_pos (by rw [nI_int (by omega), nI_int (by omega)]; omega), show nI zs.length + 1 = nI (zs.length + 1) from nI_add _ 1, gX5_take_3, h.1, if_pos (by rw [nI_int (by omega), nI_int (by omega)]; omega)]
  | succ m ih =>
    intro x fu hx hf
    obtain ⟨fu, rfl⟩ : ∃ k, fu = k + 1 := ⟨fu - 1, by omega⟩
    have hlx : x < zs.length := by omega
    have hz : zs[x]? = some zs[x] := List.getElem?_eq_getElem hlx
    generalize zs[x] = z at hz
    have hd : (zs.map Prod.fst).drop x = z.1 :: (zs.map Prod.fst).drop (x + 1) := by
      rw [List.drop_eq_getElem_cons (by rw [List.length_map]; exact hlx), List.getElem_map, (List.getElem?_eq_some_iff.mp hz).2]
    have he := zend_le ho hz
    have hq := (ho.2 z.1 (List.mem_map.mpr ⟨z, List.mem_of_getElem? hz, rfl⟩))
    have hv : vgap lim (zend zs x) (z.1 :: (zs.map Prod.fst).drop (x + 1)) words = if zend zs x + words ≤ z.1.1 then some (zend zs x) else vgap lim (z.1.1 + z.1.2.1) ((zs.map Prod.fst).drop (x + 1)) words := rfl
    rw [hd, hv]
    by_cases c : zend zs x + words ≤ z.1.1
    · rw [if_pos c]
      refine ⟨fun e => (by cases e), fun g e => ⟨x, fu, Nat.le_refl _, by omega, (Option.some.inj e).symm, fun y e2 => ?_, fun e3 => by omega, rfl⟩⟩
      rw [hz] at e2
      rw [← Option.some.inj e, ← Option.some.inj e2]
      exact c
    · rw [if_neg c]
      have hze : zend zs (x + 1) = z.1.1 + z.1.2.1 := zend_s hz
      obtain ⟨i1, i2⟩ := ih (x + 1) fu (by omega) (by omega)
      rw [hze] at i1 i2
      have hs : gX5_take_3 b (fu + 1) s (nI words) tk un (nI x) = gX5_take_3 b fu s (nI words) tk un (nI (x + 1)) := by
        rw [gX5_take_3, h.1, if_neg (by rw [nI_int (by omega), nI_int (by omega)]; omega), c_gapFrom h (by omega), cl_some, c_gapTo h hz, cl_some, nI_sub he, if_pos (by rw [nI_int (by omega), nI_int (by omega)]; omega), show nI x + 1 = nI (x + 1) from nI_add x 1]
      rw [hs]
      refine ⟨i1, fun g e => ?_⟩
      obtain ⟨y, fu', a1, a2, a3⟩ := i2 g e
      exact ⟨y, fu', by omega, a2, a3⟩
theorem c_take {words : Nat} {un : Int32} {t : Nat} (h : PC b lim s zs fr) (ho : vo lim (zs.map Prod.fst)) (hw : 1 ≤ words ∧ words < 100000) (hl : lim ≤ 10000) :
    (vgap lim 0 (zs.map Prod.fst) words = none → gX5_take b s (nI words) (nI t) un = some (-1, s)) ∧
    ∀ g, zs.length < 256 → vgap lim 0 (zs.map Prod.fst) words = some g → ∃ id fr' y s', fr = id :: fr' ∧ id < 256 ∧ (∀ z ∈ zs, z.2 ≠ id) ∧ gX5_take b s (nI words) (nI t) un = some (nI id, s') ∧ y ≤ zs.length ∧ s' (b + 5) = mj_upd (s (b + 5)) id 0 ∧ s' (b + 6) = mj_upd (s (b + 6)) id un ∧ s' (b + 9) = s (b + 9) ∧ PF b s s' ∧
      ∀ n, PC b lim s' (zs.insertIdx y ((g, words, t, n), id)) fr' ∧ (zs.insertIdx y ((g, words, t, n), id)).map Prod.fst = vins (g, words, t, n) (zs.map Prod.fst) := by
  have hn := h.len
  obtain ⟨l1, l2⟩ := c_take_loop (tk := nI t) (un := un) h ho hw.2 hl zs.length 0 wt_N (by omega) (by unfold wt_N; omega)
  refine ⟨fun e => l1 e, fun g hlen e => ?_⟩
  obtain ⟨y, fu', a1, a2, a3, a4, a5, a6⟩ := l2 g e
  cases fr with
  | nil => rw [List.length_nil] at hn; omega
  | cons id fr' =>
    obtain ⟨f1, f2, f3⟩ := h.fresh
    obtain ⟨s1, b1, b2, b3, b4, b5⟩ := c_insert h a2
    have hg : g ≤ lim := by rw [a3]; exact zend_lim ho
    have hcond : ∀ v : Nat, (∀ z, zs[y]? = some z → v = z.1.1) → (y = zs.length → v = lim) → y ≤ zs.length → zend zs y ≤ v ∧ ¬ (nI v - nI (zend zs y)).toInt < (nI words).toInt := fun v h1 h2 h3 => by
      have : zend zs y + words ≤ v ∧ v ≤ 10000 := by
        by_cases c : y = zs.length
        · have := a5 c; rw [h2 c]; omega
        · have hz : zs[y]? = some zs[y] := List.getElem?_eq_getElem (by omega)
          have q1 := a4 _ hz
          have q2 := (ho.2 zs[y].1 (List.mem_map.mpr ⟨zs[y], List.getElem_mem _, rfl⟩))
          rw [h1 _ hz]
          omega
      refine ⟨by omega, ?_⟩
      rw [nI_sub (by omega), nI_int (by omega), nI_int (by omega)]
      omega
    refine ⟨id, fr', y, wt_u (wt_u (wt_u (wt_u (wt_u (wt_u s1 (b + 3) id (nI g)) (b + 4) id (nI words)) (b + 5) id 0) (b + 6) id un) (b + 7) id (nI t)) (b + 2) 8 (s (b + 2) 8 + nI words), rfl, f1, f3, ?_, a2, ?_, ?_, ?_, ?_, ?_⟩
    · show gX5_take_3 b wt_N s (nI words) (nI t) un 0 = _
      rw [show (0 : Int32) = nI 0 from rfl, a6, gX5_take_3, h.1, if_neg (by rw [nI_int (by omega), nI_int (by omega)]; omega), c_gapFrom h a2, cl_some]
      have fin : wt_cl (gX5_insert b s (nI y)) (fun v6 s5 => (if v6.toInt < (0 : Int32).toInt then some (v6, s5) else (if (256 : Int32).toInt ≤ v6.toInt then some (v6, s5) else (wt_ix v6 256 fun k8 => wt_wr s5 (b + 3) k8 (nI (zend zs y)) fun s7 => (wt_ix v6 256 fun k10 => wt_wr s7 (b + 4) k10 (nI words) fun s9 => (wt_ix v6 256 fun k12 => wt_wr s9 (b + 5) k12 0 fun s11 => (wt_ix v6 256 fun k14 => wt_wr s11 (b + 6) k14 un fun s13 => (wt_ix v6 256 fun k16 => wt_wr s13 (b + 7) k16 (nI t) fun s15 => (wt_wr s15 (b + 2) 8 ((s15 (b + 2) 8) + nI words) fun s17 => some (v6, s17)))))))))) = some (nI id, wt_u (wt_u (wt_u (wt_u (wt_u (wt_u s1 (b + 3) id (nI g)) (b + 4) id (nI words)) (b + 5) id 0) (b + 6) id un) (b + 7) id (nI t)) (b + 2) 8 (s (b + 2) 8 + nI words)) := by
        rw [b1, cl_some, if_neg (c_lo (by omega)), if_neg (c_hi f1), ix_nI f1 (by omega), wr_eq, ix_nI f1 (by omega), wr_eq, ix_nI f1 (by omega), wr_eq, ix_nI f1 (by omega), wr_eq, ix_nI f1 (by omega), wr_eq, wr_eq, wt_u_ne (by omega), wt_u_ne (by omega), wt_u_ne (by omega), wt_u_ne (by omega), wt_u_ne (by omega), b3 8 (by omega), ← a3]
      by_cases c : y = zs.length
      · subst c
        obtain ⟨q1, q2⟩ := hcond lim (fun z e => by rw [List.getElem?_eq_none (Nat.le_refl _)] at e; cases e) (fun _ => rfl) a2
        rw [c_gapTo_n h, cl_some, if_neg q2]
        exact fin
      · have hz : zs[y]? = some zs[y] := List.getElem?_eq_getElem (by omega)
        obtain ⟨q1, q2⟩ := hcond zs[y].1.1 (fun z e => by rw [hz] at e; rw [Option.some.inj e]) (fun e => absurd e c) a2
        rw [c_gapTo h hz, cl_some, if_neg q2]
        exact fin
    · rw [wt_u_ne (by omega), wt_u_ne (by omega), wt_u_ne (by omega), wt_u_at, wt_u_ne (by omega), wt_u_ne (by omega), b4 _ (by omega) (by omega)]
    · rw [wt_u_ne (by omega), wt_u_ne (by omega), wt_u_at, wt_u_ne (by omega), wt_u_ne (by omega), wt_u_ne (by omega), b4 _ (by omega) (by omega)]
    · rw [wt_u_ne (by omega), wt_u_ne (by omega), wt_u_ne (by omega), wt_u_ne (by omega), wt_u_ne (by omega), wt_u_ne (by omega), b4 _ (by omega) (by omega)]
    · intro c hc
      rw [wt_u_ne (by omega), wt_u_ne (by omega), wt_u_ne (by omega), wt_u_ne (by omega), wt_u_ne (by omega), wt_u_ne (by omega), b4 _ (by omega) (by omega)]
    · intro n
      have hmap : (zs.insertIdx y ((g, words, t, n), id)).map Prod.fst = vins (g, words, t, n) (zs.map Prod.fst) := by
        rw [ins_map]
        refine vins_eq (by rw [List.length_map]; exact a2) (fun x p hx hp => ?_) (fun p hp => ?_)
        · rw [List.getElem?_map] at hp
          obtain ⟨z, hz, rfl⟩ := Option.map_eq_some_iff.mp hp
          show ¬ g < z.1.1
          have hpw := ho.1
          obtain ⟨y, rfl⟩ : ∃ y', y = y' + 1 := ⟨y - 1, by omega⟩
          have hy : zs[y]? = some zs[y] := List.getElem?_eq_getElem (by omega)
          have ez : zend zs (y + 1) = zs[y].1.1 + zs[y].1.2.1 := zend_s hy
          rw [a3, ez]
          by_cases c : x = y
          · subst c
            rw [hy] at hz
            rw [Option.some.inj hz]
            omega
          · rw [List.pairwise_iff_getElem] at hpw
            have := hpw x y (by rw [List.length_map]; omega) (by rw [List.length_map]; omega) (by omega)
            rw [List.getElem_map, List.getElem_map, (List.getElem?_eq_some_iff.mp hz).2] at this
            omega
        · rw [List.getElem?_map] at hp
          obtain ⟨z, hz, rfl⟩ := Option.map_eq_some_iff.mp hp
          show g < z.1.1
          have := a4 z hz
          omega
      refine ⟨⟨?_, ?_, ?_, ?_, ?_, ?_, ?_, ?_⟩, hmap⟩
      · rw [wt_u_nk (by omega), wt_u_ne (by omega), wt_u_ne (by omega), wt_u_ne (by omega), wt_u_ne (by omega), wt_u_ne (by omega), b2, List.length_insertIdx_of_le_length a2]
      · rw [wt_u_self, hmap, vall_insq, h.2.1, nI_add]
      · rw [wt_u_nk (by omega), wt_u_ne (by omega), wt_u_ne (by omega), wt_u_ne (by omega), wt_u_ne (by omega), wt_u_ne (by omega), b3 9 (by omega), h.2.2.1]
      · unfold zids
        rw [List.length_append, List.length_map, List.length_insertIdx_of_le_length a2]
        rw [List.length_cons] at hn
        omega
      · have hd := h.2.2.2.2.1
        have hp : (zids (zs.insertIdx y ((g, words, t, n), id)) fr').Perm (zids zs (id :: fr')) := by
          unfold zids
          rw [ins_map]
          refine List.Perm.trans ((List.perm_insertIdx id _ (by rw [List.length_map]; exact a2)).append_right fr') ?_
          exact List.perm_middle.symm
        exact hp.nodup_iff.mpr hd
      · intro i hi
        have hp : (zids (zs.insertIdx y ((g, words, t, n), id)) fr').Perm (zids zs (id :: fr')) := by
          unfold zids
          rw [ins_map]
          refine List.Perm.trans ((List.perm_insertIdx id _ (by rw [List.length_map]; exact a2)).append_right fr') ?_
          exact List.perm_middle.symm
        exact h.2.2.2.2.2.1 i (hp.mem_iff.mp hi)
      · intro x i hi
        rw [wt_u_ne (by omega), wt_u_ne (by omega), wt_u_ne (by omega), wt_u_ne (by omega), wt_u_ne (by omega), wt_u_ne (by omega)]
        exact b5 _ x i hi
      · intro z hz
        rw [wt_u_ne (by omega), wt_u_ne (by omega), wt_u_ne (by omega), wt_u_ne (by omega), wt_u_ne (by omega)]
        rw [wt_u_ne (a := b + 2) (by omega), wt_u_ne (a := b + 7) (by omega), wt_u_ne (a := b + 6) (by omega), wt_u_ne (a := b + 5) (by omega), wt_u_ne (a := b + 2) (by omega)]
        rw [List.mem_insertIdx a2] at hz
        rcases hz with rfl | hz
        · refine ⟨wt_u_self, wt_u_self, wt_u_self⟩
        · have hne := f3 z hz
          have hr := (h.mem hz).2
          refine ⟨?_, ?_, ?_⟩
          · rw [wt_u_nk hne, b4 _ (by omega) (by omega)]; exact hr.1
          · rw [wt_u_nk hne, wt_u_ne (by omega), b4 _ (by omega) (by omega)]; exact hr.2.1
          · rw [wt_u_nk hne, wt_u_ne (by omega), wt_u_ne (by omega), wt_u_ne (by omega), wt_u_ne (by omega), b4 _ (by omega) (by omega)]; exact hr.2.2
end
