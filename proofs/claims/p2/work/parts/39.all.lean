/-! ===== the reference gives all back, is out, gives its spare back ===== -/
theorem RR.mk' {w w' : Nat → Int32} {V V' : vV} (h : RR w V) (h1 : ∀ i, vtr i → w' i = V'.1 i) (h2 : vr_P w' V'.2.1) (h3 : ∀ p, p < 2048 → w' p = w p) (h4 : ∀ mm, VM mm V → VM mm V') : RR w' V' := by
  obtain ⟨-, -, mm, g3, g4⟩ := h
  exact ⟨h1, h2, mm, fun p hp => (h3 p hp).trans (g3 p hp), h4 mm g4⟩
theorem vfind_filter {P : vP → Bool} {t n : Nat} : ∀ {ps : List vP}, (∀ q ∈ ps, vkey t n q = true → P q = true) → (ps.filter P).find? (vkey t n) = ps.find? (vkey t n) := by
  intro ps
  induction ps with
  | nil => intro _; rfl
  | cons q ps ih =>
    intro h
    have hi := ih (fun p hp => h p (List.mem_cons_of_mem _ hp))
    by_cases e : vkey t n q = true
    · rw [List.filter_cons_of_pos (h q (List.mem_cons_self ..) e), List.find?_cons_of_pos e, List.find?_cons_of_pos e]
    · rw [List.find?_cons_of_neg e]
      by_cases p : P q = true
      · rw [List.filter_cons_of_pos p, List.find?_cons_of_neg e, hi]
      · rw [List.filter_cons_of_neg p, hi]
theorem vat_eq {ps qs : List vP} {t n : Nat} (h : qs.find? (vkey t n) = ps.find? (vkey t n)) : vat qs t n = vat ps t n ∧ vln qs t n = vln ps t n := by
  unfold vat vln
  rw [h]
  exact ⟨rfl, rfl⟩
/-- frames as words, when places stay -/
theorem MR.pl {mm w : Nat → Int32} {n : Nat} {fr : Nat → vF} {pl pl' : Nat → Nat} (h : MR mm w n fr pl) (he : ∀ i, i < n → pl' i = pl i) (hq : ∀ i, i < n → ∀ k, k < vsz w (fr i).1 → bt (w (2238 + (fr i).1)) k → ∀ q, (fr i).2.2.2.2.2 k = some q → q.1 ≤ i) : MR mm w n fr pl' := by
  intro i hi
  obtain ⟨h1, h2, h3, h4⟩ := h i hi
  rw [he i hi]
  refine ⟨h1, ?_, h3, fun k hk => ?_⟩
  · rw [h2]
    by_cases e : i = 0
    · rw [if_pos e, if_pos e]
    · rw [if_neg e, if_neg e, he (i - 1) (by omega)]
  · rw [h4 k hk]
    unfold vsw
    by_cases e : bt (w (2238 + (fr i).1)) k
    · rw [if_pos e, if_pos e]
      cases eq : (fr i).2.2.2.2.2 k with
      | none => rfl
      | some q =>
        have := hq i hi k hk e q eq
        show nI (pl q.1 + 2 + q.2) = nI (pl' q.1 + 2 + q.2)
        rw [he q.1 (by omega)]
    · rw [if_neg e, if_neg e]
/-- pieces change, the frames' own ones lie where they lay -/
theorem VM.ps {lim : Nat} {V V' : vV} {mm : Nat → Int32} (hI : VJ lim V) (h : VM mm V) (hw : ∀ i, 2228 ≤ i → i < 2248 → V'.1 i = V.1 i) (hf : ∀ t, t < 6 → V'.2.2.1 t ≤ V.2.2.1 t ∧ ∀ i, i < V'.2.2.1 t → V'.2.2.2 t i = V.2.2.2 t i ∧ vat V'.2.1 t (V.2.2.2 t i).2.1 = vat V.2.1 t (V.2.2.2 t i).2.1) : VM mm V' := by
  intro t ht
  obtain ⟨h1, h2⟩ := hf t ht
  refine MR_w hw ?_
  have hM : MR mm V.1 (V'.2.2.1 t) (V.2.2.2 t) (vpl V t) := fun i hi => h t ht i (by omega)
  have hM2 : MR mm V.1 (V'.2.2.1 t) (V.2.2.2 t) (vpl V' t) := by
    refine hM.pl (fun i hi => ?_) (fun i hi k hk hb q hq => ?_)
    · unfold vpl
      rw [(h2 i hi).1, (h2 i hi).2]
    · obtain ⟨np, -, -, a3⟩ := hI.geo ht (by omega)
      exact (a3.2.2.2.2.2 i (by omega) k hk hb q hq).1
  intro i hi
  rw [(h2 i hi).1]
  exact hM2 i hi
theorem vnot_t {q : vP} {t : Nat} : (decide (q.2.2.1 ≠ t)) = true ↔ q.2.2.1 ≠ t := by simp
theorem q_givesAll_loop {ps : List vP} {t : Nat} (ht : t < 6) (hl : ps.length ≤ 256) (hb : ∀ q ∈ ps, q.2.2.1 < 6) : ∀ (k n : Nat) (s : wt_S), k ≤ ps.length → k < n → vr_P (s 111) (ps.take k ++ (ps.drop k).filter (fun q => decide (q.2.2.1 ≠ t))) → ∃ w' n', gX11_givesAll_11 n s (nI t) (nI k + (-1)) = gX11_givesAll_11 (n' + 1) (wt_uf s 111 w') (nI t) (-1) ∧ vr_P w' (ps.filter (fun q => decide (q.2.2.1 ≠ t))) ∧ ∀ q, vout q → w' q = s 111 q := by
  intro k
  induction k with
  | zero =>
    intro n s hk hn hP
    obtain ⟨n, rfl⟩ : ∃ m, n = m + 1 := ⟨n - 1, by omega⟩
    refine ⟨s 111, n, ?_, by simpa using hP, fun _ _ => rfl⟩
    rw [uf_self, show nI 0 + (-1) = -1 by decide +kernel]
  | succ k ih =>
    intro n s hk hn hP
    obtain ⟨n, rfl⟩ : ∃ m, n = m + 1 := ⟨n - 1, by omega⟩
    obtain ⟨q, hq⟩ : ∃ q, ps[k]? = some q := ⟨_, List.getElem?_eq_getElem (by omega)⟩
    have et : ps.take (k + 1) = ps.take k ++ [q] := by
      rw [List.take_add_one, hq]; rfl
    have ed : ps.drop k = q :: ps.drop (k + 1) := by
      rw [List.drop_eq_getElem_cons (by omega)]
      rw [List.getElem?_eq_getElem (by omega)] at hq
      rw [Option.some.inj hq]
    have hlk : (ps.take k).length = k := by rw [List.length_take]; omega
    have hr : vrow (s 111) k q := by
      refine hP.2.2 k q ?_
      rw [et, List.append_assoc, List.getElem?_append_right (by omega), hlk, Nat.sub_self]
      rfl
    have hqm := hb q (List.mem_of_getElem? hq)
    rw [nI_pred2]
    have step : ∀ X, gX11_givesAll_11 (n + 1) s (nI t) (nI k) = X ↔ (if nI q.2.2.1 ≠ nI t then gX11_givesAll_11 n s (nI t) (nI k + (-1)) else (wt_cl (gX11_gives s (nI k)) fun _ s6 => gX11_givesAll_11 n s6 (nI t) (nI k + (-1)))) = X := by
      intro X
      rw [gX11_givesAll_11, nI_int (by omega), if_neg (by show ¬ (k : Int) < 0; omega), li_add, ix_nI (by omega) (by omega), hr.2.2.1]
    by_cases c : q.2.2.1 = t
    · obtain ⟨w1, e1, e2, e3⟩ := q_gives (k0 := k) hP (by
        rw [List.length_append, et, List.length_append, hlk]
        show k < k + 1 + _
        omega)
      have ee : (ps.take (k + 1) ++ (ps.drop (k + 1)).filter (fun q => decide (q.2.2.1 ≠ t))).eraseIdx k = ps.take k ++ (ps.drop k).filter (fun q => decide (q.2.2.1 ≠ t)) := by
        rw [et, ed, List.append_assoc, List.eraseIdx_append_of_length_le (by omega), hlk, Nat.sub_self, List.filter_cons_of_neg (by simp [c])]
        rfl
      rw [ee] at e2
      obtain ⟨w', n', f1, f2, f3⟩ := ih n (wt_uf s 111 w1) (by omega) (by omega) (by rw [wt_uf_at]; exact e2)
      refine ⟨w', n', ?_, f2, fun i hi => ?_⟩
      · rw [step, if_neg (by rw [c]; simp), e1, cl_some, f1, uf_uf]
      · rw [f3 i hi, wt_uf_at, e3 i hi]
    · obtain ⟨w', n', f1, f2, f3⟩ := ih n s (by omega) (by omega) (by
        rw [ed, List.filter_cons_of_pos (by simpa using c)]
        rw [et, List.append_assoc] at hP
        exact hP)
      refine ⟨w', n', ?_, f2, f3⟩
      rw [step, if_pos (fun e => c ((nI_inj32 (by omega) (by omega)).mp e))]
      exact f1
theorem q_givesAll_74 {s : wt_S} {t : Nat} (ht : t < 7) : gX11_givesAll_74 s (nI t) = some ((), wt_uf s 111 (mj_upd (mj_upd (mj_upd (mj_upd (mj_upd (mj_upd (s 111) (3989 + t) (-1)) (3996 + t) 0) (4066 + t) 0) (3954 + t) 0) (3961 + t) 0) (3975 + t) (-1))) := by
  unfold gX11_givesAll_74
  simp only [wr_eq]
  rw [li_add, ix_nI (by omega) (by omega), li_add, ix_nI (by omega) (by omega), li_add, ix_nI (by omega) (by omega), li_add, ix_nI (by omega) (by omega), li_add, ix_nI (by omega) (by omega), li_add, ix_nI (by omega) (by omega)]
  simp only [u_uf, uf_uf, wt_uf_at]
theorem vtt {c t : Nat} (h : 3926 ≤ c ∧ c ≤ 4066 ∧ (c - 3926) % 7 = 0) (ht : t < 6) : vtr (c + t) := by
  unfold vtr
  omega
theorem mj_upd_eq2 {f g : Nat → Int32} {i j : Nat} {v : Int32} (h : i = j ∨ f i = g i) : mj_upd f j v i = mj_upd g j v i := by
  by_cases e : i = j
  · subst e; rw [mj_upd_self, mj_upd_self]
  · rw [mj_upd_ne e, mj_upd_ne e]
    exact h.resolve_left e
theorem vga_1 {V : vV} {t : Nat} : (vga V t).1 = mj_upd (mj_upd (mj_upd (mj_upd (mj_upd (mj_upd (if V.1 (3989 + t) = -1 then V.1 else mj_upd V.1 (3923 + (V.1 (3989 + t)).toInt.toNat) (-1)) (3989 + t) (-1)) (3996 + t) 0) (4066 + t) 0) (3954 + t) 0) (3961 + t) 0) (3975 + t) (-1) := by
  unfold vga
  by_cases h : V.1 (3989 + t) = -1
  · simp only [if_pos h]; rfl
  · simp only [if_neg h]; rfl
theorem vga_2 {V : vV} {t : Nat} : (vga V t).2 = (V.2.1.filter (fun q => decide (q.2.2.1 ≠ t)), mj_upd V.2.2.1 t 0, V.2.2.2) := by
  unfold vga
  by_cases h : V.1 (3989 + t) = -1
  · simp only [if_pos h]; rfl
  · simp only [if_neg h]; rfl
theorem VM.ga {lim : Nat} {V : vV} {t : Nat} {mm : Nat → Int32} (hI : VJ lim V) (ht : t < 6) (h : VM mm V) (hs : V.1 (3989 + t) = -1 ∨ ∃ k, k < 3 ∧ V.1 (3989 + t) = nI k) : VM mm (vga V t) := by
  refine h.ps hI (fun i h1 h2 => ?_) (fun t' ht' => ?_)
  · rw [vga_1, mj_upd_ne (by omega), mj_upd_ne (by omega), mj_upd_ne (by omega), mj_upd_ne (by omega), mj_upd_ne (by omega), mj_upd_ne (by omega)]
    rcases hs with e | ⟨k, hk, e⟩
    · rw [if_pos e]
    · rw [if_neg (by rw [e]; exact nI_m1 (by omega)), mj_upd_ne (by omega)]
  · rw [vga_2]
    by_cases e : t' = t
    · subst e
      show mj_upd V.2.2.1 t' 0 t' ≤ _ ∧ ∀ i, i < mj_upd V.2.2.1 t' 0 t' → _
      rw [mj_upd_self]
      exact ⟨Nat.zero_le _, fun i hi => absurd hi (by omega)⟩
    · show mj_upd V.2.2.1 t 0 t' ≤ _ ∧ ∀ i, i < mj_upd V.2.2.1 t 0 t' → _
      rw [mj_upd_ne e]
      refine ⟨Nat.le_refl _, fun i hi => ⟨rfl, (vat_eq (vfind_filter (fun q _ hk => ?_))).1⟩⟩
      have : q.2.2.1 = t' := (by simpa [vkey] using hk : q.2.2.1 = t' ∧ _).1
      simp [this, e]
theorem q_ga {lim : Nat} {s : wt_S} {V : vV} {t : Nat} (hI : VJ lim V) (hl : lim = 2048) (h : RS s V) (ht : t < 6) (hs : V.1 (3989 + t) = -1 ∨ ∃ k, k < 3 ∧ V.1 (3989 + t) = nI k) : ∃ s', gX11_givesAll s (nI t) = some ((), s') ∧ RS s' (vga V t) ∧ RF s s' := by
  obtain ⟨w', n', e1, e2, e3⟩ := q_givesAll_loop (ps := V.2.1) ht h.2.2.1.2.1 (fun q hq => (hI.2.1.2 q hq).2.2.1) V.2.1.length wt_N s (Nat.le_refl _) (by have := h.2.2.1.2.1; unfold wt_N; omega) (by rw [List.take_length, List.drop_length]; simpa using h.2.2.1)
  have e0 : (s 111 2898) - 1 = nI V.2.1.length + (-1) := by rw [h.2.2.1.1, i_sub1]
  have hh : w' (3989 + t) = V.1 (3989 + t) := by rw [e3 _ (Or.inr (by omega)), h.2.at (vtt (c := 3989) (by omega) ht)]
  have fin : ∀ w2 : Nat → Int32, (∀ i, vtr i → w2 i = (if V.1 (3989 + t) = -1 then V.1 else mj_upd V.1 (3923 + (V.1 (3989 + t)).toInt.toNat) (-1)) i) → vr_P w2 (V.2.1.filter (fun q => decide (q.2.2.1 ≠ t))) → (∀ p, p < 2048 → w2 p = s 111 p) → RR (mj_upd (mj_upd (mj_upd (mj_upd (mj_upd (mj_upd w2 (3989 + t) (-1)) (3996 + t) 0) (4066 + t) 0) (3954 + t) 0) (3961 + t) 0) (3975 + t) (-1)) (vga V t) := by
    intro w2 g1 g2 g3
    refine h.2.mk' (fun i hi => ?_) ?_ (fun p hp => ?_) (fun mm hm => hm.ga hI ht hs)
    · rw [vga_1]
      refine mj_upd_eq2 (Or.inr (mj_upd_eq2 (Or.inr (mj_upd_eq2 (Or.inr (mj_upd_eq2 (Or.inr (mj_upd_eq2 (Or.inr (mj_upd_eq2 (Or.inr ?_)))))))))))
      exact g1 i hi
    · rw [vga_2]
      exact vr_P_upd (Or.inr (by omega)) (vr_P_upd (Or.inr (by omega)) (vr_P_upd (Or.inr (by omega)) (vr_P_upd (Or.inr (by omega)) (vr_P_upd (Or.inr (by omega)) (vr_P_upd (Or.inr (by omega)) g2)))))
    · rw [mj_upd_ne (by omega), mj_upd_ne (by omega), mj_upd_ne (by omega), mj_upd_ne (by omega), mj_upd_ne (by omega), mj_upd_ne (by omega)]
      exact g3 p hp
  unfold gX11_givesAll
  rw [e0, e1, gX11_givesAll_11, if_pos (by decide +kernel), li_add, ix_nI (by omega) (by omega), wt_uf_at, hh]
  rcases hs with c | ⟨k, hk, c⟩
  · rw [if_pos c, q_givesAll_74 (by omega), wt_uf_at, uf_uf]
    refine ⟨_, rfl, h.uf (fin w' (fun i hi => ?_) e2 (fun p hp => e3 p (Or.inl (by omega)))), RF.uf (Or.inl rfl)⟩
    rw [if_pos c, e3 i (vtr_out hi).1, h.2.at hi]
  · have cn : ¬ V.1 (3989 + t) = -1 := by rw [c]; exact nI_m1 (by omega)
    rw [if_neg cn, ix_nI (by omega) (by omega), hh, c, li_add, ix_nI (by omega) (by omega), wr_eq, u_uf, wt_uf_at, uf_uf, q_givesAll_74 (by omega), wt_uf_at, uf_uf]
    refine ⟨_, rfl, h.uf (fin _ (fun i hi => ?_) (vr_P_upd (Or.inr (by omega)) e2) (fun p hp => ?_)), RF.uf (Or.inl rfl)⟩
    · rw [if_neg cn, c, nI_int (by omega)]
      show mj_upd w' (3923 + k) (-1) i = mj_upd V.1 (3923 + k) (-1) i
      exact mj_upd_eq2 (Or.inr (by rw [e3 i (vtr_out hi).1, h.2.at hi]))
    · rw [mj_upd_ne (by omega)]
      exact e3 p (Or.inl (by omega))
