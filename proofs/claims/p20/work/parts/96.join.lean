section
/-! ===== JOINED ===== -/
def vjf (w : Nat → Int32) (fr : Nat → vF) (i : Nat) : vF := ((fr i).1, 0, vus w fr i, (fr i).2.2.2.1, (fr i).2.2.2.2.1, (fr i).2.2.2.2.2)
/-- the frames lie in one piece, the others have gone -/
def vj1 (V : vV) (t g words : Nat) : vV := (mj_upd V.1 (3982 + t) (nI (g + vus V.1 (V.2.2.2 t) (V.2.2.1 t - 1))), vins (g, words, t, 0) (V.2.1.filter (fun q => decide (q.2.2.1 ≠ t))), V.2.2.1, fun t' => if t' = t then vjf V.1 (V.2.2.2 t) else V.2.2.2 t')
def vj2 (V : vV) (t : Nat) : vV := vs (vs V (4066 + t) 1) (3933 + t) 0
def vj3 (V : vV) (t : Nat) : vV := vlg1 (vcn (vs V (4017 + t) (V.1 (4017 + t) + V.1 (3961 + t))) 5 (V.1 (3961 + t)))
def vjo (lim : Nat) (V : vV) (t : Nat) : Bool × vV :=
  let words := vdbl (vkp V t) 16 (V.1 2048).toInt.toNat
  match vgap lim 0 V.2.1 words with
  | none => (false, V)
  | some g => (true, vj3 (vj2 (vj1 V t g words) t) t)
theorem vus_jf {w : Nat → Int32} {fr : Nat → vF} {n : Nat} : vus w (vjf w fr) n = vus w fr n := vus_fn (fun _ _ => rfl)
theorem vdbl_gj {e : Nat} : ∀ {k n : Nat}, 1 ≤ n → e ≤ n * 2 ^ k → e ≤ vdbl e k n ∧ n ≤ vdbl e k n ∧ vdbl e k n ≤ max n (2 * e) := by
  intro k
  induction k with
  | zero => intro n h1 h2; unfold vdbl; rw [Nat.pow_zero, Nat.mul_one] at h2; omega
  | succ k ih =>
    intro n h1 h2
    unfold vdbl
    split
    · have := ih (n := n * 2) (by omega) (by rw [Nat.mul_assoc, show 2 * 2 ^ k = 2 ^ (k + 1) by rw [Nat.pow_succ]; omega]; exact h2)
      omega
    · omega
section
variable {s : wt_S} {V : vV} {t B g words np : Nat}
/-- the pieces of a task go -/
theorem q_join_167 {ps : List vP} {l2 l3 : Int32} (ht : t < 6) (hl : ps.length ≤ 256) (hb : ∀ q ∈ ps, q.2.2.1 < 6) : ∀ (k n : Nat) (s : wt_S), k ≤ ps.length → k < n → vr_P (s 111) (ps.take k ++ (ps.drop k).filter (fun q => decide (q.2.2.1 ≠ t))) → ∃ w' n', gX11_join_167 n s (nI t) l2 l3 (nI k + (-1)) = gX11_join_167 (n' + 1) (wt_uf s 111 w') (nI t) l2 l3 (-1) ∧ vr_P w' (ps.filter (fun q => decide (q.2.2.1 ≠ t))) ∧ ∀ q, vout q → w' q = s 111 q := by
  intro k
  induction k with
  | zero =>
    intro n s hk hn hP
    obtain ⟨n, rfl⟩ : ∃ m, n = m + 1 := ⟨n - 1, by omega⟩
    refine ⟨s 111, n, ?_, by simpa using hP, fun _ _ => rfl⟩
    rw [uf_self, show nI 0 + (-1) = -1 by decide +kernel]
  | succ k ih =>
    intro n s hk hn hP
    obtain ⟨n, rfl⟩ : ∃ m, n = m + 1 := ⟨n - 1, by omega⟩
    obtain ⟨q, hq⟩ : ∃ q, ps[k]? = some q := ⟨_, List.getElem?_eq_getElem (by omega)⟩
    have et : ps.take (k + 1) = ps.take k ++ [q] := by
      rw [List.take_add_one, hq]; rfl
    have ed : ps.drop k = q :: ps.drop (k + 1) := by
      rw [List.drop_eq_getElem_cons (by omega)]
      rw [List.getElem?_eq_getElem (by omega)] at hq
      rw [Option.some.inj hq]
    have hlk : (ps.take k).length = k := by rw [List.length_take]; omega
    have hr : vrow (s 111) k q := by
      refine hP.2.2 k q ?_
      rw [et, List.append_assoc, List.getElem?_append_right (by omega), hlk, Nat.sub_self]
      rfl
    have hqm := hb q (List.mem_of_getElem? hq)
    rw [nI_pred2]
    have step : ∀ X, gX11_join_167 (n + 1) s (nI t) l2 l3 (nI k) = X ↔ (if nI q.2.2.1 ≠ nI t then gX11_join_167 n s (nI t) l2 l3 (nI k + (-1)) else (wt_cl (gX11_gives s (nI k)) fun _ s6 => gX11_join_167 n s6 (nI t) l2 l3 (nI k + (-1)))) = X := by
      intro X
      rw [gX11_join_167, nI_int (by omega), if_neg (by show ¬ (k : Int) < 0; omega), li_add, ix_nI (by omega) (by omega), hr.2.2.1]
    by_cases c : q.2.2.1 = t
    · obtain ⟨w1, e1, e2, e3⟩ := q_gives (k0 := k) hP (by
        rw [List.length_append, et, List.length_append, hlk]
        show k < k + 1 + _
        omega)
      have ee : (ps.take (k + 1) ++ (ps.drop (k + 1)).filter (fun q => decide (q.2.2.1 ≠ t))).eraseIdx k = ps.take k ++ (ps.drop k).filter (fun q => decide (q.2.2.1 ≠ t)) := by
        rw [et, ed, List.append_assoc, List.eraseIdx_append_of_length_le (by omega), hlk, Nat.sub_self, List.filter_cons_of_neg (by simp [c])]
        rfl
      rw [ee] at e2
      obtain ⟨w', n', f1, f2, f3⟩ := ih n (wt_uf s 111 w1) (by omega) (by omega) (by rw [wt_uf_at]; exact e2)
      refine ⟨w', n', ?_, f2, fun i hi => ?_⟩
      · rw [step, if_neg (by rw [c]; simp), e1, cl_some, f1, uf_uf]
      · rw [f3 i hi, wt_uf_at, e3 i hi]
    · obtain ⟨w', n', f1, f2, f3⟩ := ih n s (by omega) (by omega) (by
        rw [ed, List.filter_cons_of_pos (by simpa using c)]
        rw [et, List.append_assoc] at hP
        exact hP)
      refine ⟨w', n', ?_, f2, f3⟩
      rw [step, if_pos (fun e => c ((nI_inj32 (by omega) (by omega)).mp e))]
      exact f1
/-- the parts are written down -/
theorem q_join_80 {l2 l3 : Int32} (h : RS s V) (hI : VI 2048 B V) (ht : t < 6) (hb : vbz V.1 t) (hc : Ico V t np) : ∀ (m k fu : Nat) (s1 : wt_S), k + m = np → m < fu → RF s s1 → s1 111 = s 111 → PT s1 (vjp V t g k) → ∃ s2 fu', gX11_join_80 fu s1 (nI t) l2 l3 (nI (g + vsum (fun j => vud V.1 (V.2.2.2 t) j (V.2.2.1 t)) k)) (nI k) = gX11_join_80 (fu' + 1) s2 (nI t) l2 l3 (nI (g + vsum (fun j => vud V.1 (V.2.2.2 t) j (V.2.2.1 t)) np)) (nI np) ∧ RF s s2 ∧ s2 111 = s 111 ∧ PT s2 (vjp V t g np) := by
  have hnp := hc.2.2.1
  intro m
  induction m with
  | zero =>
    intro k fu s1 hk hfu g1 g2 g3
    obtain ⟨fu, rfl⟩ : ∃ m, fu = m + 1 := ⟨fu - 1, by omega⟩
    have : k = np := by omega
    subst this
    exact ⟨s1, fu, rfl, g1, g2, g3⟩
  | succ m ih =>
    intro k fu s1 hk hfu g1 g2 g3
    obtain ⟨fu, rfl⟩ : ∃ m, fu = m + 1 := ⟨fu - 1, by omega⟩
    have h1 : RS s1 V := h.of g1 g2
    obtain ⟨x, q, e1, e2, e3, e4, e5, e6, e7, e8⟩ := vfi_some (hc.2.2.2.1.1 k (by omega))
    have hl := h.2.2.1.2.1
    have hus := q_usedIn (m := k) h1 hI ht hb hc.2.1 (by omega) e2 e5 e6 (by omega)
    obtain ⟨s2, p1, p2, p3, p4⟩ := q_part (a := q.1) (b := vud V.1 (V.2.2.2 t) k (V.2.2.1 t)) (c := g + vsum (fun j => vud V.1 (V.2.2.2 t) j (V.2.2.1 t)) k) g3 (by rw [vjp_len]; omega)
    have hpt : vjp V t g k ++ [(q.1, vud V.1 (V.2.2.2 t) k (V.2.2.1 t), g + vsum (fun j => vud V.1 (V.2.2.2 t) j (V.2.2.1 t)) k)] = vjp V t g (k + 1) := by rw [vjp_s, e7]
    rw [hpt] at p2
    have h16 : s2 116 k = nI (vud V.1 (V.2.2.2 t) k (V.2.2.1 t)) := (p2.2.2 k (q.1, vud V.1 (V.2.2.2 t) k (V.2.2.1 t), g + vsum (fun j => vud V.1 (V.2.2.2 t) j (V.2.2.1 t)) k) (by
      rw [← hpt, List.getElem?_append_right (by rw [vjp_len]; omega), vjp_len, Nat.sub_self]
      rfl)).2.1
    obtain ⟨s3, fu', f1, f2⟩ := ih (k + 1) fu s2 (by omega) (by omega) (g1.trans p4) (p3.trans g2) p2
    refine ⟨s3, fu', ?_, f2⟩
    rw [gX11_join_80, li_add, ix_nI (by omega) (by omega), h1.tk (c := 4066) (by omega) ht, hc.2.1, nI_int (by omega), nI_int (by omega), if_neg (by omega), q_pieceOf h1.2.2.1 hI.J.2.1 ht (by omega), cl_some, e1, oI_some, li_add, ix_nI (by omega) (by omega), (h1.2.2.1.2.2 x q e2).1, hus, cl_some, p1, cl_some, ix_nI (by omega) (by omega), h16, nI_add, nI_1, Nat.add_assoc, show vsum (fun j => vud V.1 (V.2.2.2 t) j (V.2.2.1 t)) k + vud V.1 (V.2.2.2 t) k (V.2.2.1 t) = vsum (fun j => vud V.1 (V.2.2.2 t) j (V.2.2.1 t)) (k + 1) from rfl]
    exact f1
/-- carried, turned, pieces given back and taken: the row holds it -/
theorem q_join_c (h : RS s V) (hI : VI 2048 B V) (ht : t < 6) (hc : Ico V t np) (h0 : 0 < V.2.2.1 t) (hg : g + words ≤ 2048 ∧ ∀ q ∈ V.2.1, g + words ≤ q.1 ∨ q.1 + q.2.1 ≤ g) (hu : vus V.1 (V.2.2.2 t) (V.2.2.1 t) ≤ words) (hF : PT s (vjp V t g np)) : ∃ w2, (∃ w1, gX11_carries s = some ((), wt_uf s 111 w1) ∧ gX11_turns (wt_uf s 111 w1) (nI t) = some ((), wt_uf s 111 w2)) ∧ (∀ x, 2048 ≤ x → x ≠ 3982 + t → w2 x = s 111 x) ∧ w2 (3982 + t) = nI (g + vus V.1 (V.2.2.2 t) (V.2.2.1 t - 1)) ∧ (∀ x, x < 2048 → (x < g ∨ g + vus V.1 (V.2.2.2 t) (V.2.2.1 t) ≤ x) → w2 x = s 111 x) ∧ vMQ w2 V.1 (V.2.2.1 t) (V.2.2.2 t) (fun i => g + vus V.1 (V.2.2.2 t) i) (fun i => g + vus V.1 (V.2.2.2 t) i) := by
  have hj := hI.J
  have hN := hI.n ht
  obtain ⟨d1, d2, d3, d4, d5⟩ := hc.2.2.2.2.2.2.1 h0
  obtain ⟨k1, k2, k3, k4⟩ := vjp_ok hj ht hc h0 hg hu
  obtain ⟨w1, c1, c2, c3⟩ := q_carries hF k1
  have c3' : ∀ x, (x < g ∨ g + vus V.1 (V.2.2.2 t) (V.2.2.1 t) ≤ x) → w1 x = s 111 x := fun x hx => c3 x (fun q hq => by obtain ⟨-, -, -, a1, a2⟩ := k3 q hq; omega)
  have hof : ∀ i, i < V.2.2.1 t → vus V.1 (V.2.2.2 t) i + vwd V.1 (V.2.2.2 t i).1 ≤ vus V.1 (V.2.2.2 t) (V.2.2.1 t) := fun i hi => vus_lt hi
  have hM : MR (s 111) V.1 (V.2.2.1 t) (V.2.2.2 t) (vpl V t) := fun i hi => ⟨(hj.fit ht hi).1, h.wd hj rfl ht hi⟩
  have hMQ : vMQ w1 V.1 (V.2.2.1 t) (V.2.2.2 t) (fun i => g + vus V.1 (V.2.2.2 t) i) (vpl V t) := c_mq c2 hM k4
  have hGO : GO (wt_uf s 111 w1) V.1 (V.2.2.1 t) (V.2.2.2 t) (vpl V t) (fun i => g + vus V.1 (V.2.2.2 t) i) := c_go hF.uf (fun q hq => ⟨(k3 q hq).1, (k3 q hq).2.1, (k3 q hq).2.2.1⟩) k2 (fun i hi => ⟨(hj.fit ht hi).2.2, k4 i hi⟩)
  have hTH : TH V.1 (V.2.2.1 t) (V.2.2.2 t) (fun i => g + vus V.1 (V.2.2.2 t) i) (vpl V t) (fun i => g + vus V.1 (V.2.2.2 t) i) 2048 := by
    refine ⟨hj.1, fun i hi => ⟨(d3.1 i hi).1, ?_⟩, fun i j hi hj2 hne => ?_, fun i hi k hk hb q hq => ?_, fun i hi => ?_, fun i hi => (hj.fit ht hi).2.2⟩
    · have := hof i hi
      show g + vus V.1 (V.2.2.2 t) i + _ ≤ 2048
      omega
    · show g + vus V.1 (V.2.2.2 t) i + _ ≤ g + vus V.1 (V.2.2.2 t) j ∨ g + vus V.1 (V.2.2.2 t) j + _ ≤ g + vus V.1 (V.2.2.2 t) i
      rcases Nat.lt_or_gt_of_ne hne with c | c
      · have := vus_lt (w := V.1) (fr := V.2.2.2 t) c
        omega
      · have := vus_lt (w := V.1) (fr := V.2.2.2 t) c
        omega
    · obtain ⟨a1, a2, -⟩ := d3.2.2.2.2.2 i hi k hk hb q hq
      exact ⟨a1, a2⟩
    · obtain ⟨b1, b2, -⟩ := d3.2.2.1 i hi
      exact ⟨b1, b2⟩
  obtain ⟨w2, t1, t2, t3, t4, t5⟩ := q_turns (s := wt_uf s 111 w1) hTH hGO ht ⟨h0, by omega⟩ (by rw [wt_uf_at, c3' _ (by omega), h.tk (c := 3954) (by omega) ht]; exact hc.1) (by rw [wt_uf_at, c3' _ (by omega), h.tk (c := 3982) (by omega) ht]; exact d4) (by rw [wt_uf_at, c3' _ (by omega), h.tk (c := 3975) (by omega) ht]; exact d5)
    (fun f hf => by rw [wt_uf_at, c3' _ (by omega), c3' _ (by omega), h.pr (by omega), h.pr (by omega)]; exact ⟨rfl, rfl⟩) (by rw [wt_uf_at]; exact hMQ)
  rw [wt_uf_at] at t4 t5
  refine ⟨w2, ⟨w1, c1, by rw [t1, uf_uf]⟩, fun x hx hx2 => by rw [t4 x hx hx2, c3' x (by omega)], t3, fun x hx hx2 => ?_, t2⟩
  rw [t5 x hx (fun j hj2 => by have := hof j hj2; show x < g + vus V.1 (V.2.2.2 t) j ∨ g + vus V.1 (V.2.2.2 t) j + _ ≤ x; omega), c3' x hx2]
end
end
section
/-! ===== JOINED: what is behind it ===== -/
section
variable {s : wt_S} {V : vV} {t B g words np lim : Nat}
theorem vj1_at {lim : Nat} (ho : vo lim V.2.1) : vat (vj1 V t g words).2.1 t 0 = g ∧ vln (vj1 V t g words).2.1 t 0 = words ∧ ∀ t' n, t' ≠ t → (vj1 V t g words).2.1.find? (vkey t' n) = V.2.1.find? (vkey t' n) := by
  have hno : ∀ p ∈ V.2.1.filter (fun q => decide (q.2.2.1 ≠ t)), vkey t 0 p = false := fun p hp => by
    have := (List.mem_filter.mp hp).2
    have h2 : p.2.2.1 ≠ t := by simpa using this
    simp [vkey, h2]
  have hf : (vj1 V t g words).2.1.find? (vkey t 0) = some (g, words, t, 0) := vfind_ins_eq (by simp [vkey]) hno
  refine ⟨?_, ?_, fun t' n hne => ?_⟩
  · unfold vat; rw [hf]
  · unfold vln; rw [hf]
  · show (vins (g, words, t, 0) (V.2.1.filter (fun q => decide (q.2.2.1 ≠ t)))).find? (vkey t' n) = _
    rw [vfind_ins_ne (by simp [vkey]; omega)]
    refine vfind_filter (fun q _ hk => ?_)
    have hk : q.2.2.1 = t' ∧ q.2.2.2 = n := by simpa [vkey] using hk
    simp
    omega
theorem vj1_pl {lim : Nat} (ho : vo lim V.2.1) : vpl (vj1 V t g words) t = fun i => g + vus V.1 (V.2.2.2 t) i := by
  funext i
  have hfr : (vj1 V t g words).2.2.2 t = vjf V.1 (V.2.2.2 t) := if_pos rfl
  unfold vpl
  rw [hfr]
  show vat (vj1 V t g words).2.1 t 0 + _ = _
  rw [(vj1_at ho).1]
  rfl
theorem j_rr {w2 w4 : Nat → Int32} (h : RS s V) (hI : VI 2048 B V) (ht : t < 6) (hg : g + words ≤ 2048 ∧ ∀ q ∈ V.2.1, g + words ≤ q.1 ∨ q.1 + q.2.1 ≤ g) (hu : vus V.1 (V.2.2.2 t) (V.2.2.1 t) ≤ words) (d2 : ∀ x, 2048 ≤ x → x ≠ 3982 + t → w2 x = s 111 x) (d3 : w2 (3982 + t) = nI (g + vus V.1 (V.2.2.2 t) (V.2.2.1 t - 1))) (d4 : ∀ x, x < 2048 → (x < g ∨ g + vus V.1 (V.2.2.2 t) (V.2.2.1 t) ≤ x) → w2 x = s 111 x) (d5 : vMQ w2 V.1 (V.2.2.1 t) (V.2.2.2 t) (fun i => g + vus V.1 (V.2.2.2 t) i) (fun i => g + vus V.1 (V.2.2.2 t) i)) (h4 : ∀ i, vout i → w4 i = w2 i) (hP : vr_P w4 (vins (g, words, t, 0) (V.2.1.filter (fun q => decide (q.2.2.1 ≠ t))))) : RR w4 (vj1 V t g words) := by
  have hj := hI.J
  refine ⟨fun i hi => ?_, hP, w4, fun _ _ => rfl, fun t' ht' => ?_⟩
  · have ho := vtr_out hi
    show _ = mj_upd V.1 (3982 + t) _ i
    rw [h4 i ho.1]
    by_cases ei : i = 3982 + t
    · subst ei; rw [mj_upd_self]; exact d3
    · rw [mj_upd_ne ei, d2 i ho.2 ei, h.2.at hi]
  · refine MR_w (w := V.1) (fun i h1 h2 => mj_upd_ne (by omega)) ?_
    by_cases et : t' = t
    · subst et
      rw [vj1_pl hj.2.1]
      have hfr : (vj1 V t' g words).2.2.2 t' = vjf V.1 (V.2.2.2 t') := if_pos rfl
      rw [hfr]
      intro i hi
      have hi : i < V.2.2.1 t' := hi
      obtain ⟨m1, m2, m3⟩ := d5 i hi
      have hof := vus_lt (w := V.1) (fr := V.2.2.2 t') hi
      unfold vwd at hof
      refine ⟨(hj.fit ht' hi).1, ?_, ?_, fun k hk => ?_⟩
      · show w4 (g + vus V.1 (V.2.2.2 t') i) = _
        rw [h4 _ (Or.inl (by omega))]; exact m1
      · show w4 (g + vus V.1 (V.2.2.2 t') i + 1) = _
        rw [h4 _ (Or.inl (by omega))]; exact m2
      · have hk : k < vsz V.1 (V.2.2.2 t' i).1 := hk
        show w4 (g + vus V.1 (V.2.2.2 t') i + 2 + k) = _
        rw [h4 _ (Or.inl (by omega))]; exact m3 k hk
    · have hfr : (vj1 V t g words).2.2.2 t' = V.2.2.2 t' := if_neg et
      rw [hfr]
      have hM2 : MR w4 V.1 (V.2.2.1 t') (V.2.2.2 t') (vpl V t') := fun i hi => by
        obtain ⟨m1, m2, m3⟩ := h.wd hj rfl ht' hi
        obtain ⟨np, a1, a2, -⟩ := hj.geo ht' (by omega)
        obtain ⟨p, b1, b2, b3, b4, b5⟩ := a2.pc a1 hi
        have hgp := hg.2 p b1
        have hpp := hj.2.1.2 p b1
        have hvp : vpl V t' i = p.1 + (V.2.2.2 t' i).2.2.1 := by unfold vpl; rw [b4]
        unfold vwd at b5
        refine ⟨(hj.fit ht' hi).1, ?_, ?_, fun k hk => ?_⟩
        · rw [h4 _ (Or.inl (by omega)), d4 _ (by omega) (by omega)]; exact m1
        · rw [h4 _ (Or.inl (by omega)), d4 _ (by omega) (by omega)]; exact m2
        · rw [h4 _ (Or.inl (by omega)), d4 _ (by omega) (by omega)]; exact m3 k hk
      have hpl : vpl (vj1 V t g words) t' = vpl V t' := by
        funext i
        unfold vpl
        rw [hfr, (vat_eq ((vj1_at hj.2.1).2.2 t' _ et)).1]
      rw [hpl]
      exact hM2
theorem vos_jf {w : Nat → Int32} {fr : Nat → vF} : ∀ {n : Nat}, vos w (vjf w fr) n = vos w fr n := by
  intro n
  induction n with
  | zero => rfl
  | succ n ih => rw [vos_1, vos_1, ih]; rfl
theorem vj3_ne {i : Nat} (h1 : i ≠ 4017 + t) (h2 : i ≠ 2059) (h3 : i ≠ 2067) : (vj3 V t).1 i = V.1 i := (vlg1_ne h3).trans ((vcn_ne (by omega)).trans (vs_ne h1))
theorem vj2_ne {i : Nat} (h1 : i ≠ 4066 + t) (h2 : i ≠ 3933 + t) : (vj2 V t).1 i = V.1 i := (vs_ne h2).trans (vs_ne h1)
theorem OT.j1 (ht : t < 6) (ho : vo lim V.2.1) : OT t V (vj1 V t g words) := by
  refine ⟨vpe.upd (by omega), fun i h1 h2 => mj_upd_ne (by omega), fun t' ht' hne => ⟨fun j hj => mj_upd_ne (by omega), rfl, if_neg hne⟩, fun q hq => ?_, (vj1_at ho).2.2, fun k hk t' ht' hne => by rw [show (vj1 V t g words).1 (3923 + k) = V.1 (3923 + k) from mj_upd_ne (by omega)]⟩
  show q ∈ vins (g, words, t, 0) (V.2.1.filter (fun q => decide (q.2.2.1 ≠ t))) ↔ _
  rw [vins_mem, List.mem_filter]
  constructor
  · intro h
    rcases h with e | e
    · exact absurd (by rw [e]) hq
    · exact e.1
  · intro h
    exact Or.inr ⟨h, by simpa using hq⟩
theorem vi_jo (hI : VI lim B V) (ht : t < 6) (hb : vbz V.1 t) (hlm : lim ≤ 10000) : VI lim (B + 1) (vjo lim V t).2 := by
  obtain ⟨np, z, z2, z3, k, l, hP, h0, -, ⟨r1, r2, r3⟩, -, ⟨k1, k2⟩, -, -, -, -⟩ := hI.opn ht hb hlm
  obtain ⟨hj, hc, -, hz, h8, hzl, -, hl2, hq⟩ := hP
  have hzz : (V.1 2048).toInt.toNat = z := by rw [hz, nI_int (by omega)]; rfl
  obtain ⟨d1, d2, d3, d4, d5⟩ := hc.2.2.2.2.2.2.1 h0
  obtain ⟨-, n, np', c1, c2, c3, c4, c5, c6, c7, c8, c9, c10, c11, c12, c13, c14, c15, c16, c17⟩ := hI.bz ht h0
  have hN := hc.n hj hlm
  have huse : vuse V t = vus V.1 (V.2.2.2 t) (V.2.2.1 t) := by unfold vuse; rw [hc.2.2.2.2.2.1, nI_int (by omega)]; rfl
  have hkp : vkp V t = vus V.1 (V.2.2.2 t) (V.2.2.1 t) + if vlc V t then z2 else 0 := by
    unfold vkp
    rw [huse, r1, nI_int (by omega)]
    rfl
  have hkb : vkp V t ≤ 10080 := by rw [hkp]; split <;> omega
  obtain ⟨w1, w2, w3⟩ := vdbl_gj (e := vkp V t) (k := 16) (n := z) (by omega) (by omega)
  unfold vjo
  dsimp only
  rw [hzz]
  generalize hW : vdbl (vkp V t) 16 z = words at *
  cases e : vgap lim 0 V.2.1 words with
  | none => exact hI.mono (by omega)
  | some g =>
    obtain ⟨g1, g2⟩ := vgap0 hj.2.1 e
    have hvs : vus V.1 (V.2.2.2 t) (V.2.2.1 t) ≤ words := by rw [hkp] at w1; omega
    have hO1 : OT t V (vj1 V t g words) := OT.j1 ht hj.2.1
    have hO2 : OT t (vj1 V t g words) (vj2 (vj1 V t g words) t) := OT.trans (OT.vs ht (vown_t (c := 4066) (by omega))) (OT.vs ht (vown_t (c := 3933) (by omega)))
    have hO3 : OT t (vj2 (vj1 V t g words) t) (vj3 (vj2 (vj1 V t g words) t) t) := OT.trans (OT.trans (OT.vs ht (vown_t (c := 4017) (by omega))) (OT.cn ht (by omega))) (OT.lg ht)
    have hO := hO1.trans (hO2.trans hO3)
    obtain ⟨a1, a2, a3⟩ := vj1_at (t := t) (g := g) (words := words) hj.2.1
    have hne : ∀ i, i ≠ 3982 + t → i ≠ 4066 + t → i ≠ 3933 + t → i ≠ 4017 + t → i ≠ 2059 → i ≠ 2067 → (vj3 (vj2 (vj1 V t g words) t) t).1 i = V.1 i := fun i q1 q2 q3 q4 q5 q6 => (vj3_ne q4 q5 q6).trans ((vj2_ne q2 q3).trans (mj_upd_ne q1))
    have hps : (vj3 (vj2 (vj1 V t g words) t) t).2.1 = (vj1 V t g words).2.1 := rfl
    have hnn : (vj3 (vj2 (vj1 V t g words) t) t).2.2.1 = V.2.2.1 := rfl
    have hfr : (vj3 (vj2 (vj1 V t g words) t) t).2.2.2 t = vjf V.1 (V.2.2.2 t) := if_pos rfl
    have hplf : ∀ i, vpl (vj3 (vj2 (vj1 V t g words) t) t) t i = g + vus V.1 (V.2.2.2 t) i := fun i => congrFun (vj1_pl hj.2.1) i
    have h66 : (vj3 (vj2 (vj1 V t g words) t) t).1 (4066 + t) = nI 1 := (vj3_ne (by omega) (by omega) (by omega)).trans ((vs_ne (by omega)).trans vs_at)
    have h33 : (vj3 (vj2 (vj1 V t g words) t) t).1 (3933 + t) = 0 := (vj3_ne (by omega) (by omega) (by omega)).trans vs_at
    have h82 : (vj3 (vj2 (vj1 V t g words) t) t).1 (3982 + t) = nI (g + vus V.1 (V.2.2.2 t) (V.2.2.1 t - 1)) := (vj3_ne (by omega) (by omega) (by omega)).trans ((vj2_ne (by omega) (by omega)).trans mj_upd_self)
    have h67 : (vj3 (vj2 (vj1 V t g words) t) t).1 2067 = nI (k + 1) := by
      show (vlg1 _).1 2067 = _
      rw [vlg1_at, vcn_ne (by omega), vs_ne (by omega), vj2_ne (by omega) (by omega), show (vj1 V t g words).1 2067 = V.1 2067 from mj_upd_ne (by omega), k1, nI_1]
    show VI lim (B + 1) (vj3 (vj2 (vj1 V t g words) t) t)
    generalize vj3 (vj2 (vj1 V t g words) t) t = V5 at *
    have hw := hO.1
    have hmem : ∀ q, q ∈ (vj1 V t g words).2.1 ↔ q = (g, words, t, 0) ∨ (q ∈ V.2.1 ∧ q.2.2.1 ≠ t) := fun q => by
      show q ∈ vins _ _ ↔ _
      rw [vins_mem, List.mem_filter]
      simp
    have hff : ∀ i, i < n + 1 → (V.2.2.2 t i).1 < 10 := fun i hi => (c9.1 i hi).1
    have hvus : ∀ m, m ≤ n + 1 → vus V5.1 (vjf V.1 (V.2.2.2 t)) m = vus V.1 (V.2.2.2 t) m := fun m hm => by
      rw [(hw.us (k := 0) (fr := vjf V.1 (V.2.2.2 t)) (n := m) (fun i hi => hff i (by omega))).1, vus_jf]
    have hvos : vos V5.1 (vjf V.1 (V.2.2.2 t)) (n + 1) = vos V.1 (V.2.2.2 t) (n + 1) := by
      have h1 : vos V5.1 (vjf V.1 (V.2.2.2 t)) (n + 1) = vos V5.1 (V.2.2.2 t) (n + 1) := by
        have : ∀ m, vos V5.1 (vjf V.1 (V.2.2.2 t)) m = vos V5.1 (V.2.2.2 t) m := by
          intro m
          induction m with
          | zero => rfl
          | succ m ih => rw [vos_1, vos_1, ih]; rfl
        exact this _
      rw [h1]
      exact vos_w hw hI.2.1 c9 _ (Nat.le_refl _)
    have hn1 : V.2.2.1 t - 1 = n := by omega
    have hcov : ∀ i, i < n + 1 → vcv (V.2.2.2 t i) → vus V.1 (V.2.2.2 t) (n + 1) + z2 ≤ words := fun i hi hcv => by
      have hl : vcv (V.2.2.2 t n) := c9.cov (i := i) (j := n) (by omega) (by omega) hcv
      have : vlc V t = true := by
        unfold vlc
        rw [hn1]
        simp
        exact ⟨by omega, hl⟩
      rw [hkp, this, c1] at w1
      simpa using w1
    rw [c1] at hvs
    refine hI.ot hO ht ⟨?_, ?_, fun q hq2 => ?_⟩ (isd_ot hI.2.2.2.1 hO (fun i hi => hne i (by omega) (by omega) (by omega) (by omega) (by omega) (by omega))) ⟨k + 1, by omega, h67⟩ (Or.inl ⟨?_, n, 1, ?_, ?_, h66, by omega, ?_, ?_, ?_, ?_, ?_, ?_, ?_, ?_, ?_, ?_, ?_, ?_, ?_⟩)
    · rw [hps]
      exact vo_ins (vo_sub hj.2.1 List.filter_sublist) ⟨by show 1 ≤ words; omega, g1, ht, by show 0 < 4294967296; omega⟩ (fun p hp => g2 p (List.mem_filter.mp hp).1)
    · rw [hps]
      exact vkeys_pw (fun p q h e => h ⟨e.1.symm, e.2.symm⟩) (hj.2.2.1.sublist List.filter_sublist) (fun p hp e => by
        have := (List.mem_filter.mp hp).2
        have h2 : p.2.2.1 ≠ t := by simpa using this
        exact h2 e.1.symm)
    · rw [hps] at hq2
      rw [hzz]
      rcases (hmem q).mp hq2 with e | e
      · rw [e]; exact w2
      · exact hq q e.1
    · unfold vbz at hb ⊢
      rw [hne _ (by omega) (by omega) (by omega) (by omega) (by omega) (by omega)]
      exact hb
    · rw [hnn]; exact c1
    · rw [hne _ (by omega) (by omega) (by omega) (by omega) (by omega) (by omega)]; exact c2
    · rw [hps]
      refine ⟨fun k hk => ⟨(g, words, t, 0), (hmem _).mpr (Or.inl rfl), rfl, by show 0 = k; omega⟩, fun q hq2 e => ?_⟩
      rcases (hmem q).mp hq2 with e2 | e2
      · rw [e2]; exact Or.inl (by show 0 < 1; omega)
      · exact absurd e e2.2
    · rw [h33, hps]
      refine Or.inl ⟨rfl, rfl, fun q hq2 e => ?_⟩
      rcases (hmem q).mp hq2 with e2 | e2
      · rw [e2] at e; exact absurd e.2 (by show ¬ 0 = 1000; omega)
      · exact e2.2 e.1
    · rw [hfr, hps]
      refine ⟨fun i hi => ⟨by show 0 < 1; omega, ?_⟩, ⟨rfl, by show 0 ≤ 1; omega⟩, fun i hi => Or.inl ⟨rfl, ?_⟩⟩
      · show vus V.1 (V.2.2.2 t) i + vwd V5.1 (V.2.2.2 t i).1 ≤ vln (vj1 V t g words).2.1 t 0
        have := vus_lt (w := V.1) (fr := V.2.2.2 t) hi
        rw [a2, (hw.sz (hff i hi)).2.1]
        omega
      · show vus V.1 (V.2.2.2 t) (i + 1) = vus V.1 (V.2.2.2 t) i + vwd V5.1 (V.2.2.2 t i).1
        rw [(hw.sz (hff i (by omega))).2.1]
        rfl
    · rw [hfr]; rfl
    · rw [hfr, hps]
      have hbase : Ifr V.1 (vj1 V t g words).2.1 t (n + 1) (vjf V.1 (V.2.2.2 t)) := by
        refine ⟨c9.1, c9.2.1, c9.2.2.1, c9.2.2.2.1, fun i hi hcv => ?_, c9.2.2.2.2.2⟩
        obtain ⟨d, e1, e2, e3⟩ := c9.2.2.2.2.1 i hi hcv
        refine ⟨d, e1, e2, ?_⟩
        show vus V.1 (V.2.2.2 t) i + d ≤ vln (vj1 V t g words).2.1 t 0
        have h1 := hcov i hi hcv
        have h2 := vus_lt (w := V.1) (fr := V.2.2.2 t) hi
        rw [r1, nI_int (by omega)] at e2
        rw [a2]
        have e2 : d ≤ z2 := e2
        omega
      exact hbase.ww hw hI.2.1
    · rw [hfr, hvus _ (Nat.le_refl _), hne _ (by omega) (by omega) (by omega) (by omega) (by omega) (by omega)]; exact c10
    · rw [h82, hplf, hn1]
    · rw [hne _ (by omega) (by omega) (by omega) (by omega) (by omega) (by omega), hfr]; exact c12
    · rw [hne _ (by omega) (by omega) (by omega) (by omega) (by omega) (by omega)]; exact c13
    · rw [hfr, hvos, hne _ (by omega) (by omega) (by omega) (by omega) (by omega) (by omega)]; exact c14
    · rw [hfr, hvos]; exact c15
    · rw [hfr, hvos, hne _ (by omega) (by omega) (by omega) (by omega) (by omega) (by omega)]
      rcases c16 with c16 | ⟨k, k1, k2, k3, k4⟩
      · exact Or.inl c16
      · exact Or.inr ⟨k, k1, k2, (hne _ (by omega) (by omega) (by omega) (by omega) (by omega) (by omega)).trans k3, k4⟩
    · rw [hne _ (by omega) (by omega) (by omega) (by omega) (by omega) (by omega)]
      exact hw.tl.mpr c17
theorem vjo_0 (hW : vdbl (vkp V t) 16 (V.1 2048).toInt.toNat = words) (e : vgap lim 0 V.2.1 words = none) : vjo lim V t = (false, V) := by
  unfold vjo
  dsimp only
  rw [hW, e]
theorem vjo_1 (hW : vdbl (vkp V t) 16 (V.1 2048).toInt.toNat = words) (e : vgap lim 0 V.2.1 words = some g) : vjo lim V t = (true, vj3 (vj2 (vj1 V t g words) t) t) := by
  unfold vjo
  dsimp only
  rw [hW, e]
/-- JOINED, as it is asked for -/
def vjoin (V : vV) (x : Int32) : Int32 × vV := if (0 ≤ x.toInt ∧ x.toInt ≤ 5) ∧ vby V x.toInt.toNat = true ∧ V.1 (3933 + x.toInt.toNat) = 1 then (rb ((vjo 2048 V x.toInt.toNat).1 = true), (vjo 2048 V x.toInt.toNat).2) else (0, V)
theorem q_jo {np z z2 k : Nat} (h : RS s V) (hI : VI 2048 B V) (ht : t < 6) (hb : vbz V.1 t) (hP : Vpre 2048 V t np z) (h0 : 0 < V.2.2.1 t) (hr : V.1 2051 = nI z2) (hz2 : z2 ≤ 80) (hk : V.1 2067 = nI k) (hk2 : k < 2147483000) : ∃ s', gX11_join_40 wt_N s (nI t) (nI z) = some (rb ((vjo 2048 V t).1 = true), s') ∧ RS s' (vjo 2048 V t).2 ∧ RF s s' := by
  obtain ⟨hj, hc, -, hz, h8, hzl, -, hl2, hq⟩ := hP
  have hzz : (V.1 2048).toInt.toNat = z := by rw [hz, nI_int (by omega)]; rfl
  obtain ⟨hkept, hkb⟩ := q_keptOf h hj hc ht hr hz2
  have hN := hc.n hj (by omega)
  have hnp := hc.2.2.1
  have huse : vuse V t = vus V.1 (V.2.2.2 t) (V.2.2.1 t) := by unfold vuse; rw [hc.2.2.2.2.2.1, nI_int (by omega)]; rfl
  have hku : vus V.1 (V.2.2.2 t) (V.2.2.1 t) ≤ vkp V t := by unfold vkp; rw [huse]; omega
  obtain ⟨w1, w2, w3⟩ := vdbl_gj (e := vkp V t) (k := 16) (n := z) (by omega) (by omega)
  -- doubled as often as need be
  have hdb : ∀ (m n fu : Nat), n ≤ 100000 → m < fu → vkp V t ≤ n * 2 ^ m → 1 ≤ n → ∃ fu', gX11_join_40 fu s (nI t) (nI n) = gX11_join_40 (fu' + 1) s (nI t) (nI (vdbl (vkp V t) m n)) ∧ vkp V t ≤ vdbl (vkp V t) m n := by
    intro m
    induction m with
    | zero =>
      intro n fu hn hfu hm h1
      obtain ⟨fu, rfl⟩ : ∃ m, fu = m + 1 := ⟨fu - 1, by omega⟩
      rw [Nat.pow_zero, Nat.mul_one] at hm
      exact ⟨fu, rfl, hm⟩
    | succ m ih =>
      intro n fu hn hfu hm h1
      obtain ⟨fu, rfl⟩ : ∃ m, fu = m + 1 := ⟨fu - 1, by omega⟩
      by_cases c : n < vkp V t
      · obtain ⟨fu', e1, e2⟩ := ih (n * 2) fu (by omega) (by omega) (by rw [Nat.mul_assoc, show 2 * 2 ^ m = 2 ^ (m + 1) by rw [Nat.pow_succ]; omega]; exact hm) (by omega)
        have ev : vdbl (vkp V t) (m + 1) n = vdbl (vkp V t) m (n * 2) := by rw [vdbl, if_pos c]
        refine ⟨fu', ?_, by rw [ev]; exact e2⟩
        rw [ev, ← e1, gX11_join_40, hkept, cl_some, nI_int (by omega), nI_int (by omega), if_neg (by omega), li_mul2]
      · have ev : vdbl (vkp V t) (m + 1) n = n := by rw [vdbl, if_neg c]
        exact ⟨fu, by rw [ev], by rw [ev]; omega⟩
  obtain ⟨fu', e1, e2⟩ := hdb 16 z wt_N (by omega) (by unfold wt_N; omega) (by omega) (by omega)
  generalize hW : vdbl (vkp V t) 16 z = words at *
  have hgf := q_gapFor (words := words) h.2.2.1 hj.2.1 (by omega)
  rw [e1, gX11_join_40, hkept, cl_some, nI_int (by omega), nI_int (by omega), if_pos (by omega), hgf, cl_some]
  cases e : vgap 2048 0 V.2.1 words with
  | none =>
    rw [vjo_0 (by rw [hzz]; exact hW) e, oI_none, if_neg (by simp), rb_neg (by simp)]
    exact ⟨s, rfl, h, RF.refl⟩
  | some g =>
    obtain ⟨g1, g2⟩ := vgap0 hj.2.1 e
    rw [vjo_1 (by rw [hzz]; exact hW) e]
    have hu : vus V.1 (V.2.2.2 t) (V.2.2.1 t) ≤ words := by omega
    have hF0 : RF s (wt_u s 110 9 0) := RF.uo (by omega) (by omega)
    have h90 : (wt_u s 110 9 0) 111 = s 111 := wt_u_ne (by omega)
    obtain ⟨s2, fu2, f1, f2, f3, f4⟩ := q_join_80 (g := g) (l2 := nI words) (l3 := nI g) h hI ht hb hc np 0 wt_N (wt_u s 110 9 0) (by omega) (by unfold wt_N; omega) hF0 h90 PT.nil
    have hR2 : RS s2 V := h.of f2 f3
    obtain ⟨wt2, ⟨wt1, c1, c2⟩, d2, d3, d4, d5⟩ := q_join_c hR2 hI ht hc h0 ⟨g1, g2⟩ hu f4
    have hl := h.2.2.1.2.1
    have hP2 : vr_P wt2 V.2.1 := vr_P_eq (fun i h1 h2 => d2 i (by omega) (by omega)) hR2.2.2.1
    obtain ⟨w3', n', k1, k2, k3⟩ := q_join_167 (ps := V.2.1) (l2 := nI words) (l3 := nI g) ht hl (fun q hq => (hj.2.1.2 q hq).2.2.1) V.2.1.length wt_N (wt_uf s2 111 wt2) (Nat.le_refl _) (by unfold wt_N; omega) (by rw [List.take_length, List.drop_length, wt_uf_at]; simpa using hP2)
    rw [wt_uf_at] at k3
    have hlf : (V.2.1.filter (fun q => decide (q.2.2.1 ≠ t))).length < 256 := by
      have := vlen256 hj.2.1 (fun q hq2 => by have := hq q hq2; omega) (by omega) e
      have h2 : (V.2.1.filter (fun q => decide (q.2.2.1 ≠ t))).length ≤ V.2.1.length := List.length_filter_le ..
      omega
    obtain ⟨w4, t1, t2, t3⟩ := q_takes (s := wt_uf (wt_uf s2 111 wt2) 111 w3') (ps := V.2.1.filter (fun q => decide (q.2.2.1 ≠ t))) (t := t) (a := g) (words := words) (number := 0) (by rw [wt_uf_at]; exact k2) (vo_sub hj.2.1 List.filter_sublist) hlf (by omega)
    rw [wt_uf_at] at t3
    have hRR : RR w4 (vj1 V t g words) := j_rr hR2 hI ht ⟨g1, g2⟩ hu d2 d3 d4 d5 (fun i hi => by rw [t3 i hi, k3 i hi]) t2
    have a0 : RS (wt_uf s2 111 w4) (vj1 V t g words) := hR2.uf hRR
    have a1 := a0.u (i := 4066 + t) (v := 1) (vtt (by omega) ht) (Or.inr (by omega))
    have a2 := a1.u (i := 3933 + t) (v := 0) (vtt (by omega) ht) (Or.inr (by omega))
    have a2 : RS _ (vj2 (vj1 V t g words) t) := a2
    have a3 := a2.u (i := 4017 + t) (v := (vj2 (vj1 V t g words) t).1 (4017 + t) + (vj2 (vj1 V t g words) t).1 (3961 + t)) (vtt (by omega) ht) (Or.inr (by omega))
    obtain ⟨b1, b2⟩ := q_cnt (c := 5) (v := (vj2 (vj1 V t g words) t).1 (3961 + t)) a3 (by omega)
    obtain ⟨s9, l1, l2, l3⟩ := q_log (a := 6) (b := nI t) (c := nI g) (d := nI words) (k := k) b2 (by rw [vcn_ne (by omega), vs_ne (by omega), vj2_ne (by omega) (by omega), show (vj1 V t g words).1 2067 = V.1 2067 from mj_upd_ne (by omega)]; exact hk) (by omega)
    have hFF : RF s s9 := f2.trans ((RF.uf (f := w4) (Or.inl rfl)).trans ((RF.uf (Or.inl rfl)).trans ((RF.uf (Or.inl rfl)).trans ((RF.uf (Or.inl rfl)).trans ((RF.uf (Or.inl rfl)).trans l3)))))
    refine ⟨s9, ?_, l2, hFF⟩
    have f1 : gX11_join_80 wt_N (wt_u s 110 9 0) (nI t) (nI words) (nI g) (nI g) 0 = _ := f1
    have hm1 : (wt_uf s2 111 wt2) 111 2898 - 1 = nI V.2.1.length + (-1) := by rw [wt_uf_at, hP2.1, i_sub1]
    rw [oI_some, if_pos (nI_m1 (by omega)), wr_eq, f1, gX11_join_80, li_add, ix_nI (by omega) (by omega), hR2.tk (c := 4066) (by omega) ht, hc.2.1, nI_int (by omega), if_pos (Int.le_refl _), c1, cl_some, c2, cl_some, hm1, k1, gX11_join_167, if_pos (by decide), show gX11_takes (wt_uf (wt_uf s2 111 wt2) 111 w3') (nI t) (nI g) (nI words) 0 = _ from t1, cl_some, uf_uf, uf_uf, li_add, ix_nI (by omega) (by omega), wr_eq, li_add, ix_nI (by omega) (by omega), wr_eq, li_add, ix_nI (by omega) (by omega), li_add, ix_nI (by omega) (by omega), ix_nI (by omega) (by omega), wr_eq, ix_nI (by omega) (by omega), a2.tk (c := 4017) (by omega) ht, a2.tk (c := 3961) (by omega) ht, a3.tk (c := 3961) (by omega) ht, vs_ne (show 3961 + t ≠ 4017 + t by omega), show gX11_counts _ 5 _ = _ from b1, cl_some, l1, cl_some, rb_pos rfl]
theorem q_join {x : Int32} (h : RS s V) (hI : VI 2048 B V) (hB : B < 2147483000) : ∃ s', gX11_join s x = some ((vjoin V x).1, s') ∧ RS s' (vjoin V x).2 ∧ RF s s' ∧ VI 2048 (B + 1) (vjoin V x).2 := by
  unfold gX11_join
  rw [q_isTask, cl_some, if_rb]
  by_cases c1 : 0 ≤ x.toInt ∧ x.toInt ≤ 5
  · obtain ⟨t, ht, rfl, etn⟩ := i_task c1
    rw [if_pos c1, q_busy h ht, cl_some, if_rb]
    by_cases c2 : vby V t = true
    · rw [if_pos c2, li_add, ix_nI (by omega) (by omega), h.tk (c := 3933) (by omega) ht]
      by_cases c3 : V.1 (3933 + t) = 1
      · have hb := vby_iff.mp c2
        have hv : vjoin V (nI t) = (rb ((vjo 2048 V t).1 = true), (vjo 2048 V t).2) := by unfold vjoin; rw [etn, if_pos ⟨c1, c2, c3⟩]
        obtain ⟨np, z, z2, z3, k, l, hP, h0, -, ⟨r1, r2, r3⟩, -, ⟨k1, k2⟩, -, -, -, -⟩ := hI.opn ht hb (by omega)
        obtain ⟨s', f1, f2, f3⟩ := q_jo h hI ht hb hP h0 r1 (by omega) k1 (by omega)
        rw [if_pos c3, h.se (c := 2048) (by omega), hP.2.2.2.1, hv]
        exact ⟨s', f1, f2, f3, vi_jo hI ht hb (by omega)⟩
      · have hv : vjoin V (nI t) = (0, V) := by unfold vjoin; rw [etn, if_neg (fun e => c3 e.2.2)]
        rw [if_neg c3, hv]
        exact ⟨s, rfl, h, RF.refl, hI.mono (by omega)⟩
    · have hv : vjoin V (nI t) = (0, V) := by unfold vjoin; rw [etn, if_neg (fun e => c2 e.2.1)]
      rw [if_neg c2, hv]
      exact ⟨s, rfl, h, RF.refl, hI.mono (by omega)⟩
  · have hv : vjoin V x = (0, V) := by unfold vjoin; rw [if_neg (fun e => c1 e.1)]
    rw [if_neg c1, hv]
    exact ⟨s, rfl, h, RF.refl, hI.mono (by omega)⟩
end
end
section
/-! ===== COMPACT ===== -/
/-- the pieces one behind the other, from a place on -/
def vpk : Nat → List vP → List vP
  | _, [] => []
  | a, q :: ps => (a, q.2.1, q.2.2) :: vpk (a + q.2.1) ps
def vpt2 : Nat → List vP → List vT
  | _, [] => []
  | a, q :: ps => (q.1, q.2.1, a) :: vpt2 (a + q.2.1) ps
/-- how many lie elsewhere by it -/
def vcc : Nat → List vP → Nat
  | _, [] => 0
  | a, q :: ps => (if q.1 = a then 0 else 1) + vcc (a + q.2.1) ps
theorem vpk_len : ∀ {ps : List vP} {a : Nat}, (vpk a ps).length = ps.length := by
  intro ps
  induction ps with
  | nil => intro a; rfl
  | cons q ps ih => intro a; show (vpk _ ps).length + 1 = _; rw [ih]; rfl
theorem vpt2_len : ∀ {ps : List vP} {a : Nat}, (vpt2 a ps).length = ps.length := by
  intro ps
  induction ps with
  | nil => intro a; rfl
  | cons q ps ih => intro a; show (vpt2 _ ps).length + 1 = _; rw [ih]; rfl
theorem vcc_le : ∀ {ps : List vP} {a : Nat}, vcc a ps ≤ ps.length := by
  intro ps
  induction ps with
  | nil => intro a; exact Nat.le_refl _
  | cons q ps ih =>
    intro a
    have := ih (a := a + q.2.1)
    show (if q.1 = a then 0 else 1) + vcc (a + q.2.1) ps ≤ ps.length + 1
    split <;> omega
/-- in order, within the memory, never to the right -/
theorem vpk_vo {lim : Nat} : ∀ {ps : List vP} {a : Nat}, vo lim ps → (∀ q ∈ ps, a ≤ q.1) → vo lim (vpk a ps) ∧ (∀ p ∈ vpk a ps, a ≤ p.1) ∧ (∀ p ∈ vpt2 a ps, a ≤ p.2.2 ∧ p.2.2 ≤ p.1 ∧ p.1 + p.2.1 ≤ lim ∧ ∃ q ∈ ps, p.1 = q.1 ∧ p.2.1 = q.2.1) := by
  intro ps
  induction ps with
  | nil => intro a _ _; exact ⟨⟨List.Pairwise.nil, fun q hq => (by cases hq)⟩, fun p hp => (by cases hp), fun p hp => (by cases hp)⟩
  | cons q ps ih =>
    intro a ho ha
    have hq := ho.2 q (List.mem_cons_self ..)
    have haq := ha q (List.mem_cons_self ..)
    obtain ⟨i1, i2, i3⟩ := ih (a := a + q.2.1) (vo_tail ho) (fun p hp => by have := vo_head ho p hp; omega)
    refine ⟨⟨List.pairwise_cons.mpr ⟨fun p hp => i2 p hp, i1.1⟩, fun p hp => ?_⟩, fun p hp => ?_, fun p hp => ?_⟩
    · rcases List.mem_cons.mp hp with rfl | hp
      · exact ⟨hq.1, by show a + q.2.1 ≤ lim; omega, hq.2.2⟩
      · exact i1.2 p hp
    · rcases List.mem_cons.mp hp with rfl | hp
      · exact Nat.le_refl _
      · have := i2 p hp; omega
    · rcases List.mem_cons.mp hp with rfl | hp
      · exact ⟨Nat.le_refl _, haq, hq.2.1, q, List.mem_cons_self .., rfl, rfl⟩
      · obtain ⟨a1, a2, a3, q', a4, a5⟩ := i3 p hp
        exact ⟨by omega, a2, a3, q', List.mem_cons_of_mem _ a4, a5⟩
theorem vpt2_cp : ∀ {ps : List vP} {a : Nat}, vo 2048 ps → (∀ q ∈ ps, a ≤ q.1) → CP (vpt2 a ps) ∧ (vpt2 a ps).Pairwise (fun p q => p.1 + p.2.1 ≤ q.1 ∨ q.1 + q.2.1 ≤ p.1) := by
  intro ps
  induction ps with
  | nil => intro a _ _; exact ⟨⟨fun q hq => (by cases hq), List.Pairwise.nil⟩, List.Pairwise.nil⟩
  | cons q ps ih =>
    intro a ho ha
    have hq := ho.2 q (List.mem_cons_self ..)
    have haq := ha q (List.mem_cons_self ..)
    have hh := vo_head ho
    obtain ⟨i1, i2⟩ := ih (a := a + q.2.1) (vo_tail ho) (fun p hp => by have := hh p hp; omega)
    obtain ⟨-, -, i3⟩ := vpk_vo (a := a + q.2.1) (vo_tail ho) (fun p hp => by have := hh p hp; omega)
    refine ⟨⟨fun p hp => ?_, List.pairwise_cons.mpr ⟨fun p hp => ?_, i1.2⟩⟩, List.pairwise_cons.mpr ⟨fun p hp => ?_, i2⟩⟩
    · rcases List.mem_cons.mp hp with rfl | hp
      · exact ⟨hq.2.1, by show a + q.2.1 ≤ 2048; omega, Or.inl haq⟩
      · exact i1.1 p hp
    · obtain ⟨a1, a2, a3, q', a4, a5, a6⟩ := i3 p hp
      have := hh q' a4
      exact ⟨Or.inl (by show a + q.2.1 ≤ p.1; omega), Or.inl a1⟩
    · obtain ⟨a1, a2, a3, q', a4, a5, a6⟩ := i3 p hp
      have := hh q' a4
      exact Or.inl (by show q.1 + q.2.1 ≤ p.1; omega)
/-- a piece, where it comes -/
theorem vpk_find {t n : Nat} : ∀ {ps : List vP} {a : Nat}, (ps.find? (vkey t n) = none → (vpk a ps).find? (vkey t n) = none) ∧ ∀ q, ps.find? (vkey t n) = some q → ∃ b, (vpk a ps).find? (vkey t n) = some (b, q.2.1, q.2.2) ∧ (q.1, q.2.1, b) ∈ vpt2 a ps := by
  intro ps
  induction ps with
  | nil => intro a; exact ⟨fun _ => rfl, fun q h => by cases h⟩
  | cons p ps ih =>
    intro a
    obtain ⟨i1, i2⟩ := ih (a := a + p.2.1)
    have hk : vkey t n (a, p.2.1, p.2.2) = vkey t n p := rfl
    by_cases c : vkey t n p = true
    · refine ⟨fun h => ?_, fun q h => ?_⟩
      · rw [List.find?_cons_of_pos c] at h; cases h
      · rw [List.find?_cons_of_pos c] at h
        cases h
        exact ⟨a, List.find?_cons_of_pos (by rw [hk]; exact c), List.mem_cons_self ..⟩
    · refine ⟨fun h => ?_, fun q h => ?_⟩
      · rw [List.find?_cons_of_neg c] at h
        show ((a, p.2.1, p.2.2) :: vpk (a + p.2.1) ps).find? _ = none
        rw [List.find?_cons_of_neg (by rw [hk]; exact c)]
        exact i1 h
      · rw [List.find?_cons_of_neg c] at h
        obtain ⟨b, b1, b2⟩ := i2 q h
        refine ⟨b, ?_, List.mem_cons_of_mem _ b2⟩
        show ((a, p.2.1, p.2.2) :: vpk (a + p.2.1) ps).find? _ = _
        rw [List.find?_cons_of_neg (by rw [hk]; exact c)]
        exact b1
theorem vpk_mem : ∀ {ps : List vP} {a : Nat} {p : vP}, p ∈ vpk a ps → ∃ q ∈ ps, p.2 = q.2 := by
  intro ps
  induction ps with
  | nil => intro a p hp; cases hp
  | cons q ps ih =>
    intro a p hp
    rcases List.mem_cons.mp hp with rfl | hp
    · exact ⟨q, List.mem_cons_self .., rfl⟩
    · obtain ⟨q', h1, h2⟩ := ih hp
      exact ⟨q', List.mem_cons_of_mem _ h1, h2⟩
theorem vpk_mem2 : ∀ {ps : List vP} {a : Nat} {q : vP}, q ∈ ps → ∃ p ∈ vpk a ps, p.2 = q.2 := by
  intro ps
  induction ps with
  | nil => intro a q hq; cases hq
  | cons p ps ih =>
    intro a q hq
    rcases List.mem_cons.mp hq with rfl | hq
    · exact ⟨_, List.mem_cons_self .., rfl⟩
    · obtain ⟨p', h1, h2⟩ := ih (a := a + p.2.1) hq
      exact ⟨p', List.mem_cons_of_mem _ h1, h2⟩
theorem vpk_pw {R : Nat × Nat × Nat → Nat × Nat × Nat → Prop} : ∀ {ps : List vP} {a : Nat}, ps.Pairwise (fun p q => R p.2 q.2) → (vpk a ps).Pairwise (fun p q => R p.2 q.2) := by
  intro ps
  induction ps with
  | nil => intro a _; exact List.Pairwise.nil
  | cons q ps ih =>
    intro a h
    obtain ⟨h1, h2⟩ := List.pairwise_cons.mp h
    refine List.pairwise_cons.mpr ⟨fun p hp => ?_, ih h2⟩
    obtain ⟨q', e1, e2⟩ := vpk_mem hp
    rw [e2]
    exact h1 q' e1
theorem vpk_ln {ps : List vP} {t n : Nat} : vln (vpk 0 ps) t n = vln ps t n := by
  unfold vln
  cases e : ps.find? (vkey t n) with
  | none => rw [(vpk_find (a := 0)).1 e]
  | some q => obtain ⟨b, b1, -⟩ := (vpk_find (a := 0)).2 q e; rw [b1]
section
variable {s : wt_S} {V : vV} {t B : Nat}
/-- the first loop: parts, places, lines of the log -/
theorem q_cmp_11 (ho : vo 2048 V.2.1) : ∀ (qs done : List vP) (a fu c k : Nat) (s1 : wt_S), V.2.1 = done ++ qs → qs.length < fu → (∀ q ∈ qs, a ≤ q.1) → a ≤ 2048 → s1 111 2067 = nI k → k + qs.length < 2147483000 → vr_P (s1 111) (vpk 0 done ++ qs) → (vpk 0 V.2.1 = vpk 0 done ++ vpk a qs) → (vpt2 0 V.2.1 = vpt2 0 done ++ vpt2 a qs) → PT s1 (vpt2 0 done) →
    ∃ s2 fu', gX11_compact_11 fu s1 (nI c) (nI a) (nI done.length) = gX11_compact_11 (fu' + 1) s2 (nI (c + vcc a qs)) (nI (a + vall qs)) (nI V.2.1.length) ∧ RF s1 s2 ∧ (∀ i, vlg i → vout i → s2 111 i = s1 111 i) ∧ s2 111 2067 = nI (k + vcc a qs) ∧ vr_P (s2 111) (vpk 0 V.2.1) ∧ PT s2 (vpt2 0 V.2.1) := by
  intro qs
  induction qs with
  | nil =>
    intro done a fu c k s1 hd hfu ha h48 hk hkb hP hpk hpt hT
    obtain ⟨fu, rfl⟩ : ∃ m, fu = m + 1 := ⟨fu - 1, by omega⟩
    rw [List.append_nil] at hd hP
    subst hd
    exact ⟨s1, fu, rfl, RF.refl, fun _ _ _ => rfl, hk, hP, hT⟩
  | cons q qs ih =>
    intro done a fu c k s1 hd hfu ha h48 hk hkb hP hpk hpt hT
    obtain ⟨fu, rfl⟩ : ∃ m, fu = m + 1 := ⟨fu - 1, by omega⟩
    have hlen : V.2.1.length = done.length + (qs.length + 1) := by rw [hd, List.length_append]; rfl
    have hl := hP.2.1
    rw [List.length_append, vpk_len] at hl
    have hl : done.length + (qs.length + 1) ≤ 256 := hl
    have hqm : q ∈ V.2.1 := by rw [hd]; exact List.mem_append_right _ (List.mem_cons_self ..)
    have hqo := ho.2 q hqm
    have haq := ha q (List.mem_cons_self ..)
    have hkb : k + (qs.length + 1) < 2147483000 := hkb
    have hfu : qs.length + 1 < fu + 1 := hfu
    have hrow : vrow (s1 111) done.length q := hP.2.2 _ q (by rw [List.getElem?_append_right (by rw [vpk_len]; omega), vpk_len, Nat.sub_self]; rfl)
    have hmany : s1 111 2898 = nI (done.length + (qs.length + 1)) := by rw [hP.1, List.length_append, vpk_len]; rfl
    obtain ⟨s2, p1, p2, p3, p4⟩ := q_part (a := q.1) (b := q.2.1) (c := a) hT (by rw [vpt2_len]; omega)
    have haq2 : ∀ p ∈ qs, a + q.2.1 ≤ p.1 := fun p hp => by
      have h1 : (q :: qs).Pairwise (fun p q => p.1 + p.2.1 ≤ q.1) := by
        have := ho.1
        rw [hd] at this
        exact (List.pairwise_append.mp this).2.1
      have := (List.pairwise_cons.mp h1).1 p hp
      omega
    have hd2 : V.2.1 = (done ++ [q]) ++ qs := by rw [hd, List.append_assoc]; rfl
    -- the tail
    have tail : ∀ (s3 : wt_S) (c' k' : Nat), RF s1 s3 → (∀ i, vlg i → s3 111 i = s1 111 i) → s3 111 2067 = nI k' → k' + qs.length < 2147483000 → PT s3 (vpt2 0 done ++ [(q.1, q.2.1, a)]) → ∃ s5 fu', gX11_compact_92 (gX11_compact_11 fu) s3 (nI c') (nI a) (nI done.length) = gX11_compact_11 (fu' + 1) s5 (nI (c' + vcc (a + q.2.1) qs)) (nI (a + q.2.1 + vall qs)) (nI V.2.1.length) ∧ RF s1 s5 ∧ (∀ i, vlg i → vout i → s5 111 i = s1 111 i) ∧ s5 111 2067 = nI (k' + vcc (a + q.2.1) qs) ∧ vr_P (s5 111) (vpk 0 V.2.1) ∧ PT s5 (vpt2 0 V.2.1) := by
      intro s3 c' k' g1 g2 g3 g4 g5
      have epk : ∀ (d : List vP) (x : Nat), vpk x (d ++ [q]) = vpk x d ++ [(x + vall d, q.2.1, q.2.2)] := by
        intro d
        induction d with
        | nil => intro x; show [(x, q.2.1, q.2.2)] = [(x + 0, q.2.1, q.2.2)]; rfl
        | cons b d ihd =>
          intro x
          show (x, b.2.1, b.2.2) :: vpk (x + b.2.1) (d ++ [q]) = (x, b.2.1, b.2.2) :: (vpk (x + b.2.1) d ++ [(x + (b.2.1 + vall d), q.2.1, q.2.2)])
          rw [ihd, Nat.add_assoc]
      have ept : ∀ (d : List vP) (x : Nat), vpt2 x (d ++ [q]) = vpt2 x d ++ [(q.1, q.2.1, x + vall d)] := by
        intro d
        induction d with
        | nil => intro x; show [(q.1, q.2.1, x)] = [(q.1, q.2.1, x + 0)]; rfl
        | cons b d ihd =>
          intro x
          show (b.1, b.2.1, x) :: vpt2 (x + b.2.1) (d ++ [q]) = (b.1, b.2.1, x) :: (vpt2 (x + b.2.1) d ++ [(q.1, q.2.1, x + (b.2.1 + vall d))])
          rw [ihd, Nat.add_assoc]
      have hava : 0 + vall done = a := by
        have h1 : ∀ (d : List vP) (x : Nat), vpk x (d ++ (q :: qs)) = vpk x d ++ vpk (x + vall d) (q :: qs) := by
          intro d
          induction d with
          | nil => intro x; rfl
          | cons b d ihd =>
            intro x
            show (x, b.2.1, b.2.2) :: vpk (x + b.2.1) (d ++ (q :: qs)) = (x, b.2.1, b.2.2) :: (vpk (x + b.2.1) d ++ vpk (x + (b.2.1 + vall d)) (q :: qs))
            rw [ihd, Nat.add_assoc]
        rw [hd, h1] at hpk
        have h2 := List.append_cancel_left hpk
        have h3 : ((0 + vall done, q.2.1, q.2.2) : vP) = (a, q.2.1, q.2.2) := (List.cons.inj h2).1
        exact (Prod.mk.inj h3).1
      have hvP4 : vr_P (mj_upd (s3 111) (2899 + done.length) (nI a)) (vpk 0 (done ++ [q]) ++ qs) := by
        have hP3 : vr_P (s3 111) (vpk 0 done ++ q :: qs) := vr_P_eq (fun i h1 h2 => g2 i (Or.inr (by omega))) hP
        obtain ⟨v1, v2, v3⟩ := hP3
        refine ⟨?_, ?_, fun x r hx => ?_⟩
        · rw [mj_upd_ne (by omega), v1, List.length_append, List.length_append, vpk_len, vpk_len, List.length_append]
          congr 1
          show done.length + (qs.length + 1) = done.length + 1 + qs.length
          omega
        · rw [List.length_append, vpk_len, List.length_append]
          show done.length + 1 + qs.length ≤ 256
          omega
        · rw [epk, hava, List.append_assoc] at hx
          by_cases ex : x = done.length
          · subst ex
            rw [List.getElem?_append_right (by rw [vpk_len]; omega), vpk_len, Nat.sub_self] at hx
            cases hx
            have hr := v3 done.length q (by rw [List.getElem?_append_right (by rw [vpk_len]; omega), vpk_len, Nat.sub_self]; rfl)
            refine ⟨mj_upd_self, ?_, ?_, ?_⟩
            · rw [mj_upd_ne (by omega)]; exact hr.2.1
            · rw [mj_upd_ne (by omega)]; exact hr.2.2.1
            · rw [mj_upd_ne (by omega)]; exact hr.2.2.2
          · have hx' : (vpk 0 done ++ q :: qs)[x]? = some r := by
              rcases Nat.lt_or_gt_of_ne ex with c1 | c1
              · rw [List.getElem?_append_left (by rw [vpk_len]; omega)] at hx ⊢
                exact hx
              · rw [List.getElem?_append_right (by rw [vpk_len]; omega), vpk_len] at hx ⊢
                obtain ⟨y, hy⟩ : ∃ y, x - done.length = y + 1 := ⟨x - done.length - 1, by omega⟩
                rw [hy] at hx ⊢
                exact hx
            have hxl : x < 256 := by
              have := (List.getElem?_eq_some_iff.mp hx').1
              rw [List.length_append, vpk_len] at this
              have : x < done.length + (qs.length + 1) := this
              omega
            have hr := v3 x r hx'
            exact ⟨by rw [mj_upd_ne (by omega)]; exact hr.1, by rw [mj_upd_ne (by omega)]; exact hr.2.1, by rw [mj_upd_ne (by omega)]; exact hr.2.2.1, by rw [mj_upd_ne (by omega)]; exact hr.2.2.2⟩
      have hs4 : (wt_u s3 111 (2899 + done.length) (nI a)) 111 = mj_upd (s3 111) (2899 + done.length) (nI a) := wt_u_at
      have hT4 : PT (wt_u s3 111 (2899 + done.length) (nI a)) (vpt2 0 (done ++ [q])) := by
        rw [ept, hava]
        exact g5.uf
      obtain ⟨s5, fu', f1, f2, f3, f4, f5, f6⟩ := ih (done ++ [q]) (a + q.2.1) fu c' k' (wt_u s3 111 (2899 + done.length) (nI a)) hd2 (by omega) haq2 (by omega) (by rw [hs4, mj_upd_ne (by omega)]; exact g3) g4 (by rw [hs4]; exact hvP4) (by rw [hpk, epk, hava, List.append_assoc]; rfl) (by rw [hpt, ept, hava, List.append_assoc]; rfl) hT4
      refine ⟨s5, fu', ?_, g1.trans ((RF.uf (Or.inl rfl)).trans f2), fun i h1 h2 => ?_, f4, f5, f6⟩
      · unfold gX11_compact_92
        have h55 : (wt_u s3 111 (2899 + done.length) (nI a)) 111 (3155 + done.length) = nI q.2.1 := by rw [hs4, mj_upd_ne (by omega), g2 _ (Or.inr (by omega))]; exact hrow.2.1
        rw [li_add, ix_nI (by omega) (by omega), wr_eq, li_add, ix_nI (by omega) (by omega), h55, nI_add, nI_1, show done.length + 1 = (done ++ [q]).length by rw [List.length_append]; rfl]
        exact f1
      · rw [f3 i h1 h2, hs4, mj_upd_ne (by unfold vout at h2; omega), g2 i h1]
    have hvc : vcc a (q :: qs) = (if q.1 = a then 0 else 1) + vcc (a + q.2.1) qs := rfl
    have hva : a + vall (q :: qs) = a + q.2.1 + vall qs := by show a + (q.2.1 + vall qs) = _; omega
    have h2r : ∀ i, s2 111 i = s1 111 i := fun i => by rw [p3]
    rw [gX11_compact_11, hmany, nI_int (by omega), nI_int (by omega), if_neg (by omega), li_add, ix_nI (by omega) (by omega), li_add, ix_nI (by omega) (by omega), hrow.1, hrow.2.1, p1, cl_some, ix_nI (by omega) (by omega), h2r, hrow.1, hva, hvc]
    by_cases ce : q.1 = a
    · obtain ⟨s5, fu', f1, f2, f3, f4, f5⟩ := tail s2 c k p4 (fun i _ => h2r i) (by rw [h2r]; exact hk) (by omega) p2
      rw [if_pos (by rw [ce]), if_pos ce, Nat.zero_add]
      exact ⟨s5, fu', f1, f2, f3, f4, f5⟩
    · obtain ⟨w3, l1, l2, l3⟩ := q_logs (s := s2) (a := 7) (b := nI q.2.2.1) (c := nI a) (d := nI q.2.1) (by rw [h2r]; exact hk) (by omega)
      obtain ⟨s5, fu', f1, f2, f3, f4, f5⟩ := tail (wt_uf s2 111 w3) (c + 1) (k + 1) (p4.trans (RF.uf (Or.inl rfl))) (fun i hi => by rw [wt_uf_at, l3 i hi, h2r]) (by rw [wt_uf_at, l2, h2r, hk, nI_1]) (by omega) p2.uf
      rw [if_neg (fun e => ce ((nI_inj (by omega) (by omega)).mp e)), if_neg ce, li_add, ix_nI (by omega) (by omega), ix_nI (by omega) (by omega), h2r, h2r, hrow.2.2.1, hrow.2.1, l1, cl_some, nI_1, f1]
      rw [show c + (1 + vcc (a + q.2.1) qs) = c + 1 + vcc (a + q.2.1) qs by omega, show k + (1 + vcc (a + q.2.1) qs) = k + 1 + vcc (a + q.2.1) qs by omega]
      exact ⟨s5, fu', rfl, f2, f3, f4, f5⟩
end
end
section
/-! ===== COMPACT: what is behind it ===== -/
def vcp1 (V : vV) : vV := vps V (vpk 0 V.2.1)
def vcm (V : vV) : vV := ((fun i => if i = 2067 then V.1 2067 + nI (vcc 0 V.2.1) else if 3982 ≤ i ∧ i < 3988 ∧ vby V (i - 3982) = true then nI (vpl (vcp1 V) (i - 3982) (V.2.2.1 (i - 3982) - 1)) else V.1 i), vpk 0 V.2.1, V.2.2)
section
variable {s : wt_S} {V : vV} {t B : Nat}
theorem vcm_ne {i : Nat} (h1 : i ≠ 2067) (h2 : i < 3982 ∨ 3988 ≤ i) : (vcm V).1 i = V.1 i := by
  show (if i = 2067 then _ else if 3982 ≤ i ∧ i < 3988 ∧ vby V (i - 3982) = true then _ else V.1 i) = _
  rw [if_neg h1, if_neg (by omega)]
theorem vcm_at (ht : t < 6) (hb : vby V t = true) : (vcm V).1 (3982 + t) = nI (vpl (vcp1 V) t (V.2.2.1 t - 1)) := by
  have e : 3982 + t - 3982 = t := by omega
  show (if 3982 + t = 2067 then _ else if 3982 ≤ 3982 + t ∧ 3982 + t < 3988 ∧ vby V (3982 + t - 3982) = true then nI (vpl (vcp1 V) (3982 + t - 3982) (V.2.2.1 (3982 + t - 3982) - 1)) else V.1 (3982 + t)) = _
  rw [e, if_neg (by omega), if_pos ⟨by omega, by omega, hb⟩]
theorem vcm_at0 (ht : t < 6) (hb : vby V t = false) : (vcm V).1 (3982 + t) = V.1 (3982 + t) := by
  have e : 3982 + t - 3982 = t := by omega
  show (if 3982 + t = 2067 then _ else if 3982 ≤ 3982 + t ∧ 3982 + t < 3988 ∧ vby V (3982 + t - 3982) = true then nI (vpl (vcp1 V) (3982 + t - 3982) (V.2.2.1 (3982 + t - 3982) - 1)) else V.1 (3982 + t)) = _
  rw [e, if_neg (by omega), if_neg (fun q => by rw [hb] at q; cases q.2.2)]
theorem cm_itp {ps : List vP} {np : Nat} (h : Itp ps t np) : Itp (vpk 0 ps) t np := by
  refine ⟨fun k hk => ?_, fun p hp e => ?_⟩
  · obtain ⟨q, q1, q2, q3⟩ := h.1 k hk
    obtain ⟨p, p1, p2⟩ := vpk_mem2 (a := 0) q1
    exact ⟨p, p1, by rw [p2]; exact q2, by rw [p2]; exact q3⟩
  · obtain ⟨q, q1, q2⟩ := vpk_mem hp
    rw [q2] at e ⊢
    exact h.2 q q1 e
theorem cm_J (hj : VJ 2048 V) : VJ 2048 (vcp1 V) := by
  refine ⟨hj.1, (vpk_vo hj.2.1 (fun _ _ => Nat.zero_le _)).1, vpk_pw (R := fun p q => ¬ (p.2.1 = q.2.1 ∧ p.2.2 = q.2.2)) hj.2.2.1, fun t ht h0 => ?_⟩
  obtain ⟨np, a1, a2, a3⟩ := hj.geo ht h0
  exact ⟨np, cm_itp a1, a2.ps (fun i hi => ⟨(a2.1 i hi).1, vpk_ln⟩), a3.ps (fun i hi => vpk_ln)⟩
theorem cm_pm (hj : VJ 2048 V) (ht : t < 6) {i : Nat} (hi : i < V.2.2.1 t) : PM (vpt2 0 V.2.1) (vpl V t i) (vpl (vcp1 V) t i) (vwd V.1 (V.2.2.2 t i).1) := by
  obtain ⟨np, a1, a2, a3⟩ := hj.geo ht (by omega)
  obtain ⟨h1, h2⟩ := a2.1 i hi
  obtain ⟨q, q1, q2, q3, q4, q5, q6⟩ := vget (a1.1 _ h1)
  obtain ⟨b, b1, b2⟩ := (vpk_find (a := 0)).2 q q6
  have hv : vat (vpk 0 V.2.1) t (V.2.2.2 t i).2.1 = b := by unfold vat; rw [b1]
  refine ⟨_, b2, ?_, ?_, ?_⟩
  · show q.1 ≤ vpl V t i
    unfold vpl; omega
  · show vpl V t i + _ ≤ q.1 + q.2.1
    unfold vpl; omega
  · show vat (vpk 0 V.2.1) t (V.2.2.2 t i).2.1 + (V.2.2.2 t i).2.2.1 = b + (vpl V t i - q.1)
    rw [hv]
    unfold vpl
    omega
/-- the second loop: the busy tasks are turned, one behind the other -/
theorem q_cmp_128 {l1 : Int32} {s0 : wt_S} {w0 : Nat → Int32} (hI : VI 2048 B V) (hT : PT s0 (vpt2 0 V.2.1)) (hw0 : ∀ i, vtr i → i ≠ 2067 → w0 i = V.1 i) : ∀ (m k fu : Nat) (w : Nat → Int32), k + m = 6 → m < fu → (∀ x, 2048 ≤ x → (x < 3982 ∨ 3988 ≤ x) → w x = w0 x) → (∀ t, t < 6 → w (3982 + t) = if t < k ∧ vby V t = true then nI (vpl (vcp1 V) t (V.2.2.1 t - 1)) else V.1 (3982 + t)) → (∀ t, t < 6 → vMQ w V.1 (V.2.2.1 t) (V.2.2.2 t) (vpl (vcp1 V) t) (if t < k then vpl (vcp1 V) t else vpl V t)) →
    ∃ w', gX11_compact_128 fu (wt_uf s0 111 w) l1 (nI k) = some (l1, wt_uf s0 111 w') ∧ (∀ x, 2048 ≤ x → (x < 3982 ∨ 3988 ≤ x) → w' x = w0 x) ∧ (∀ t, t < 6 → w' (3982 + t) = if vby V t = true then nI (vpl (vcp1 V) t (V.2.2.1 t - 1)) else V.1 (3982 + t)) ∧ ∀ t, t < 6 → vMQ w' V.1 (V.2.2.1 t) (V.2.2.2 t) (vpl (vcp1 V) t) (vpl (vcp1 V) t) := by
  have hj := hI.J
  have hj2 := cm_J hj
  intro m
  induction m with
  | zero =>
    intro k fu w hk hfu g1 g2 g3
    obtain ⟨fu, rfl⟩ : ∃ m, fu = m + 1 := ⟨fu - 1, by omega⟩
    rw [gX11_compact_128, nI_int (by omega), if_pos (by show (6 : Int) ≤ _; omega)]
    refine ⟨w, rfl, g1, fun t ht => ?_, fun t ht => ?_⟩
    · rw [g2 t ht]
      by_cases c : vby V t = true
      · rw [if_pos ⟨by omega, c⟩, if_pos c]
      · rw [if_neg (fun e => c e.2), if_neg c]
    · have := g3 t ht
      rw [if_pos (by omega)] at this
      exact this
  | succ m ih =>
    intro k fu w hk hfu g1 g2 g3
    obtain ⟨fu, rfl⟩ : ∃ m, fu = m + 1 := ⟨fu - 1, by omega⟩
    have hk6 : k < 6 := by omega
    have hN := hI.n hk6
    have hwv : ∀ i, vtr i → i ≠ 2067 → (i < 3982 ∨ 3988 ≤ i) → w i = V.1 i := fun i h1 h2 h3 => by rw [g1 i (vtr_out h1).2 h3]; exact hw0 i h1 h2
    have hbz : gX11_isBusy (wt_uf s0 111 w) (nI k) = some (rb (vby V k = true), wt_uf s0 111 w) := by
      rw [q_isBusy (by omega), wt_uf_at, hwv _ (vtt (c := 3926) (by omega) hk6) (by omega) (by omega)]
      exact congrArg (fun x => some (x, wt_uf s0 111 w)) (rb_iff (by rw [vby_iff]; rfl))
    rw [gX11_compact_128, nI_int (by omega), if_neg (by show ¬ (6 : Int) ≤ _; omega), hbz, cl_some, if_rb, nI_1]
    by_cases c : vby V k = true
    · obtain ⟨np, z, z2, z3, kk, l, hP, h0, -⟩ := hI.opn hk6 (vby_iff.mp c) (by omega)
      obtain ⟨-, hc, -, -, -, -, -, -, -⟩ := hP
      obtain ⟨d1, d2, d3, d4, d5⟩ := hc.2.2.2.2.2.2.1 h0
      have hTH : TH V.1 (V.2.2.1 k) (V.2.2.2 k) (vpl (vcp1 V) k) (vpl V k) (vpl (vcp1 V) k) 2048 := by
        refine ⟨hj.1, fun i hi => ⟨(d3.1 i hi).1, (hj2.fit hk6 hi).2.2⟩, fun i j hi hjj hne => hj2.dj hk6 hk6 hi hjj (fun e => hne e.2), fun i hi k' hk' hb q hq => ?_, fun i hi => ?_, fun i hi => (hj.fit hk6 hi).2.2⟩
        · obtain ⟨a1, a2, -⟩ := d3.2.2.2.2.2 i hi k' hk' hb q hq
          exact ⟨a1, a2⟩
        · obtain ⟨b1, b2, -⟩ := d3.2.2.1 i hi
          exact ⟨b1, b2⟩
      have hcp := vpt2_cp (a := 0) hj.2.1 (fun _ _ => Nat.zero_le _)
      have hb3 := (vpk_vo (a := 0) hj.2.1 (fun _ _ => Nat.zero_le _)).2.2
      have hGO : GO (wt_uf s0 111 w) V.1 (V.2.2.1 k) (V.2.2.2 k) (vpl V k) (vpl (vcp1 V) k) := c_go hT.uf (fun q hq => by obtain ⟨a1, a2, a3, -⟩ := hb3 q hq; omega) hcp.2 (fun i hi => ⟨(hj.fit hk6 hi).2.2, cm_pm hj hk6 hi⟩)
      have hMQk := g3 k hk6
      rw [if_neg (by omega)] at hMQk
      have g2k := g2 k hk6
      rw [if_neg (fun e => by omega)] at g2k
      obtain ⟨w2, t1, t2, t3, t4, t5⟩ := q_turns (s := wt_uf s0 111 w) hTH hGO hk6 ⟨h0, by omega⟩ (by rw [wt_uf_at, hwv _ (vtt (c := 3954) (by omega) hk6) (by omega) (by omega)]; exact hc.1) (by rw [wt_uf_at, g2k]; exact d4) (by rw [wt_uf_at, hwv _ (vtt (c := 3975) (by omega) hk6) (by omega) (by omega)]; exact d5)
        (fun f hf => by rw [wt_uf_at, hwv _ (Or.inr (Or.inl (by omega))) (by omega) (by omega), hwv _ (Or.inr (Or.inl (by omega))) (by omega) (by omega)]; exact ⟨rfl, rfl⟩) (by rw [wt_uf_at]; exact hMQk)
      rw [wt_uf_at] at t4 t5
      rw [uf_uf] at t1
      rw [if_pos c, t1, cl_some]
      refine ih (k + 1) fu w2 (by omega) (by omega) (fun x h1 h2 => by rw [t4 x h1 (by omega)]; exact g1 x h1 h2) (fun t ht => ?_) (fun t ht => ?_)
      · by_cases e : t = k
        · subst e
          rw [if_pos ⟨by omega, c⟩]; exact t3
        · rw [t4 _ (by omega) (by omega), g2 t ht]
          by_cases c2 : t < k ∧ vby V t = true
          · rw [if_pos c2, if_pos ⟨by omega, c2.2⟩]
          · rw [if_neg c2, if_neg (fun q => c2 ⟨by omega, q.2⟩)]
      · by_cases e : t = k
        · subst e
          rw [if_pos (by omega)]; exact t2
        · have := g3 t ht
          have e2 : (if t < k + 1 then vpl (vcp1 V) t else vpl V t) = (if t < k then vpl (vcp1 V) t else vpl V t) := by
            by_cases c2 : t < k
            · rw [if_pos c2, if_pos (by omega)]
            · rw [if_neg c2, if_neg (by omega)]
          rw [e2]
          intro i hi
          obtain ⟨m1, m2, m3⟩ := this i hi
          have hfit := (hj2.fit ht hi).2.2
          have hz1 := (hj2.fit ht hi).2.1
          have hdj := fun j hjj => hj2.dj (t := t) (t' := k) (i := i) (j := j) ht hk6 hi hjj (fun q => e q.1)
          have hout : ∀ x, vpl (vcp1 V) t i ≤ x → x < vpl (vcp1 V) t i + vwd V.1 (V.2.2.2 t i).1 → w2 x = w x := fun x h1 h2 => t5 x (by have : vpl (vcp1 V) t i + vwd V.1 (V.2.2.2 t i).1 ≤ 2048 := hfit; omega) (fun j hjj => by
            have := hdj j hjj
            have this : vpl (vcp1 V) t i + vwd V.1 (V.2.2.2 t i).1 ≤ vpl (vcp1 V) k j ∨ vpl (vcp1 V) k j + vwd V.1 (V.2.2.2 k j).1 ≤ vpl (vcp1 V) t i := this
            omega)
          have hw2 : vwd V.1 (V.2.2.2 t i).1 = vsz V.1 (V.2.2.2 t i).1 + 2 := rfl
          refine ⟨?_, ?_, fun k' hk' => ?_⟩
          · rw [hout _ (Nat.le_refl _) (by omega)]; exact m1
          · rw [hout _ (by omega) (by omega)]; exact m2
          · rw [hout _ (by omega) (by omega)]; exact m3 k' hk'
    · rw [if_neg c]
      refine ih (k + 1) fu w (by omega) (by omega) g1 (fun t ht => ?_) (fun t ht => ?_)
      · rw [g2 t ht]
        by_cases c2 : t < k ∧ vby V t = true
        · rw [if_pos c2, if_pos ⟨by omega, c2.2⟩]
        · rw [if_neg c2, if_neg (fun q => by
            by_cases e : t = k
            · subst e; exact c q.2
            · exact c2 ⟨by omega, q.2⟩)]
      · have := g3 t ht
        by_cases e : t = k
        · subst e
          have h0 : V.2.2.1 t = 0 := (hI.idle hk6 (by simpa using c)).1
          intro i hi
          omega
        · have e2 : (if t < k + 1 then vpl (vcp1 V) t else vpl V t) = (if t < k then vpl (vcp1 V) t else vpl V t) := by
            by_cases c2 : t < k
            · rw [if_pos c2, if_pos (by omega)]
            · rw [if_neg c2, if_neg (by omega)]
          rw [e2]
          exact this
theorem q_compact (h : RS s V) (hI : VI 2048 B V) (hB : B < 2147482000) : ∃ s', gX11_compact s = some (nI (vcc 0 V.2.1), s') ∧ RS s' (vcm V) ∧ RF s s' := by
  have hj := hI.J
  have hj2 := cm_J hj
  obtain ⟨k, k1, k2⟩ := hI.2.2.2.2.1
  have hl := h.2.2.1.2.1
  have h67 : s 111 2067 = nI k := by rw [h.se (by omega)]; exact k2
  have e111 : (wt_u s 110 9 0) 111 = s 111 := wt_u_ne (by omega)
  obtain ⟨s2, fu', f1, f2, f3, f4, f5, f6⟩ := q_cmp_11 (V := V) hj.2.1 V.2.1 [] 0 wt_N 0 k (wt_u s 110 9 0) rfl (by unfold wt_N; omega) (fun _ _ => Nat.zero_le _) (by omega) (by rw [e111]; exact h67) (by omega) (by rw [e111]; exact h.2.2.1) rfl rfl PT.nil
  rw [e111] at f3
  have hcp := vpt2_cp (a := 0) hj.2.1 (fun _ _ => Nat.zero_le _)
  have hb3 := (vpk_vo (a := 0) hj.2.1 (fun _ _ => Nat.zero_le _)).2.2
  obtain ⟨w1, c1, c2, c3⟩ := q_carries f6 hcp.1
  have c3' : ∀ x, 2048 ≤ x → w1 x = s2 111 x := fun x hx => c3 x (fun q hq => by obtain ⟨a1, a2, a3, -⟩ := hb3 q hq; omega)
  have hwv : ∀ i, vtr i → i ≠ 2067 → w1 i = V.1 i := fun i h1 h2 => by
    have ho := vtr_out h1
    rw [c3' i ho.2, f3 i (by unfold vtr at h1; unfold vlg; omega) ho.1]
    exact h.2.at h1
  have hM : ∀ t, t < 6 → vMQ w1 V.1 (V.2.2.1 t) (V.2.2.2 t) (vpl (vcp1 V) t) (vpl V t) := fun t ht => c_mq (w := s2 111) c2 (fun i hi => by
    obtain ⟨a1, a2, a3⟩ := h.wd hj rfl ht hi
    have hfit := (hj.fit ht hi).2.2
    unfold vwd at hfit
    have e : ∀ x, x < 2048 → s2 111 x = s 111 x := fun x hx => f3 x (Or.inl (by omega)) (Or.inl (by omega))
    exact ⟨(hj.fit ht hi).1, by rw [e _ (by omega)]; exact a1, by rw [e _ (by omega)]; exact a2, fun k hk => by rw [e _ (by omega)]; exact a3 k hk⟩) (fun i hi => cm_pm hj ht hi)
  obtain ⟨w2, t1, t2, t3, t4⟩ := q_cmp_128 (l1 := nI (0 + vcc 0 V.2.1)) (s0 := s2) (w0 := w1) hI f6 hwv 6 0 wt_N w1 (by omega) (by unfold wt_N; omega) (fun _ _ _ => rfl) (fun t ht => by rw [if_neg (by omega)]; exact hwv _ (vtt (c := 3982) (by omega) ht) (by omega)) (fun t ht => by rw [if_neg (by omega)]; exact hM t ht)
  have hRR : RR w2 (vcm V) := by
    refine ⟨fun i hi => ?_, vr_P_eq (fun i h1 h2 => by rw [t2 i (by omega) (by omega), c3' i (by omega)]) f5, w2, fun _ _ => rfl, fun t ht => ?_⟩
    · have ho := vtr_out hi
      by_cases e1 : i = 2067
      · subst e1
        show _ = V.1 2067 + nI (vcc 0 V.2.1)
        rw [t2 _ (by omega) (by omega), c3' _ (by omega), f4, k2, nI_add]
      · by_cases e2 : i < 3982 ∨ 3988 ≤ i
        · rw [vcm_ne e1 e2, t2 i ho.2 e2]; exact hwv i hi e1
        · obtain ⟨t, ht, rfl⟩ : ∃ t, t < 6 ∧ i = 3982 + t := ⟨i - 3982, by omega, by omega⟩
          rw [t3 t ht]
          by_cases c : vby V t = true
          · rw [if_pos c, vcm_at ht c]
          · rw [if_neg c, vcm_at0 ht (by simpa using c)]
    · refine MR_w (w := V.1) (fun i h1 h2 => vcm_ne (by omega) (by omega)) ?_
      intro i hi
      obtain ⟨m1, m2, m3⟩ := t4 t ht i hi
      exact ⟨(hj.fit ht hi).1, m1, m2, m3⟩
  have hR2 : RF s s2 := (RF.uo (by omega) (by omega)).trans f2
  have h25 : s2 110 5 = 0 := hR2.2.2.2.2.trans h.1
  refine ⟨wt_uf s2 111 w2, ?_, ⟨by rw [wt_uf_ne (by omega)]; exact h25, by rw [wt_uf_at]; exact hRR⟩, hR2.trans (RF.uf (Or.inl rfl))⟩
  unfold gX11_compact
  have f1 : gX11_compact_11 wt_N (wt_u s 110 9 0) 0 0 0 = _ := f1
  have hmany : s2 111 2898 = nI V.2.1.length := by rw [f5.1, vpk_len]
  have t1 : gX11_compact_128 wt_N (wt_uf s2 111 w1) (nI (0 + vcc 0 V.2.1)) 0 = _ := t1
  rw [wr_eq, f1, gX11_compact_11, hmany, if_pos (Int.le_refl _), c1, cl_some, t1, Nat.zero_add]
theorem vi_cm (hI : VI 2048 B V) : VI 2048 (B + 256) (vcm V) := by
  have hj := hI.J
  have hj2 := cm_J hj
  obtain ⟨k, k1, k2⟩ := hI.2.2.2.2.1
  have hlen : V.2.1.length ≤ 256 := by
    have h1 := vlen (z := 8) hj.2.1 (fun q hq => by
      obtain ⟨z, z1, z2, z3, -⟩ := hI.1.1
      have := hI.2.2.1.2.2 q hq
      rw [z1, nI_int (by omega)] at this
      have : z ≤ q.2.1 := this
      omega)
    omega
  have hw : vpe V.1 (vcm V).1 := fun i hi => vcm_ne (by omega) (by omega)
  refine ⟨Ise_eq (fun i h1 h2 => vcm_ne (by omega) (by omega)) hI.1, hI.2.1.ww hw, ⟨hj2.2.1, hj2.2.2.1, fun q hq => ?_⟩, fun k' hk' => ?_, ⟨k + vcc 0 V.2.1, by have := vcc_le (ps := V.2.1) (a := 0); omega, ?_⟩, fun t ht => ?_⟩
  · obtain ⟨p, p1, p2⟩ := vpk_mem hq
    rw [p2, vcm_ne (by omega) (by omega)]
    exact hI.2.2.1.2.2 p p1
  · rw [vcm_ne (by omega) (by omega)]
    rcases hI.2.2.2.1 k' hk' with e | ⟨t, a1, a2, a3⟩
    · exact Or.inl e
    · exact Or.inr ⟨t, a1, a2, (vcm_ne (by omega) (by omega)).trans a3⟩
  · show V.1 2067 + nI (vcc 0 V.2.1) = _
    rw [k2, nI_add]
  · rcases hI.2.2.2.2.2 t ht with ⟨b1, n, np, c1, c2, c3, c4, c5, c6, c7, c8, c9, c10, c11, c12, c13, c14, c15, c16, c17⟩ | b
    · have hff : ∀ i, i < n + 1 → (V.2.2.2 t i).1 < 10 := fun i hi => (c9.1 i hi).1
      have hvos : vos (vcm V).1 (V.2.2.2 t) (n + 1) = vos V.1 (V.2.2.2 t) (n + 1) := vos_w hw hI.2.1 c9 _ (Nat.le_refl _)
      refine Or.inl ⟨?_, n, np, c1, ?_, ?_, c4, cm_itp c5, ?_, ?_, c8, ?_, ?_, ?_, ?_, ?_, ?_, ?_, ?_, ?_⟩
      · unfold vbz at b1 ⊢
        rw [vcm_ne (by omega) (by omega)]; exact b1
      · rw [vcm_ne (by omega) (by omega)]; exact c2
      · rw [vcm_ne (by omega) (by omega)]; exact c3
      · rw [vcm_ne (by omega) (by omega)]
        rcases c6 with ⟨e1, e2, e3⟩ | e
        · refine Or.inl ⟨e1, e2, fun p hp e => ?_⟩
          obtain ⟨q, q1, q2⟩ := vpk_mem hp
          rw [q2] at e
          exact e3 q q1 e
        · exact Or.inr e
      · exact (c7.ps (fun i hi => ⟨(c7.1 i hi).1, vpk_ln⟩)).ww hw hff
      · exact (c9.ps (fun i hi => vpk_ln)).ww hw hI.2.1
      · rw [vcm_ne (by omega) (by omega), c10]
        exact congrArg nI (hw.us (k := 0) hff).1.symm
      · rw [vcm_at ht (vby_iff.mpr b1), c1, Nat.add_sub_cancel]
        rfl
      · rw [vcm_ne (by omega) (by omega)]; exact c12
      · rw [vcm_ne (by omega) (by omega)]; exact c13
      · rw [vcm_ne (by omega) (by omega), c14]
        exact congrArg nI hvos.symm
      · show vos (vcm V).1 (V.2.2.2 t) (n + 1) ≤ _
        rw [hvos]; exact c15
      · rw [vcm_ne (by omega) (by omega)]
        show (V.1 (3989 + t) = -1 ∧ vos (vcm V).1 (V.2.2.2 t) (n + 1) = 0) ∨ ∃ k, k < 3 ∧ V.1 (3989 + t) = nI k ∧ (vcm V).1 (3923 + k) = nI t ∧ 1 ≤ vos (vcm V).1 (V.2.2.2 t) (n + 1)
        rw [hvos]
        rcases c16 with c16 | ⟨k, k1, k2, k3, k4⟩
        · exact Or.inl c16
        · exact Or.inr ⟨k, k1, k2, (vcm_ne (by omega) (by omega)).trans k3, k4⟩
      · rw [vcm_ne (by omega) (by omega)]
        exact hw.tl.mpr c17
    · obtain ⟨c1, c2, c3, c4, c5, c6, c7, c8, c9⟩ := b
      refine Or.inr ⟨c1, (vcm_ne (by omega) (by omega)).trans c2, (vcm_ne (by omega) (by omega)).trans c3, (vcm_ne (by omega) (by omega)).trans c4, (vcm_ne (by omega) (by omega)).trans c5, (vcm_ne (by omega) (by omega)).trans c6, (vcm_ne (by omega) (by omega)).trans c7, ?_, fun p hp e => ?_⟩
      · rw [vcm_ne (by omega) (by omega)]; exact c8
      · obtain ⟨q, q1, q2⟩ := vpk_mem hp
        rw [q2] at e
        exact c9 q q1 e
end
end
