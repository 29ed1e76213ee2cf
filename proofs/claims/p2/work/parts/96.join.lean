/-! ===== JOINED ===== -/
def vjf (w : Nat → Int32) (fr : Nat → vF) (i : Nat) : vF := ((fr i).1, 0, vus w fr i, (fr i).2.2.2.1, (fr i).2.2.2.2.1, (fr i).2.2.2.2.2)
/-- the frames lie in one piece, the others have gone -/
def vj1 (V : vV) (t g words : Nat) : vV := (mj_upd V.1 (3982 + t) (nI (g + vus V.1 (V.2.2.2 t) (V.2.2.1 t - 1))), vins (g, words, t, 0) (V.2.1.filter (fun q => decide (q.2.2.1 ≠ t))), V.2.2.1, fun t' => if t' = t then vjf V.1 (V.2.2.2 t) else V.2.2.2 t')
def vj2 (V : vV) (t : Nat) : vV := vs (vs V (4066 + t) 1) (3933 + t) 0
def vj3 (V : vV) (t : Nat) : vV := vlg1 (vcn (vs V (4017 + t) (V.1 (4017 + t) + V.1 (3961 + t))) 5 (V.1 (3961 + t)))
def vjo (lim : Nat) (V : vV) (t : Nat) : Bool × vV :=
  let words := vdbl (vkp V t) 16 (V.1 2048).toInt.toNat
  match vgap lim 0 V.2.1 words with
  | none => (false, V)
  | some g => (true, vj3 (vj2 (vj1 V t g words) t) t)
theorem vus_jf {w : Nat → Int32} {fr : Nat → vF} {n : Nat} : vus w (vjf w fr) n = vus w fr n := vus_fn (fun _ _ => rfl)
theorem vdbl_gj {e : Nat} : ∀ {k n : Nat}, 1 ≤ n → e ≤ n * 2 ^ k → e ≤ vdbl e k n ∧ n ≤ vdbl e k n ∧ vdbl e k n ≤ max n (2 * e) := by
  intro k
  induction k with
  | zero => intro n h1 h2; unfold vdbl; rw [Nat.pow_zero, Nat.mul_one] at h2; omega
  | succ k ih =>
    intro n h1 h2
    unfold vdbl
    split
    · have := ih (n := n * 2) (by omega) (by rw [Nat.mul_assoc, show 2 * 2 ^ k = 2 ^ (k + 1) by rw [Nat.pow_succ]; omega]; exact h2)
      omega
    · omega
section
variable {s : wt_S} {V : vV} {t B g words np : Nat}
/-- the pieces of a task go -/
theorem q_join_167 {ps : List vP} {l2 l3 : Int32} (ht : t < 6) (hl : ps.length ≤ 256) (hb : ∀ q ∈ ps, q.2.2.1 < 6) : ∀ (k n : Nat) (s : wt_S), k ≤ ps.length → k < n → vr_P (s 111) (ps.take k ++ (ps.drop k).filter (fun q => decide (q.2.2.1 ≠ t))) → ∃ w' n', gX11_join_167 n s (nI t) l2 l3 (nI k + (-1)) = gX11_join_167 (n' + 1) (wt_uf s 111 w') (nI t) l2 l3 (-1) ∧ vr_P w' (ps.filter (fun q => decide (q.2.2.1 ≠ t))) ∧ ∀ q, vout q → w' q = s 111 q := by
  intro k
  induction k with
  | zero =>
    intro n s hk hn hP
    obtain ⟨n, rfl⟩ : ∃ m, n = m + 1 := ⟨n - 1, by omega⟩
    refine ⟨s 111, n, ?_, by simpa using hP, fun _ _ => rfl⟩
    rw [uf_self, show nI 0 + (-1) = -1 by decide +kernel]
  | succ k ih =>
    intro n s hk hn hP
    obtain ⟨n, rfl⟩ : ∃ m, n = m + 1 := ⟨n - 1, by omega⟩
    obtain ⟨q, hq⟩ : ∃ q, ps[k]? = some q := ⟨_, List.getElem?_eq_getElem (by omega)⟩
    have et : ps.take (k + 1) = ps.take k ++ [q] := by
      rw [List.take_add_one, hq]; rfl
    have ed : ps.drop k = q :: ps.drop (k + 1) := by
      rw [List.drop_eq_getElem_cons (by omega)]
      rw [List.getElem?_eq_getElem (by omega)] at hq
      rw [Option.some.inj hq]
    have hlk : (ps.take k).length = k := by rw [List.length_take]; omega
    have hr : vrow (s 111) k q := by
      refine hP.2.2 k q ?_
      rw [et, List.append_assoc, List.getElem?_append_right (by omega), hlk, Nat.sub_self]
      rfl
    have hqm := hb q (List.mem_of_getElem? hq)
    rw [nI_pred2]
    have step : ∀ X, gX11_join_167 (n + 1) s (nI t) l2 l3 (nI k) = X ↔ (if nI q.2.2.1 ≠ nI t then gX11_join_167 n s (nI t) l2 l3 (nI k + (-1)) else (wt_cl (gX11_gives s (nI k)) fun _ s6 => gX11_join_167 n s6 (nI t) l2 l3 (nI k + (-1)))) = X := by
      intro X
      rw [gX11_join_167, nI_int (by omega), if_neg (by show ¬ (k : Int) < 0; omega), li_add, ix_nI (by omega) (by omega), hr.2.2.1]
    by_cases c : q.2.2.1 = t
    · obtain ⟨w1, e1, e2, e3⟩ := q_gives (k0 := k) hP (by
        rw [List.length_append, et, List.length_append, hlk]
        show k < k + 1 + _
        omega)
      have ee : (ps.take (k + 1) ++ (ps.drop (k + 1)).filter (fun q => decide (q.2.2.1 ≠ t))).eraseIdx k = ps.take k ++ (ps.drop k).filter (fun q => decide (q.2.2.1 ≠ t)) := by
        rw [et, ed, List.append_assoc, List.eraseIdx_append_of_length_le (by omega), hlk, Nat.sub_self, List.filter_cons_of_neg (by simp [c])]
        rfl
      rw [ee] at e2
      obtain ⟨w', n', f1, f2, f3⟩ := ih n (wt_uf s 111 w1) (by omega) (by omega) (by rw [wt_uf_at]; exact e2)
      refine ⟨w', n', ?_, f2, fun i hi => ?_⟩
      · rw [step, if_neg (by rw [c]; simp), e1, cl_some, f1, uf_uf]
      · rw [f3 i hi, wt_uf_at, e3 i hi]
    · obtain ⟨w', n', f1, f2, f3⟩ := ih n s (by omega) (by omega) (by
        rw [ed, List.filter_cons_of_pos (by simpa using c)]
        rw [et, List.append_assoc] at hP
        exact hP)
      refine ⟨w', n', ?_, f2, f3⟩
      rw [step, if_pos (fun e => c ((nI_inj32 (by omega) (by omega)).mp e))]
      exact f1
/-- the parts are written down -/
theorem q_join_80 {l2 l3 : Int32} (h : RS s V) (hI : VI 2048 B V) (ht : t < 6) (hb : vbz V.1 t) (hc : Ico V t np) : ∀ (m k fu : Nat) (s1 : wt_S), k + m = np → m < fu → RF s s1 → s1 111 = s 111 → PT s1 (vjp V t g k) → ∃ s2 fu', gX11_join_80 fu s1 (nI t) l2 l3 (nI (g + vsum (fun j => vud V.1 (V.2.2.2 t) j (V.2.2.1 t)) k)) (nI k) = gX11_join_80 (fu' + 1) s2 (nI t) l2 l3 (nI (g + vsum (fun j => vud V.1 (V.2.2.2 t) j (V.2.2.1 t)) np)) (nI np) ∧ RF s s2 ∧ s2 111 = s 111 ∧ PT s2 (vjp V t g np) := by
  have hnp := hc.2.2.1
  intro m
  induction m with
  | zero =>
    intro k fu s1 hk hfu g1 g2 g3
    obtain ⟨fu, rfl⟩ : ∃ m, fu = m + 1 := ⟨fu - 1, by omega⟩
    have : k = np := by omega
    subst this
    exact ⟨s1, fu, rfl, g1, g2, g3⟩
  | succ m ih =>
    intro k fu s1 hk hfu g1 g2 g3
    obtain ⟨fu, rfl⟩ : ∃ m, fu = m + 1 := ⟨fu - 1, by omega⟩
    have h1 : RS s1 V := h.of g1 g2
    obtain ⟨x, q, e1, e2, e3, e4, e5, e6, e7, e8⟩ := vfi_some (hc.2.2.2.1.1 k (by omega))
    have hl := h.2.2.1.2.1
    have hus := q_usedIn (m := k) h1 hI ht hb hc.2.1 (by omega) e2 e5 e6 (by omega)
    obtain ⟨s2, p1, p2, p3, p4⟩ := q_part (a := q.1) (b := vud V.1 (V.2.2.2 t) k (V.2.2.1 t)) (c := g + vsum (fun j => vud V.1 (V.2.2.2 t) j (V.2.2.1 t)) k) g3 (by rw [vjp_len]; omega)
    have hpt : vjp V t g k ++ [(q.1, vud V.1 (V.2.2.2 t) k (V.2.2.1 t), g + vsum (fun j => vud V.1 (V.2.2.2 t) j (V.2.2.1 t)) k)] = vjp V t g (k + 1) := by rw [vjp_s, e7]
    rw [hpt] at p2
    have h16 : s2 116 k = nI (vud V.1 (V.2.2.2 t) k (V.2.2.1 t)) := (p2.2.2 k (q.1, vud V.1 (V.2.2.2 t) k (V.2.2.1 t), g + vsum (fun j => vud V.1 (V.2.2.2 t) j (V.2.2.1 t)) k) (by
      rw [← hpt, List.getElem?_append_right (by rw [vjp_len]; omega), vjp_len, Nat.sub_self]
      rfl)).2.1
    obtain ⟨s3, fu', f1, f2⟩ := ih (k + 1) fu s2 (by omega) (by omega) (g1.trans p4) (p3.trans g2) p2
    refine ⟨s3, fu', ?_, f2⟩
    rw [gX11_join_80, li_add, ix_nI (by omega) (by omega), h1.tk (c := 4066) (by omega) ht, hc.2.1, nI_int (by omega), nI_int (by omega), if_neg (by omega), q_pieceOf h1.2.2.1 hI.J.2.1 ht (by omega), cl_some, e1, oI_some, li_add, ix_nI (by omega) (by omega), (h1.2.2.1.2.2 x q e2).1, hus, cl_some, p1, cl_some, ix_nI (by omega) (by omega), h16, nI_add, nI_1, Nat.add_assoc, show vsum (fun j => vud V.1 (V.2.2.2 t) j (V.2.2.1 t)) k + vud V.1 (V.2.2.2 t) k (V.2.2.1 t) = vsum (fun j => vud V.1 (V.2.2.2 t) j (V.2.2.1 t)) (k + 1) from rfl]
    exact f1
/-- carried, turned, pieces given back and taken: the row holds it -/
theorem q_join_c (h : RS s V) (hI : VI 2048 B V) (ht : t < 6) (hc : Ico V t np) (h0 : 0 < V.2.2.1 t) (hg : g + words ≤ 2048 ∧ ∀ q ∈ V.2.1, g + words ≤ q.1 ∨ q.1 + q.2.1 ≤ g) (hu : vus V.1 (V.2.2.2 t) (V.2.2.1 t) ≤ words) (hF : PT s (vjp V t g np)) : ∃ w2, (∃ w1, gX11_carries s = some ((), wt_uf s 111 w1) ∧ gX11_turns (wt_uf s 111 w1) (nI t) = some ((), wt_uf s 111 w2)) ∧ (∀ x, 2048 ≤ x → x ≠ 3982 + t → w2 x = s 111 x) ∧ w2 (3982 + t) = nI (g + vus V.1 (V.2.2.2 t) (V.2.2.1 t - 1)) ∧ (∀ x, x < 2048 → (x < g ∨ g + vus V.1 (V.2.2.2 t) (V.2.2.1 t) ≤ x) → w2 x = s 111 x) ∧ vMQ w2 V.1 (V.2.2.1 t) (V.2.2.2 t) (fun i => g + vus V.1 (V.2.2.2 t) i) (fun i => g + vus V.1 (V.2.2.2 t) i) := by
  have hj := hI.J
  have hN := hI.n ht
  obtain ⟨d1, d2, d3, d4, d5⟩ := hc.2.2.2.2.2.2.1 h0
  obtain ⟨k1, k2, k3, k4⟩ := vjp_ok hj ht hc h0 hg hu
  obtain ⟨w1, c1, c2, c3⟩ := q_carries hF k1
  have c3' : ∀ x, (x < g ∨ g + vus V.1 (V.2.2.2 t) (V.2.2.1 t) ≤ x) → w1 x = s 111 x := fun x hx => c3 x (fun q hq => by obtain ⟨-, -, -, a1, a2⟩ := k3 q hq; omega)
  have hof : ∀ i, i < V.2.2.1 t → vus V.1 (V.2.2.2 t) i + vwd V.1 (V.2.2.2 t i).1 ≤ vus V.1 (V.2.2.2 t) (V.2.2.1 t) := fun i hi => vus_lt hi
  have hM : MR (s 111) V.1 (V.2.2.1 t) (V.2.2.2 t) (vpl V t) := fun i hi => ⟨(hj.fit ht hi).1, h.wd hj rfl ht hi⟩
  have hMQ : vMQ w1 V.1 (V.2.2.1 t) (V.2.2.2 t) (fun i => g + vus V.1 (V.2.2.2 t) i) (vpl V t) := c_mq c2 hM k4
  have hGO : GO (wt_uf s 111 w1) V.1 (V.2.2.1 t) (V.2.2.2 t) (vpl V t) (fun i => g + vus V.1 (V.2.2.2 t) i) := c_go hF.uf (fun q hq => ⟨(k3 q hq).1, (k3 q hq).2.1, (k3 q hq).2.2.1⟩) k2 (fun i hi => ⟨(hj.fit ht hi).2.2, k4 i hi⟩)
  have hTH : TH V.1 (V.2.2.1 t) (V.2.2.2 t) (fun i => g + vus V.1 (V.2.2.2 t) i) (vpl V t) (fun i => g + vus V.1 (V.2.2.2 t) i) 2048 := by
    refine ⟨hj.1, fun i hi => ⟨(d3.1 i hi).1, ?_⟩, fun i j hi hj2 hne => ?_, fun i hi k hk hb q hq => ?_, fun i hi => ?_, fun i hi => (hj.fit ht hi).2.2⟩
    · have := hof i hi
      show g + vus V.1 (V.2.2.2 t) i + _ ≤ 2048
      omega
    · show g + vus V.1 (V.2.2.2 t) i + _ ≤ g + vus V.1 (V.2.2.2 t) j ∨ g + vus V.1 (V.2.2.2 t) j + _ ≤ g + vus V.1 (V.2.2.2 t) i
      rcases Nat.lt_or_gt_of_ne hne with c | c
      · have := vus_lt (w := V.1) (fr := V.2.2.2 t) c
        omega
      · have := vus_lt (w := V.1) (fr := V.2.2.2 t) c
        omega
    · obtain ⟨a1, a2, -⟩ := d3.2.2.2.2.2 i hi k hk hb q hq
      exact ⟨a1, a2⟩
    · obtain ⟨b1, b2, -⟩ := d3.2.2.1 i hi
      exact ⟨b1, b2⟩
  obtain ⟨w2, t1, t2, t3, t4, t5⟩ := q_turns (s := wt_uf s 111 w1) hTH hGO ht ⟨h0, by omega⟩ (by rw [wt_uf_at, c3' _ (by omega), h.tk (c := 3954) (by omega) ht]; exact hc.1) (by rw [wt_uf_at, c3' _ (by omega), h.tk (c := 3982) (by omega) ht]; exact d4) (by rw [wt_uf_at, c3' _ (by omega), h.tk (c := 3975) (by omega) ht]; exact d5)
    (fun f hf => by rw [wt_uf_at, c3' _ (by omega), c3' _ (by omega), h.pr (by omega), h.pr (by omega)]; exact ⟨rfl, rfl⟩) (by rw [wt_uf_at]; exact hMQ)
  rw [wt_uf_at] at t4 t5
  refine ⟨w2, ⟨w1, c1, by rw [t1, uf_uf]⟩, fun x hx hx2 => by rw [t4 x hx hx2, c3' x (by omega)], t3, fun x hx hx2 => ?_, t2⟩
  rw [t5 x hx (fun j hj2 => by have := hof j hj2; show x < g + vus V.1 (V.2.2.2 t) j ∨ g + vus V.1 (V.2.2.2 t) j + _ ≤ x; omega), c3' x hx2]
end
