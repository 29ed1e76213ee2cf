/-! ===== a run of the mini-machine is a run of the machine ===== -/
theorem mj_args_spec {V : Type} : ∀ (n : Nat) (st : mj_s V) (acc as : List (mj_v V)) (rest : mj_s V), mj_args n st acc = some (as, rest) → ∃ bs : List (mj_v V), bs.length = n ∧ st = bs ++ rest ∧ as = bs.reverse ++ acc := by
  intro n
  induction n with
  | zero =>
    intro st acc as rest h
    have h : some (acc, st) = some (as, rest) := h
    cases h
    exact ⟨[], rfl, rfl, rfl⟩
  | succ n ih =>
    intro st acc as rest h
    cases st with
    | nil =>
      have h : (none : Option (List (mj_v V) × mj_s V)) = some (as, rest) := h
      cases h
    | cons v st =>
      obtain ⟨bs, h1, h2, h3⟩ := ih st (v :: acc) as rest h
      exact ⟨v :: bs, by simp [h1], by rw [h2]; rfl, by rw [h3]; simp⟩
theorem mj_ent_len {V : Type} : ∀ (n : Nat) (as : List (mj_v V)), (mj_ent n as).length = n := by
  intro n
  induction n with
  | zero => intro as; rfl
  | succ n ih =>
    intro as
    cases as with
    | nil => show (mj_ent n []).length + 1 = _; rw [ih]
    | cons a as => show (mj_ent n as).length + 1 = _; rw [ih]
theorem mj_ent_get {V : Type} : ∀ (n : Nat) (as : List (mj_v V)) (i : Nat) (v : mj_v V), (mj_ent n as)[i]? = some (some v) → as[i]? = some v := by
  intro n
  induction n with
  | zero =>
    intro as i v h
    have h : ([] : mj_l V)[i]? = some (some v) := h
    simp at h
  | succ n ih =>
    intro as i v h
    cases as with
    | nil =>
      have h : ((none : Option (mj_v V)) :: mj_ent n [])[i]? = some (some v) := h
      cases i with
      | zero => simp at h
      | succ i => rw [List.getElem?_cons_succ] at h; have := ih [] i v h; simp at this
    | cons a as =>
      have h : (some a :: mj_ent n as)[i]? = some (some v) := h
      cases i with
      | zero => simpa using h
      | succ i => rw [List.getElem?_cons_succ] at h; rw [List.getElem?_cons_succ]; exact ih as i v h
theorem mj_lg_len (G : mj_G) (as : List (mj_v Int32)) : (lg_sl (as.map (mj_rv G))).length = as.length := by
  induction as with
  | nil => rfl
  | cons a as ih =>
    unfold lg_sl at ih ⊢
    rw [List.map_cons, List.flatMap_cons, List.length_append, ih, if_neg (by rw [mj_rv_cat]; decide)]
    simp
    omega
theorem mj_lv_args (G : mj_G) : ∀ (as : List (mj_v Int32)) (k i : Nat) (v : mj_v Int32), as[i]? = some v → (k + i, mj_rv G v) ∈ lv_args k (as.map (mj_rv G)) := by
  intro as
  induction as with
  | nil => intro k i v h; simp at h
  | cons a as ih =>
    intro k i v h
    rw [List.map_cons, lv_args, if_neg (by rw [mj_rv_cat]; decide)]
    cases i with
    | zero =>
      simp at h
      rw [h]
      exact List.mem_cons_self
    | succ i =>
      refine List.mem_cons_of_mem _ ?_
      rw [show k + (i + 1) = k + 1 + i by omega]
      exact ih (k + 1) i v (by simpa using h)
theorem mj_LR_entry (G : mj_G) (as : List (mj_v Int32)) (ml : Nat) (h : as.length ≤ ml) : mj_LR G ((lg_sl (as.map (mj_rv G)) ++ List.replicate (ml - (lg_sl (as.map (mj_rv G))).length) Slot.unset).toArray) ml (mj_ent ml as) := by
  have hl := lv_entry (as.map (mj_rv G)) (n := ml) (by rw [mj_lg_len]; exact h)
  refine ⟨mj_ent_len ml as, hl.1, hl.2.1, fun q hq => ?_⟩
  obtain ⟨i, v, h1, rfl⟩ := (mj_al_mem G _ 0 q).mp hq
  exact hl.2.2 _ (mj_lv_args G as 0 i v (mj_ent_get ml as i v h1))
/-- the instruction that ends a method, with the answer on the stack -/
def mj_rt (G : mj_G) (e : mj_e) (r : Option (mj_v Int32)) (pc : Nat) (stk : List Value) : Prop := match r with
  | none => decode e.2.1 pc = .ok (.return_, 1) ∧ stk = [] ∧ e.2.2.2.1 = none
  | some (.inl v) => decode e.2.1 pc = .ok (.ireturn, 1) ∧ stk = [.int v] ∧ (e.2.2.2.1 = some .int ∨ (e.2.2.2.1 = some .boolean ∧ (v = 0 ∨ v = 1)))
  | some (.inr (some a)) => decode e.2.1 pc = .ok (.areturn, 1) ∧ stk = [.ref (mj_ad G a)] ∧ e.2.2.2.1 = some (.object "GrowingStacks$Task")
  | some (.inr none) => False
def mj_End (X : mj_X) (r : Option (mj_v Int32)) (h1 : mj_h Int32) : Prop := match X with
  | (G, e, p, l, en, R, s, m, args, below, meth, c, h0, Q) => ∀ (H1 : Heap) (locs1 : List Loc) (pc1 : Nat) (ls1 : Array Slot) (stk : List Value), mj_HR G h1 H1 → (∀ q ∈ locs1, mj_A G q.base) → mj_rt G e r pc1 stk →
    W p l en R s m args below meth c H1 locs1 (h1.length - h0.length) (mj_sz h1 - mj_sz h0) Q (F0 m pc1 ls1 stk)
theorem mj_met {G : mj_G} {l : Launch} {e : mj_e} {d : Nat} {as : List (mj_v Int32)} {h : mj_h Int32} {r : Option (mj_v Int32)} {h1 : mj_h Int32} (hM : mj_Mok e) (hsz : G.2.1.size = G.1) (hol : ∀ a, a < 4 → ∃ (n : Nat) (f : Nat → Int32), G.2.2.2.2.2.2.2[a]? = some (.inl (0, n, f))) (hlen : as.length ≤ e.2.2.1)
    (hgo : ∀ (p : Program) (en : Env) (s : State) (m : MethodId) (args : Array Value) (below : List Frame) (meth : Method) (c : Code) (Q : State → Prop), mj_Cx (G, e, p, l, en, mj_rm d (h1.length - h.length) (mj_sz h1 - mj_sz h), s, m, args, below, meth, c, h, Q) → mj_End (G, e, p, l, en, mj_rm d (h1.length - h.length) (mj_sz h1 - mj_sz h), s, m, args, below, meth, c, h, Q) r h1 → mj_Go (G, e, p, l, en, mj_rm d (h1.length - h.length) (mj_sz h1 - mj_sz h), s, m, args, below, meth, c, h, Q) 0 (mj_ent e.2.2.1 as) [] h) : mj_Met G l e d as h r h1 := by
  obtain ⟨o1, o2, o3, o4, o5, o6, o7, o8, o9, o10, o11⟩ := mj_okm_spec hM
  unfold mj_Met
  refine Met.ofW (cc := e.2.1) (maxL := e.2.2.1) (ret := e.2.2.2.1) (ws' := mj_gw) o3 rfl ?_
  intro p en s m args below meth c s₁ B hml hv
  obtain ⟨rfl, hR, hK⟩ := hv
  have hts := atoms_spec (ws := mj_wm e) B.pre
  have C : mj_Cx (G, e, p, l, en, mj_rm d (h1.length - h.length) (mj_sz h1 - mj_sz h), s, m, (as.map (mj_rv G)).toArray, below, meth, c, h, MQ below (mj_Qc G r h1) (as.map (mj_rv G)).toArray s (h1.length - h.length) (mj_sz h1 - mj_sz h) (mj_A G)) :=
    ⟨B.exec, B.bytes, hml, B.returns, findClass_of_methodNamed B.named, B.notSynchronized, (fun hq => (name_of_methodNamed B.named B.method).1.trans hq), fun w hw hg => hts w (List.mem_cons_of_mem _ (List.mem_filter.mpr ⟨hw, hg⟩)), hK, hR, hsz, hol⟩
  have hx := B.exec
  have hb := B.bytes
  have hr := B.returns
  have hlocks := B.notSynchronized
  have E : mj_End (G, e, p, l, en, mj_rm d (h1.length - h.length) (mj_sz h1 - mj_sz h), s, m, (as.map (mj_rv G)).toArray, below, meth, c, h, MQ below (mj_Qc G r h1) (as.map (mj_rv G)).toArray s (h1.length - h.length) (mj_sz h1 - mj_sz h) (mj_A G)) r h1 := by
    intro H1 locs1 pc1 ls1 stk hR1 hlo hrt
    rcases r with _ | (v | (_ | a))
    · obtain ⟨hd, rfl, hret⟩ := hrt
      rw [hret] at hr
      exact W.vret hx hb hr (fun t ht hW => ⟨rfl, by rw [ht]; exact hR1⟩) hlo hd hlocks
    · obtain ⟨hd, rfl, hret⟩ := hrt
      rcases hret with hret | ⟨hret, hv⟩
      · rw [hret] at hr
        exact W.iret hx hb hr (fun t ht hW => ⟨rfl, by rw [ht]; exact hR1⟩) hlo hd hlocks
      · rw [hret] at hr
        exact W.zret hx hb hr (by rcases hv with rfl | rfl <;> rfl) (fun t ht hW => ⟨rfl, by rw [ht]; exact hR1⟩) hlo hd hlocks
    · exact hrt.elim
    · obtain ⟨hd, rfl, hret⟩ := hrt
      rw [hret] at hr
      exact W.aret hx hb hr (Or.inl ⟨_, rfl⟩) (Or.inr ⟨_, rfl⟩) (fun t ht hW => ⟨rfl, by rw [ht]; exact hR1⟩) hlo hd hlocks
  have Gk := hgo p en s m _ below meth c _ C E s.heap [] _ hR (Nat.le_refl _) (Nat.le_refl _) (fun q hq => by cases hq) (mj_LR_entry G as e.2.2.1 hlen)
  rw [Nat.sub_self, Nat.sub_self] at Gk
  rw [lg_entry_eq]
  exact Gk
theorem mj_run_go {G : mj_G} {p : Program} {l : Launch} {en : Env} {R : Room} {s : State} {m : MethodId} {args : Array Value} {below : List Frame} {meth : Method} {c : Code} {H : Heap} {locs : List Loc} {cells slots mc ms pc : Nat} {ls : Array Slot} {st0 rest : List Value} {Q : State → Prop} {r : Option (mj_v Int32)} {h1 : mj_h Int32} {a : Array Value}
    (hr : va_Run p l en R s m args below meth c H locs cells slots mc ms (F0 m pc ls st0) rest (mj_Qc G r h1 a) (mj_A G)) (hlo : ∀ q ∈ locs, mj_A G q.base)
    (kk : ∀ (H1 : Heap) (locs1 : List Loc), mj_HR G h1 H1 → (∀ q ∈ locs1, mj_A G q.base) → W p l en R s m args below meth c H1 locs1 (cells + mc) (slots + ms) Q (F0 m (pc + 3) ls ((r.map (mj_rv G)).toList ++ rest))) : W p l en R s m args below meth c H locs cells slots Q (F0 m pc ls st0) := by
  intro T hT X
  obtain ⟨v, st₀, t, T', L, h0, X', hL, e1, e2, hq, st⟩ := hr T hT X
  obtain ⟨q1, q2⟩ := hq
  cases q1
  obtain ⟨t2, a1, b1⟩ := kk t.heap (locs ++ L) q2 (fun q hq => (List.mem_append.mp hq).elim (hlo q) (hL q)) T' e1 X'
  exact ⟨t2, st t2 a1, b1⟩
theorem mj_pay {e : mj_e} {args : Array Value} {s : State} (hM : mj_Mok e) (hts : ∀ w ∈ lw_tbl, goodWord w = true → w.before args s = true) : ∀ w ∈ mj_wm e, ∀ (a' : Array Value) (U : State), s.WarmedH U.vm → w.before a' U = true := by
  intro w hw a' U hW
  have hw' : w ∈ lw_tbl ∧ goodWord w = true := by
    rcases List.mem_cons.mp hw with rfl | hw
    · exact ⟨(mj_okm_spec hM).1, rfl⟩
    · exact List.mem_filter.mp hw
  exact word_at hW (good_of_word hw'.2) (hts w hw'.1 hw'.2)
