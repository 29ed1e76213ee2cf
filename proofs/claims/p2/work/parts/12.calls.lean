/-! ===== Object(), System.arraycopy, Math.max and min, calls ===== -/
theorem mj_w_oi : (.instanceMethod objectInit : Jvm.Cond) ∈ lw_tbl := mj_at_mem (p := 1022) (by decide +kernel)
theorem mj_w_oc : (.code objectInit ⟨#[0xb1]⟩ 1 none : Jvm.Cond) ∈ lw_tbl := mj_at_mem (p := 1023) (by decide +kernel)
theorem mj_w_an : (.native arraycopyName : Jvm.Cond) ∈ lw_tbl := mj_at_mem (p := 2031) (by decide +kernel)
theorem mj_w_as : (.static arraycopyName : Jvm.Cond) ∈ lw_tbl := mj_at_mem (p := 2030) (by decide +kernel)
theorem mj_w_ai : (.initialized "java/lang/System" : Jvm.Cond) ∈ lw_tbl := mj_at_mem (p := 1010) (by decide +kernel)
theorem mj_w_mi : (.initialized "java/lang/Math" : Jvm.Cond) ∈ lw_tbl := mj_at_mem (p := 1007) (by decide +kernel)
theorem mj_w_xs : (.static Lib.Math.max.name : Jvm.Cond) ∈ lw_tbl := mj_at_mem (p := 1117) (by decide +kernel)
theorem mj_w_xc : (.code Lib.Math.max.name Lib.Math.max.code 2 (some .int) : Jvm.Cond) ∈ lw_tbl := mj_at_mem (p := 1118) (by decide +kernel)
theorem mj_w_ns : (.static Lib.Math.min.name : Jvm.Cond) ∈ lw_tbl := mj_at_mem (p := 4202) (by decide +kernel)
theorem mj_w_nc : (.code Lib.Math.min.name Lib.Math.min.code 2 (some .int) : Jvm.Cond) ∈ lw_tbl := mj_at_mem (p := 4203) (by decide +kernel)
theorem mj_cat_sum (G : mj_G) (st : mj_s Int32) : ((st.map (mj_rv G)).map fun v => v.category).sum = st.length := by
  induction st with
  | nil => rfl
  | cons v st ih =>
    rw [List.map_cons, List.map_cons, List.sum_cons, ih, mj_rv_cat, List.length_cons]
    omega
section
variable {X : mj_X} {ρ : Type} {R0 : ρ} {pc : Nat} {loc : mj_l Int32} {st : mj_s Int32} {h : mj_h Int32} {kn : mj_l Int32 → mj_s Int32 → mj_h Int32 → Option ρ}
theorem go_oinit {i : Nat} {v : mj_v Int32} {a : Nat} {rest : mj_s Int32} (C : mj_Cx X) (hf : 1 ≤ X.2.2.2.2.2.1.frames) (hl : 64 ≤ X.2.2.2.2.2.1.locals) (w1 : .methodLink X.2.1.1.cls i objectInit ∈ lw_tbl) (hd : decode X.2.1.2.1 pc = .ok (.invokespecial i, 3)) (hst : st = .inr (some a) :: rest) (hle : rest.length ≤ 8)
    (K : mj_Go X (pc + 3) loc rest h) : mj_Go X pc loc st h := by
  rcases X with ⟨G, e, p, l, en, R, s, m, args, below, meth, c, h0, Q⟩
  obtain ⟨hx, hb, hml, hr, hown, hlk, hnm, hts, hK, hR0, hsz, hol⟩ := C
  subst hst
  intro H locs ls hR h1 h2 h3 hL
  dsimp only at hf hl
  refine W.objInit hx hb hown (hts _ w1 rfl) (hts _ mj_w_oi rfl) (hts _ mj_w_oc rfl) rfl (by rw [hml]; exact hL.2.1) rfl hd hf (by
    show 2 * 0 + ((rest.map (mj_rv G)).map fun v => v.category).sum + 12 ≤ R.locals
    rw [mj_cat_sum]; omega) ?_
  exact K H locs ls hR h1 h2 h3 hL
/-- a row of ints that can be read: where it lies, what it holds -/
theorem mj_src {G : mj_G} {s : State} {H : Heap} {a n : Nat} {f : Nat → Int32} (hK : mj_KK G s) (hsz : G.2.1.size = G.1) (hR : mj_HR G h H) (hc : h[a]? = some (.inl (0, n, f))) :
    ∃ cell : Cell, H[mj_ad G a]? = some cell ∧ s.isArrayOf cell .int ∧ cell.vm ≠ .unknown ∧ n ≤ cell.slots.size ∧ ∀ j : Nat, j < n → cell.slots[j]? = some (.int (f j)) := by
  by_cases ha : 4 ≤ a
  · have hP := hR.2.2.2.1 (a - 4) _ (mj_ws_get ha hc)
    refine ⟨_, hP, (hK.1.2 0 _ rfl).1 n (fun j => .int (f j)), (fun q => by cases q), ?_, fun j hj => ?_⟩
    · show n ≤ (arrV _ _ _).slots.size
      rw [arrV_size]
      exact Nat.le_refl _
    · exact arrV_read _ _ hj
  · obtain ⟨cell, c1, c2, c3, c4, c5, c6, c7⟩ := mj_oldT hK hsz hR (by omega) hc
    exact ⟨cell, c1, c2, c3, c4, c6⟩
theorem go_acopy {i : Nat} (C : mj_Cx X) (hf : 1 ≤ X.2.2.2.2.2.1.frames) (hl : 64 ≤ X.2.2.2.2.2.1.locals) (w1 : .methodLink X.2.1.1.cls i arraycopyName ∈ lw_tbl) (hd : decode X.2.1.2.1 pc = .ok (.invokestatic i, 3)) (hE : mj_acopy mj_I loc st h kn none = some R0)
    (K : ∀ loc' st' h1, kn loc' st' h1 = some R0 → mj_Go X (pc + 3) loc' st' h1) : mj_Go X pc loc st h := by
  rcases X with ⟨G, e, p, l, en, R, s, m, args, below, meth, c, h0, Q⟩
  obtain ⟨hx, hb, hml, hr, hown, hlk, hnm, hts, hK, hR0, hsz, hol⟩ := C
  unfold mj_acopy at hE
  split at hE
  · rename_i n dp b sp a rest
    rw [mj_nth_eq, mj_nth_eq] at hE
    split at hE
    · rename_i n0 f n1 g hca hcb h4
      have hb4 := Nat.le_of_ble_eq_true h4
      split at hE
      · rename_i n' dp' sp' hn hdp hsp
        obtain ⟨a1, a2⟩ := mj_ofNat (Option.some.inj hn)
        obtain ⟨b1, b2⟩ := mj_ofNat (Option.some.inj hdp)
        obtain ⟨c1, c2⟩ := mj_ofNat (Option.some.inj hsp)
        split at hE
        · rename_i l1 l2 l3
          have l1 := Nat.le_of_ble_eq_true l1
          have l2 := Nat.le_of_ble_eq_true l2
          have l3 := Nat.le_of_ble_eq_true l3
          rw [mj_len_eq] at l3
          intro H locs ls hR h1 h2 h3 hL T hT XX
          dsimp only at hf hl
          obtain ⟨scr, hc0, hs2, hs3, hs4, hs5⟩ := mj_src hK hsz hR hca
          have hc1 : H[mj_ad G b]? = some (vp_cell G.2.2.2.2.1 (n1, .inl g)) := hR.2.2.2.1 (b - 4) _ (mj_ws_get hb4 hcb)
          obtain ⟨hs6, k0, hk0, cm0, hkk0⟩ := hs2
          obtain ⟨-, k1, hk1, cm1, hkk1⟩ := (hK.1.2 0 _ rfl).1 n1 (fun j => .int (g j))
          obtain ⟨vm', X', step⟩ := XX.arraycopy hx hown (hts _ w1 rfl) (hts _ mj_w_an rfl) (hts _ mj_w_as rfl) (hts _ mj_w_ai rfl) (src := mj_ad G a) (dst := mj_ad G b) (cs := scr) (cd := vp_cell G.2.2.2.2.1 (n1, .inl g)) (srcPos := sp) (destPos := dp) (n := n) (by rw [hT]; exact hc0) (by rw [hT]; exact hc1)
            hs6 (fun _ h => by cases h) hs3 (fun h => by cases h) hk0 hk1 hkk0 hkk1 (by simp [refKind]) c1 b1 a1
            (by rw [mj_nn c1, mj_nn a1, a2, c2]; omega)
            (by rw [mj_nn b1, mj_nn a1, a2, b2]; show ¬ _ > ((arrV G.2.2.2.2.1 n1 (fun j => .int (g j))).slots.size : Int); rw [arrV_size]; omega)
            (fun vm₁ _ i hi => by
              have e : scr.slots.getD (sp.toNatClampNeg + i) .null = .int (f (sp.toNatClampNeg + i)) := by
                rw [Array.getD_eq_getD_getElem?, hs5 _ (by omega)]
                rfl
              refine ⟨?_, ?_⟩
              · rw [e]
                rfl
              · rw [e]
                exact trivial)
            (g := F0 m pc ls (.int n :: .int dp :: .ref (mj_ad G b) :: .int sp :: .ref (mj_ad G a) :: rest.map (mj_rv G))) rfl (by rw [hml]; exact hL.2.1) (rest := rest.map (mj_rv G)) rfl (by rw [hb]; exact hd) hf (by
              show 2 * 0 + ((rest.map (mj_rv G)).map fun v => v.category).sum + _ ≤ _
              rw [mj_cat_sum]
              have hnf : nativeFrameWords "java/lang/System" "arraycopy" 5 = 7 := by decide +kernel
              rw [hnf]; omega)
          have e1 : copied scr (vp_cell G.2.2.2.2.1 (n1, .inl g)) sp dp n = vp_cell G.2.2.2.2.1 (n1, .inl (va_cpy f g sp.toNatClampNeg dp.toNatClampNeg n.toNatClampNeg)) := va_copiedX (fun z => .int z) scr G.2.2.2.2.1 f g hs5 (by omega)
          rw [e1, a2, b2, c2, ← mj_cpy_eq] at X' step
          have hl : mj_ad G b < H.size := (Array.getElem?_eq_some_iff.mp hc1).1
          have hheap : ((T.setVm vm').setCell (mj_ad G b) (vp_cell G.2.2.2.2.1 (n1, .inl (mj_cpy f g sp' dp' n')))).heap = H.setIfInBounds (mj_ad G b) (vp_cell G.2.2.2.2.1 (n1, .inl (mj_cpy f g sp' dp' n'))) := by rw [← hT]; rfl
          have oq : ∀ q : Nat, q ≠ mj_ad G b → (H.setIfInBounds (mj_ad G b) (vp_cell G.2.2.2.2.1 (n1, .inl (mj_cpy f g sp' dp' n'))))[q]? = H[q]? := fun q hq => by simp [Array.getElem?_setIfInBounds, Ne.symm hq]
          obtain ⟨s1, s2⟩ := mj_sz_put (c' := .inl (0, n1, mj_cpy f g sp' dp' n')) hcb rfl
          have KK := K _ _ _ hE _ (locs ++ (scr.stretch sp' n').zipIdx.map fun q => ⟨mj_ad G b, dp' + q.2⟩) ls (hR.put (H' := H.setIfInBounds (mj_ad G b) (vp_cell G.2.2.2.2.1 (n1, .inl (mj_cpy f g sp' dp' n')))) hb4 hcb (show (H.setIfInBounds (mj_ad G b) _)[mj_ad G b]? = some _ by simp [Array.getElem?_setIfInBounds, hl]) (by simp) oq) (by rw [s2]; exact h1) (by rw [s1]; exact h2) (fun q hq => by
            rcases List.mem_append.mp hq with h | h
            · exact h3 q h
            · obtain ⟨z, -, hz⟩ := List.mem_map.mp h
              rw [← hz]
              show G.1 ≤ mj_ad G b
              rw [mj_ad_ge hb4]
              exact Nat.le_add_right _ _) hL
          rw [s1, s2] at KK
          obtain ⟨t, q1, q2⟩ := KK _ hheap X'
          exact ⟨t, step t q1, q2⟩
        · cases hE
      · cases hE
    · cases hE
  · cases hE
theorem go_max {i : Nat} {a b : Int32} {rest : mj_s Int32} (C : mj_Cx X) (hf : 1 ≤ X.2.2.2.2.2.1.frames) (hl : 64 ≤ X.2.2.2.2.2.1.locals) (hcs : h.length - X.2.2.2.2.2.2.2.2.2.2.2.2.1.length ≤ X.2.2.2.2.2.1.cells ∧ mj_sz h - mj_sz X.2.2.2.2.2.2.2.2.2.2.2.2.1 ≤ X.2.2.2.2.2.1.slots) (w1 : .methodLink X.2.1.1.cls i Lib.Math.max.name ∈ lw_tbl) (hd : decode X.2.1.2.1 pc = .ok (.invokestatic i, 3)) (hst : st = .inl b :: .inl a :: rest) (hle : rest.length ≤ 8)
    (K : mj_Go X (pc + 3) loc (.inl (if a < b then b else a) :: rest) h) : mj_Go X pc loc st h := by
  rcases X with ⟨G, e, p, l, en, R, s, m, args, below, meth, c, h0, Q⟩
  obtain ⟨hx, hb, hml, hr, hown, hlk, hnm, hts, hK, hR0, hsz, hol⟩ := C
  subst hst
  intro H locs ls hR h1 h2 h3 hL
  dsimp only at hf hl hcs
  refine va_mmax hx hb (by rw [hml]; exact hL.2.1.symm) hown (hts _ w1 rfl) (hts _ mj_w_xs rfl) (hts _ mj_w_mi rfl) (hts _ mj_w_xc rfl) hf (by rw [mj_cat_sum]; omega) hcs.1 hcs.2 hd ?_
  exact K H locs ls hR h1 h2 h3 hL
theorem go_min {i : Nat} {a b : Int32} {rest : mj_s Int32} (C : mj_Cx X) (hf : 1 ≤ X.2.2.2.2.2.1.frames) (hl : 64 ≤ X.2.2.2.2.2.1.locals) (hcs : h.length - X.2.2.2.2.2.2.2.2.2.2.2.2.1.length ≤ X.2.2.2.2.2.1.cells ∧ mj_sz h - mj_sz X.2.2.2.2.2.2.2.2.2.2.2.2.1 ≤ X.2.2.2.2.2.1.slots) (w1 : .methodLink X.2.1.1.cls i Lib.Math.min.name ∈ lw_tbl) (hd : decode X.2.1.2.1 pc = .ok (.invokestatic i, 3)) (hst : st = .inl b :: .inl a :: rest) (hle : rest.length ≤ 8)
    (K : mj_Go X (pc + 3) loc (.inl (if b < a then b else a) :: rest) h) : mj_Go X pc loc st h := by
  rcases X with ⟨G, e, p, l, en, R, s, m, args, below, meth, c, h0, Q⟩
  obtain ⟨hx, hb, hml, hr, hown, hlk, hnm, hts, hK, hR0, hsz, hol⟩ := C
  subst hst
  intro H locs ls hR h1 h2 h3 hL
  dsimp only at hf hl hcs
  refine va_mmin hx hb (by rw [hml]; exact hL.2.1.symm) hown (hts _ w1 rfl) (hts _ mj_w_ns rfl) (hts _ mj_w_mi rfl) (hts _ mj_w_nc rfl) hf (by rw [mj_cat_sum]; omega) hcs.1 hcs.2 hd ?_
  exact K H locs ls hR h1 h2 h3 hL
end
/-! ### a call, once the callee's contract is there -/
def mj_rm (d mc ms : Nat) : Room := { frames := d + 1, cells := mc, slots := ms, locals := 64 * (d + 1) }
def mj_wm (e : mj_e) : List Jvm.Cond := .code e.1 e.2.1 e.2.2.1 e.2.2.2.1 :: mj_gw
def mj_Pc (G : mj_G) (as : List (mj_v Int32)) (h : mj_h Int32) : Array Value → State → Prop := va_Pc (as.map (mj_rv G)) (fun U => mj_HR G h U.heap ∧ mj_KK G U)
def mj_Qc (G : mj_G) (r : Option (mj_v Int32)) (h1 : mj_h Int32) : Array Value → State → Outcome → State → Prop := fun _ _ o t => o = .returned (r.map (mj_rv G)) ∧ mj_HR G h1 t.heap
/-- the contract of a method for one start -/
def mj_Met (G : mj_G) (l : Launch) (e : mj_e) (d : Nat) (as : List (mj_v Int32)) (h : mj_h Int32) (r : Option (mj_v Int32)) (h1 : mj_h Int32) : Prop := Met l e.1 (mj_wm e) (mj_rm d (h1.length - h.length) (mj_sz h1 - mj_sz h)) (mj_Pc G as h) (mj_Qc G r h1) (h1.length - h.length) (mj_sz h1 - mj_sz h) (mj_A G)
theorem mj_blind {G : mj_G} {as : List (mj_v Int32)} {h : mj_h Int32} : FrameBlind (mj_Pc G as h) := by
  intro a U g mk q
  obtain ⟨q0, q1, q2⟩ := q
  exact ⟨q0, q1, mj_KK.same (s := U) (show U.vm = (U.calling g mk a).vm from rfl) q2⟩
theorem mj_okm_spec {e : mj_e} (h : mj_Mok e) : (.code e.1 e.2.1 e.2.2.1 e.2.2.2.1 : Jvm.Cond) ∈ lw_tbl ∧ (.initialized e.1.cls : Jvm.Cond) ∈ lw_tbl ∧ plainName e.1.cls = true ∧ e.1.cls ≠ "java/lang/invoke/MethodHandle" ∧ e.1.cls ≠ "java/lang/invoke/VarHandle" ∧ (parseMethodDescriptor e.1.desc).map (fun d => d.parameters.length) = some e.2.2.2.2.2.1 ∧ e.2.2.1 ≤ 40 ∧ e.2.2.2.2.2.1 + (if e.2.2.2.2.1 = 2 then 0 else 1) ≤ e.2.2.1 ∧
    (e.2.2.2.2.1 = 0 → (.instanceMethod e.1 : Jvm.Cond) ∈ lw_tbl ∧ (.selects e.1.cls e.1 e.1 : Jvm.Cond) ∈ lw_tbl) ∧ (e.2.2.2.2.1 = 1 → (.instanceMethod e.1 : Jvm.Cond) ∈ lw_tbl ∧ e.1.name = "<init>" ∧ e.2.2.2.1 = none) ∧ (e.2.2.2.2.1 = 2 → (.static e.1 : Jvm.Cond) ∈ lw_tbl) := by
  obtain ⟨y, cc, ml, ret, kind, np, ps, cd⟩ := e
  obtain ⟨h1, h2⟩ := h
  unfold mj_okm at h1
  simp only [Bool.and_eq_true, decide_eq_true_eq] at h1
  obtain ⟨⟨⟨⟨⟨⟨a1, a2⟩, a3⟩, a4⟩, a5⟩, a6⟩, a7⟩ := h1
  refine ⟨mj_at_mem h2, ?_⟩
  split at a7
  · rename_i p0 pi pn ps0 ps1
    simp only [Bool.and_eq_true, decide_eq_true_eq] at a7
    obtain ⟨b1, b2⟩ := a7
    refine ⟨mj_at_mem b1, a1, a2, a3, a4, a5, a6, ?_, ?_, ?_⟩
    · intro hk
      dsimp only at hk
      subst hk
      simp only [Bool.and_eq_true, decide_eq_true_eq] at b2
      exact ⟨mj_at_mem b2.1, mj_at_mem b2.2⟩
    · intro hk
      dsimp only at hk
      subst hk
      simp only [Bool.and_eq_true, decide_eq_true_eq] at b2
      exact ⟨mj_at_mem b2.1.1, b2.1.2, b2.2⟩
    · intro hk
      dsimp only at hk
      subst hk
      simp only [decide_eq_true_eq] at b2
      exact mj_at_mem b2
  · cases a7
