/-! ===== classes by their words; heaps ===== -/
def mj_gw : List Jvm.Cond := lw_tbl.filter goodWord
theorem mj_in_gw {ws : List Jvm.Cond} (ps : List Nat) (h : ws.map some = ps.map mj_at) (hg : ws.all goodWord = true) : ∀ w ∈ ws, w ∈ mj_gw := by
  intro w hw
  have h1 : some w ∈ ps.map mj_at := by rw [← h]; exact List.mem_map_of_mem hw
  obtain ⟨p, -, hp⟩ := List.mem_map.mp h1
  exact List.mem_filter.mpr ⟨mj_at_mem hp, List.all_eq_true.mp hg w hw⟩
theorem wX0 : ∀ w ∈ u_ws RX0 TX0 5, w ∈ mj_gw := mj_in_gw [2151, 2153, 2155, 2157, 2159] (by decide +kernel) (by decide +kernel)
theorem wX1 : ∀ w ∈ u_ws RX1 TX1 2, w ∈ mj_gw := mj_in_gw [1105, 1107] (by decide +kernel) (by decide +kernel)
theorem wX2 : ∀ w ∈ u_ws RX2 TX2 5, w ∈ mj_gw := mj_in_gw [2129, 2131, 2133, 2135, 2137] (by decide +kernel) (by decide +kernel)
theorem wX3 : ∀ w ∈ u_ws RX3 TX3 1, w ∈ mj_gw := mj_in_gw [1120] (by decide +kernel) (by decide +kernel)
theorem wX4 : ∀ w ∈ u_ws RX4 TX4 3, w ∈ mj_gw := mj_in_gw [2116, 2118, 2120] (by decide +kernel) (by decide +kernel)
theorem wX5 : ∀ w ∈ u_ws RX5 TX5 10, w ∈ mj_gw := mj_in_gw [1072, 1074, 1076, 1078, 1080, 1082, 1084, 1086, 1088, 1090] (by decide +kernel) (by decide +kernel)
theorem wX6 : ∀ w ∈ u_ws RX6 TX6 5, w ∈ mj_gw := mj_in_gw [1035, 1037, 1039, 1041, 1043] (by decide +kernel) (by decide +kernel)
theorem wX7 : ∀ w ∈ u_ws RX7 TX7 18, w ∈ mj_gw := mj_in_gw [1226, 1228, 1230, 1232, 1234, 1236, 1238, 2000, 2002, 2004, 2006, 2008, 2010, 2012, 2014, 2016, 2018, 2020] (by decide +kernel) (by decide +kernel)
theorem wX8 : ∀ w ∈ u_ws RX8 TX8 4, w ∈ mj_gw := mj_in_gw [1140, 1142, 1144, 1146] (by decide +kernel) (by decide +kernel)
theorem wX9 : ∀ w ∈ u_ws RX9 TX9 9, w ∈ mj_gw := mj_in_gw [2082, 2084, 2086, 2088, 2090, 2092, 2094, 2096, 2098] (by decide +kernel) (by decide +kernel)
theorem wX10 : ∀ w ∈ u_ws RX10 TX10 7, w ∈ mj_gw := mj_in_gw [2169, 2171, 2173, 2175, 2177, 2179, 2181] (by decide +kernel) (by decide +kernel)
theorem wX11 : ∀ w ∈ u_ws RX11 TX11 15, w ∈ mj_gw := mj_in_gw [5116, 5118, 5120, 5122, 5124, 5126, 5128, 5130, 5132, 5134, 5136, 5138, 5140, 5142, 5144] (by decide +kernel) (by decide +kernel)
theorem mj_cls : ∀ q ∈ vwCl, ∃ ty : Nat → FieldType, (∀ k, k < q.2.2 → parseFieldDescriptor (q.2.1 k).2.2.1 = some (ty k)) ∧ (∀ a, a < q.2.2 → ∀ b, b < q.2.2 → a ≠ b → (q.2.1 a).2.1 ≠ (q.2.1 b).2.1) ∧ (∀ w ∈ u_ws q.1 q.2.1 q.2.2, w ∈ mj_gw) := by
  unfold vwCl
  simp only [List.forall_mem_cons]
  exact ⟨⟨tyX0, tyX0_ok, nmX0, wX0⟩, ⟨tyX1, tyX1_ok, nmX1, wX1⟩, ⟨tyX2, tyX2_ok, nmX2, wX2⟩, ⟨tyX3, tyX3_ok, nmX3, wX3⟩, ⟨tyX4, tyX4_ok, nmX4, wX4⟩, ⟨tyX5, tyX5_ok, nmX5, wX5⟩, ⟨tyX6, tyX6_ok, nmX6, wX6⟩, ⟨tyX7, tyX7_ok, nmX7, wX7⟩, ⟨tyX8, tyX8_ok, nmX8, wX8⟩, ⟨tyX9, tyX9_ok, nmX9, wX9⟩, ⟨tyX10, tyX10_ok, nmX10, wX10⟩, ⟨tyX11, tyX11_ok, nmX11, wX11⟩, fun _ h => absurd h List.not_mem_nil⟩
theorem mj_ad_ge {G : mj_G} {a : Nat} (h : 4 ≤ a) : mj_ad G a = G.1 + (a - 4) := by
  unfold mj_ad
  rw [if_neg (by omega)]
theorem mj_ws_get {G : mj_G} {h : mj_h Int32} {a : Nat} {c : mj_c Int32} (h4 : 4 ≤ a) (hc : h[a]? = some c) : (mj_ws G h)[a - 4]? = some (mj_ad G a, mj_E G c) := by
  unfold mj_ws
  rw [List.getElem?_mapIdx, List.getElem?_drop, show 4 + (a - 4) = a by omega, hc, mj_ad_ge h4]
  rfl
theorem mj_ws_D {G : mj_G} {h : mj_h Int32} : va_D (mj_A G) (mj_ws G h) := by
  have key : ∀ (i : Nat) (q : Nat × va_E), (mj_ws G h)[i]? = some q → q.1 = G.1 + i := by
    intro i q hq
    unfold mj_ws at hq
    rw [List.getElem?_mapIdx] at hq
    obtain ⟨c, -, rfl⟩ := Option.map_eq_some_iff.mp hq
    rfl
  refine ⟨fun i j p q hp hq e => ?_, fun k q hq => ?_⟩
  · rw [key i p hp, key j q hq] at e
    omega
  · rw [key k q hq]
    exact Nat.le_add_right _ _
theorem mj_ws_set {G : mj_G} {h : mj_h Int32} {a : Nat} {c : mj_c Int32} (h4 : 4 ≤ a) : mj_ws G (h.set a c) = (mj_ws G h).set (a - 4) (mj_ad G a, mj_E G c) := by
  apply List.ext_getElem?
  intro i
  unfold mj_ws
  rw [List.getElem?_mapIdx, List.getElem?_drop, List.getElem?_set, List.getElem?_set, List.getElem?_mapIdx, List.getElem?_drop]
  by_cases hi : a = 4 + i
  · subst hi
    simp only [List.length_mapIdx, List.length_drop, if_true]
    rw [if_pos (show 4 + i - 4 = i by omega)]
    by_cases hl : 4 + i < h.length
    · rw [if_pos hl, if_pos (by omega), mj_ad_ge h4, show 4 + i - 4 = i by omega]
      rfl
    · rw [if_neg hl, if_neg (by omega)]
      rfl
  · rw [if_neg hi, if_neg (by omega)]
theorem mj_ws_app {G : mj_G} {h : mj_h Int32} {c : mj_c Int32} (h4 : 4 ≤ h.length) : mj_ws G (h ++ [c]) = mj_ws G h ++ [(G.1 + (h.length - 4), mj_E G c)] := by
  unfold mj_ws
  rw [List.drop_append_of_le_length h4, List.mapIdx_append]
  simp
theorem mj_HR.put {G : mj_G} {h : mj_h Int32} {H H' : Heap} {a : Nat} {c0 c' : mj_c Int32} (hR : mj_HR G h H) (h4 : 4 ≤ a) (hc : h[a]? = some c0) (he : va_at G.2.2.2.1 vwCl (mj_ad G a, mj_E G c') H') (z : H'.size = H.size) (oq : ∀ q, q ≠ mj_ad G a → H'[q]? = H[q]?) : mj_HR G (mj_put h a c') H' := by
  rw [mj_put_eq]
  obtain ⟨r1, r2, r3, r4, r5⟩ := hR
  refine ⟨by simpa using r1, ?_, by simpa [z] using r3, ?_, fun q hq => ?_⟩
  · rw [← r2, List.take_set_of_le h4]
  · rw [mj_ws_set h4]
    exact r4.set mj_ws_D (mj_ws_get h4 hc) he oq
  · rw [oq q (by rw [mj_ad_ge h4]; omega)]
    exact r5 q hq
theorem mj_HR.push {G : mj_G} {h : mj_h Int32} {H H' : Heap} {c' : mj_c Int32} (hR : mj_HR G h H) (he : va_at G.2.2.2.1 vwCl (H.size, mj_E G c') H') (z : H'.size = H.size + 1) (oq : ∀ q, q < H.size → H'[q]? = H[q]?) : mj_HR G (mj_app h c') H' := by
  rw [mj_app_eq]
  obtain ⟨r1, r2, r3, r4, r5⟩ := hR
  refine ⟨by simp; omega, ?_, by simp [z, r3]; omega, ?_, fun q hq => ?_⟩
  · rw [List.take_append_of_le_length r1, r2]
  · rw [mj_ws_app r1]
    refine (r4.kept fun k x hx => oq x.1 ((r4 k x hx).lt)).app fun k x hx => ?_
    have hz : k < 1 := (List.getElem?_eq_some_iff.mp hx).1
    rw [show k = 0 by omega] at hx
    cases hx
    rw [← r3]
    exact he
  · rw [oq q (by rw [r3]; omega)]
    exact r5 q hq
theorem mj_HR.old {G : mj_G} {h : mj_h Int32} {H : Heap} (hR : mj_HR G h H) {a : Nat} (ha : a < 4) : h[a]? = G.2.2.2.2.2.2.2[a]? := by
  rw [← hR.2.1, List.getElem?_take_of_lt ha]
theorem mj_HR.S {G : mj_G} {h0 h : mj_h Int32} {H0 H : Heap} {locs : List Loc} (h1 : mj_HR G h0 H0) (h2 : mj_HR G h H) (hl : h0.length ≤ h.length) (h3 : ∀ q ∈ locs, mj_A G q.base) : va_S (mj_A G) H0 H locs := by
  obtain ⟨a1, a2, a3, a4, a5⟩ := h1
  obtain ⟨b1, b2, b3, b4, b5⟩ := h2
  refine ⟨by rw [a3, b3]; omega, fun q hq hA => ?_, h3⟩
  have hlt : q < G.1 := Nat.not_le.mp hA
  rw [a5 q hlt, b5 q hlt]
theorem mj_locs {G : mj_G} {locs : List Loc} {a i : Nat} (h3 : ∀ q ∈ locs, mj_A G q.base) (h4 : 4 ≤ a) : ∀ q ∈ locs ++ [⟨mj_ad G a, i⟩], mj_A G q.base := by
  intro q hq
  rcases List.mem_append.mp hq with h | h
  · exact h3 q h
  · rw [List.mem_singleton] at h
    subst h
    show G.1 ≤ mj_ad G a
    rw [mj_ad_ge h4]
    exact Nat.le_add_right _ _
theorem mj_nn {z : Int32} (h : ¬ z < 0) : z.toInt = (z.toNatClampNeg : Int) := by
  have h0 : (0 : Int) ≤ z.toInt := by
    have := Int32.not_lt.mp h
    simpa using Int32.le_iff_toInt_le.mp this
  show z.toInt = ((z.toInt.toNat : Nat) : Int)
  omega
theorem mj_ofNat {z : Int32} {k : Nat} (h : z.toInt = Int.ofNat k) : ¬ z < 0 ∧ z.toNatClampNeg = k := by
  have h0 : ¬ z < 0 := by
    intro q
    have := Int32.lt_iff_toInt_lt.mp q
    rw [h, Int32.toInt_zero] at this
    have h2 : (0 : Int) ≤ Int.ofNat k := Int.natCast_nonneg k
    omega
  refine ⟨h0, ?_⟩
  have h1 := mj_nn h0
  rw [h] at h1
  have : (k : Int) = (z.toNatClampNeg : Int) := h1
  omega
theorem mj_ix_spec {i : Int32} {n k : Nat} (h : mj_ix i.toInt n = some k) : ¬ (i < 0 ∨ n ≤ i.toNatClampNeg) ∧ i.toNatClampNeg = k ∧ k < n := by
  unfold mj_ix at h
  split at h
  · rename_i q hq
    split at h
    · rename_i hb
      cases h
      have hb' := Nat.le_of_ble_eq_true hb
      obtain ⟨h1, h2⟩ := mj_ofNat hq
      refine ⟨fun z => z.elim h1 (fun z => ?_), h2, by omega⟩
      rw [h2] at z
      omega
    · cases h
  · cases h
theorem mj_upd_eq {V : Type} (f : Nat → V) (k : Nat) (v : V) : mj_upd f k v = fun j => if j = k then v else f j := by
  funext j
  unfold mj_upd
  cases hb : Nat.beq j k with
  | true => rw [if_pos (Nat.eq_of_beq_eq_true hb)]
  | false => rw [if_neg (Nat.ne_of_beq_eq_false hb)]
theorem mj_sz_put {V : Type} {h : mj_h V} {a : Nat} {c0 c' : mj_c V} (hc : h[a]? = some c0) (e : mj_csz c' = mj_csz c0) : mj_sz (mj_put h a c') = mj_sz h ∧ (mj_put h a c').length = h.length := by
  rw [mj_put_eq]
  refine ⟨?_, by simp⟩
  unfold mj_sz
  have hlt := (List.getElem?_eq_some_iff.mp hc).1
  have h1 : (h.set a c').map mj_csz = h.map mj_csz := by
    apply List.ext_getElem?
    intro i
    rw [List.getElem?_map, List.getElem?_map, List.getElem?_set]
    by_cases hi : a = i
    · subst hi
      rw [if_pos rfl, if_pos hlt, hc]
      simp [e]
    · rw [if_neg hi]
  rw [h1]
theorem mj_sz_app {V : Type} {h : mj_h V} {c' : mj_c V} : mj_sz (mj_app h c') = mj_sz h + mj_csz c' ∧ (mj_app h c').length = h.length + 1 := by
  rw [mj_app_eq]
  refine ⟨?_, by simp⟩
  unfold mj_sz
  simp
theorem mj_cpy_eq {V : Type} (f g : Nat → V) (s d n : Nat) : mj_cpy f g s d n = va_cpy f g s d n := by
  funext k
  unfold mj_cpy va_cpy
  by_cases h : d ≤ k ∧ k < d + n
  · rw [if_pos h]
    have h1 : Nat.ble d k = true := Nat.ble_eq_true_of_le h.1
    have h2 : Nat.ble (k + 1) (d + n) = true := Nat.ble_eq_true_of_le h.2
    rw [h1, h2]
    rfl
  · rw [if_neg h]
    have h1 : (Nat.ble d k && Nat.ble (k + 1) (d + n)) = false := by
      cases hx : Nat.ble d k && Nat.ble (k + 1) (d + n) with
      | false => rfl
      | true =>
        rw [Bool.and_eq_true] at hx
        exact absurd ⟨Nat.le_of_ble_eq_true hx.1, Nat.le_of_ble_eq_true hx.2⟩ h
    rw [h1]

