/-! ===== the class: a piece becomes the spare ===== -/
section
variable {b lim : Nat} {s s' : wt_S} {V V' : vV} {zs zs' : List (vP × Nat)} {fr fr' : List Nat} {t np k n : Nat}
/-- a piece gets another number -/
def zre (t n n' : Nat) (z : vP × Nat) : vP × Nat := (if vkey t n z.1 then (z.1.1, z.1.2.1, z.1.2.2.1, n') else z.1, z.2)
theorem zre_y {n' : Nat} {z : vP × Nat} (h1 : z.1.2.2.1 = t) (h2 : z.1.2.2.2 = n) : (zre t n n' z).1 = (z.1.1, z.1.2.1, z.1.2.2.1, n') := if_pos (by simp [vkey, h1, h2])
theorem zre_n {n' : Nat} {z : vP × Nat} (h : ¬ (z.1.2.2.1 = t ∧ z.1.2.2.2 = n)) : zre t n n' z = z := by
  unfold zre
  rw [if_neg (by simpa [vkey] using h)]
theorem zre_1 {n' : Nat} {z : vP × Nat} : (zre t n n' z).2 = z.2 ∧ (zre t n n' z).1.1 = z.1.1 ∧ (zre t n n' z).1.2.1 = z.1.2.1 ∧ (zre t n n' z).1.2.2.1 = z.1.2.2.1 := by
  unfold zre
  by_cases c : vkey t n z.1 = true
  · rw [if_pos c]; exact ⟨rfl, rfl, rfl, rfl⟩
  · rw [if_neg c]; exact ⟨rfl, rfl, rfl, rfl⟩
theorem c_renL (h : RBt b lim s V zs fr t) (hx : CX b lim) (hj : VJ lim V) (ht : t < 6) {y : vP × Nat} (hy : y ∈ zs) (y1 : y.1.2.2.1 = t) (y2 : y.1.2.2.2 = n) (hn1 : n < 999) (hnl : ∀ z ∈ zs, z.1.2.2.1 = t → z.1.2.2.2 ≤ n) (hof : vnof V t n) (hof2 : vnof V t 1000) (h66 : V.1 (4066 + t) = nI n) (hn0 : 1 ≤ n) : ∃ s', (wt_wr s (b + 17 + 2 * t) 13 (nI y.2) fun s8 => (wt_cl (gX9_writeLog b s8 3 (nI y.2)) fun _ s9 => some ((), s9))) = some ((), s') ∧ RBt b lim s' (vlg1 (vps V (vren t n 1000 V.2.1))) (zs.map (zre t n 1000)) fr t ∧ XF b t s s' ∧ ∀ j, j ≠ 13 → s' (b + 17 + 2 * t) j = s (b + 17 + 2 * t) j := by
  have hb := hx.b
  have hid := (h.2.1.mem hy).1
  obtain ⟨s2, w1, w2⟩ := c_writeLog (b := b) (s := wt_u s (b + 17 + 2 * t) 13 (nI y.2)) (i1 := 3) hid
  have hX : XF b t s s2 := XF.u.trans (XF.lf w2)
  have hT3 : s2 (b + 17 + 2 * t) = mj_upd (s (b + 17 + 2 * t)) 13 (nI y.2) := by rw [w2 _ (by omega) (by omega), wt_u_at]
  have tj : ∀ j, j ≠ 13 → s2 (b + 17 + 2 * t) j = s (b + 17 + 2 * t) j := fun j hj => by rw [hT3, mj_upd_ne hj]
  have hc : ∀ c, c ≠ b + 11 → c ≠ b + 12 → c ≠ b + 17 + 2 * t → s2 c = s c := fun c c1 c2 c3 => by rw [w2 c c1 c2, wt_u_ne c3]
  have h5 : s2 (b + 5) = s (b + 5) := hc _ (by omega) (by omega) (by omega)
  have h6 : s2 (b + 6) = s (b + 6) := hc _ (by omega) (by omega) (by omega)
  refine ⟨s2, by rw [wr_eq, w1, cl_some], ?_, hX, tj⟩
  obtain ⟨⟨a0, a1, a2⟩, -, ⟨p1, p2⟩, ⟨r1, r2⟩, g, zz⟩ := h.2.2.2.1.2
  have hw : ∀ i, i ≠ 2067 → (vlg1 (vps V (vren t n 1000 V.2.1))).1 i = V.1 i := fun i hi => vlg1_ne hi
  have hot : OT t V (vlg1 (vps V (vren t n 1000 V.2.1))) := OT.ren.trans (OT.lg ht)
  have hud : ∀ m, vud (vlg1 (vps V (vren t n 1000 V.2.1))).1 (V.2.2.2 t) m (V.2.2.1 t) = vud V.1 (V.2.2.2 t) m (V.2.2.1 t) := fun m => vud_pe (w := V.1) hot.1 (hj.vfr t ht)
  have key : ∀ z' ∈ zs.map (zre t n 1000), ∃ z ∈ zs, z'.2 = z.2 ∧ z'.1.2.2.1 = z.1.2.2.1 ∧ ((z.1.2.2.1 = t ∧ z = y ∧ z'.1.2.2.2 = 1000) ∨ (¬ (z.1.2.2.1 = t ∧ z.1.2.2.2 = n) ∧ z' = z)) := fun z' hz' => by
    obtain ⟨z, hz, rfl⟩ := List.mem_map.mp hz'
    refine ⟨z, hz, zre_1.1, zre_1.2.2.2, ?_⟩
    by_cases c : z.1.2.2.1 = t ∧ z.1.2.2.2 = n
    · refine Or.inl ⟨c.1, zuniq h.1 hj.2.2.1 hz hy (c.1.trans y1.symm) (c.2.trans y2.symm), ?_⟩
      rw [zre_y c.1 c.2]
    · exact Or.inr ⟨c, zre_n c⟩
  refine h.op hx hj.1 hot ht (hX.to ht) hj.vfr (fun z hz => ?_) (fun z _ _ => by rw [h5, h6]; exact ⟨rfl, rfl⟩) ?_ ((h.2.1.eq (fun c hc' => hc c (by omega) (by omega) (by omega))).map (fun z _ => zre_1)) ⟨fun j hj => ?_, fun j hj => ?_⟩ ⟨⟨?_, fun e' he' => ?_, fun e' he' => ?_⟩, trivial, ⟨?_, fun z' hz' e' q' => ?_⟩, ⟨fun z' hz' e' q' => ?_, fun hq => ?_⟩, ?_, fun z' hz' e' => ?_⟩ ?_
  · constructor
    · intro hz'
      obtain ⟨z0, c1, c2, c3, c4 | c4⟩ := key z hz'
      · exact absurd (c3.trans c4.1) hz
      · rw [c4.2]; exact c1
    · intro hz'
      exact List.mem_map.mpr ⟨z, hz', zre_n (fun c => hz c.1)⟩
  · show _ = vren t n 1000 V.2.1
    rw [← h.1]
    unfold vren
    rw [List.map_map, List.map_map]
    rfl
  · rw [hc _ (by omega) (by omega) (by omega), hw _ (by omega)]; exact h.2.2.1.1 j hj
  · rw [hc _ (by omega) (by omega) (by omega), hw _ (by omega)]; exact h.2.2.1.2 j hj
  · rw [tj _ (by omega)]; exact a0
  · have := tf_p e' he'
    have := tf_n e' he'
    rw [tj _ (by omega), hw _ (by omega)]; exact a1 e' he'
  · have := ts_p e' he'
    rw [hc _ (by omega) (by omega) (by omega), hw _ (by omega)]; exact a2 e' he'
  · rw [tj _ (by omega), hw _ (by omega)]; exact p1
  · rw [hw _ (by omega)] at q'
    rw [tj _ (by omega)]
    obtain ⟨z0, c1, c2, c3, c4 | c4⟩ := key z' hz'
    · rw [c4.2.2, h66] at q'
      exact absurd ((nI_inj (by omega) (by omega)).mp q') (by omega)
    · rw [c4.2] at e' q' ⊢
      exact p2 z0 c1 e' q'
  · obtain ⟨z0, c1, c2, c3, c4 | c4⟩ := key z' hz'
    · rw [hT3, mj_upd_self, c2, c4.2.1]
    · rw [c4.2] at e' q'
      have := hnl z0 c1 e'
      omega
  · have hin : (zre t n 1000 y).1 ∈ vren t n 1000 V.2.1 := by
      have : (zs.map (zre t n 1000)).map Prod.fst = vren t n 1000 V.2.1 := by
        rw [← h.1]
        unfold vren
        rw [List.map_map, List.map_map]
        rfl
      rw [← this]
      exact List.mem_map.mpr ⟨_, List.mem_map.mpr ⟨y, hy, rfl⟩, rfl⟩
    exact absurd ⟨zre_1.2.2.2.trans y1, by rw [zre_y y1 y2]⟩ (hq _ hin)
  · unfold Kg
    rw [tj _ (by omega), hw _ (by omega), hw _ (by omega)]; exact g
  · rw [h5, h6]
    show s (b + 5) z'.2 = nI (vud (vlg1 (vps V (vren t n 1000 V.2.1))).1 (V.2.2.2 t) z'.1.2.2.2 (V.2.2.1 t)) ∧ _
    rw [hud]
    obtain ⟨z0, c1, c2, c3, c4 | c4⟩ := key z' hz'
    · obtain ⟨q1, q2, q3⟩ := zz z0 c1 c4.1
      rw [c2, c4.2.2]
      refine ⟨?_, fun q => by omega, fun u hu u1 u2 => ?_⟩
      · rw [q1, c4.2.1, y2, vud_0 hof, vud_0 hof2]
      · obtain ⟨u0, d1, d2, d3, d4 | d4⟩ := key u hu
        · rw [d4.2.2] at u2; omega
        · have := hnl u0 d1 (d3.symm.trans u1)
          rw [d4.2] at u2
          omega
    · have e0 := e'
      rw [c4.2] at e' ⊢
      obtain ⟨q1, q2, q3⟩ := zz z0 c1 e'
      refine ⟨q1, q2, fun u hu u1 u2 => ?_⟩
      obtain ⟨u0, d1, d2, d3, d4 | d4⟩ := key u hu
      · have := hnl z0 c1 e'
        rw [d4.2.2] at u2; omega
      · rw [d4.2] at u1 u2 ⊢
        exact q3 u0 d1 u1 u2
  · rw [hc _ (by omega) (by omega) (by omega)]
    exact VM_vs (Or.inl (by omega)) (VM.ren hj h.2.2.2.2.1 hof hof2)
end
