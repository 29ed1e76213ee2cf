/-! ===== the class: the frame below goes on ===== -/
section
variable {b lim : Nat} {s s' : wt_S} {V V' : vV} {zs zs' : List (vP × Nat)} {fr fr' : List Nat} {t np k n m : Nat}
theorem RBt.rc (h : RBt b lim s V zs fr t) (hx : CX b lim) (hj : VJ lim V) (ht : t < 6) (h0 : 0 < V.2.2.1 t) {f l x : Int32} : RC b lim (wt_u (wt_u (wt_u s (b + 17 + 2 * t) 11 (nI (vpl V t (V.2.2.1 t - 1)))) (b + 17 + 2 * t) 9 f) (b + 17 + 2 * t) 10 l) (vs (vs (vs V (3982 + t) x) (3975 + t) f) (3968 + t) l) zs fr ∧ TO b t s (wt_u (wt_u (wt_u s (b + 17 + 2 * t) 11 (nI (vpl V t (V.2.2.1 t - 1)))) (b + 17 + 2 * t) 9 f) (b + 17 + 2 * t) 10 l) := by
  have hb := hx.b
  obtain ⟨⟨a0, a1, a2⟩, -, ⟨p1, p2⟩, ⟨r1, r2⟩, g, zz⟩ := h.2.2.2.1.2
  have hv : ∀ i, i ≠ 3982 + t → i ≠ 3975 + t → i ≠ 3968 + t → (vs (vs (vs V (3982 + t) x) (3975 + t) f) (3968 + t) l).1 i = V.1 i := fun i i1 i2 i3 => (vs_ne i3).trans ((vs_ne i2).trans (vs_ne i1))
  have hv9 : (vs (vs (vs V (3982 + t) x) (3975 + t) f) (3968 + t) l).1 (3975 + t) = f := (vs_ne (by omega)).trans vs_at
  have hv10 : (vs (vs (vs V (3982 + t) x) (3975 + t) f) (3968 + t) l).1 (3968 + t) = l := vs_at
  have hot : OT t V (vs (vs (vs V (3982 + t) x) (3975 + t) f) (3968 + t) l) := ((OT.vs ht (vown_t (c := 3982) (by omega))).trans (OT.vs ht (vown_t (c := 3975) (by omega)))).trans (OT.vs ht (vown_t (c := 3968) (by omega)))
  have h2 : (vs (vs (vs V (3982 + t) x) (3975 + t) f) (3968 + t) l).2 = V.2 := rfl
  have hvm : VM (s (b + 15)) (vs (vs (vs V (3982 + t) x) (3975 + t) f) (3968 + t) l) := VM_vs (by omega) (VM_vs (by omega) (VM_vs (by omega) h.2.2.2.2.1))
  generalize vs (vs (vs V (3982 + t) x) (3975 + t) f) (3968 + t) l = V' at *
  have hto : TO b t s (wt_u (wt_u (wt_u s (b + 17 + 2 * t) 11 (nI (vpl V t (V.2.2.1 t - 1)))) (b + 17 + 2 * t) 9 f) (b + 17 + 2 * t) 10 l) := ((TO.u (by omega) ht).trans (TO.u (by omega) ht)).trans (TO.u (by omega) ht)
  generalize hS : wt_u (wt_u (wt_u s (b + 17 + 2 * t) 11 (nI (vpl V t (V.2.2.1 t - 1)))) (b + 17 + 2 * t) 9 f) (b + 17 + 2 * t) 10 l = S at *
  have hc : ∀ c, c ≠ b + 17 + 2 * t → S c = s c := fun c c2 => by rw [← hS, wt_u_ne c2, wt_u_ne c2, wt_u_ne c2]
  have tj : ∀ j, j ≠ 9 → j ≠ 10 → j ≠ 11 → S (b + 17 + 2 * t) j = s (b + 17 + 2 * t) j := fun j j4 j5 j6 => by rw [← hS, wt_u_nk j5, wt_u_nk j4, wt_u_nk j6]
  have t9 : S (b + 17 + 2 * t) 9 = f := by rw [← hS, wt_u_nk (by omega), wt_u_self]
  have t10 : S (b + 17 + 2 * t) 10 = l := by rw [← hS, wt_u_self]
  have t11 : S (b + 17 + 2 * t) 11 = nI (vpl V t (V.2.2.1 t - 1)) := by rw [← hS, wt_u_nk (by omega), wt_u_nk (by omega), wt_u_self]
  have h5 := hc (b + 5) (by omega)
  have h6 := hc (b + 6) (by omega)
  have hpl : ∀ i, vpl V' t i = vpl V t i := fun i => by unfold vpl; rw [h2]
  refine ⟨⟨by rw [h2]; exact h.1, h.2.1.eq (fun c hc' => hc c (by omega)), h.2.2.1.keep (hc _ (by omega)) (hc _ (by omega)) (fun i _ _ => hv i (by omega) (by omega) (by omega)), fun k hk => ?_, by rw [hc _ (by omega)]; exact hvm, h.2.2.2.2.2.eq hj.1 hot.1 (fun c c1 c2 => hto.2 c (by omega))⟩, hto⟩
  by_cases e : k = t
  · subst e
    refine ⟨⟨?_, fun e he => ?_, fun e he => ?_⟩, ⟨fun e => ?_, fun e => ?_⟩, ⟨?_, fun z hz e q => ?_⟩, ⟨fun z hz e q => ?_, fun e => ?_⟩, ?_, fun z hz e => ?_⟩
    · rw [tj _ (by omega) (by omega) (by omega)]; exact a0
    · have hk := a1 e he
      simp only [tf, List.mem_cons, List.not_mem_nil, or_false] at he
      rcases he with rfl | rfl | rfl | rfl | rfl | rfl | rfl | rfl | rfl | rfl
      · rw [tj _ (by omega) (by omega) (by omega), hv _ (by omega) (by omega) (by omega)]; exact hk
      · rw [tj _ (by omega) (by omega) (by omega), hv _ (by omega) (by omega) (by omega)]; exact hk
      · rw [tj _ (by omega) (by omega) (by omega), hv _ (by omega) (by omega) (by omega)]; exact hk
      · rw [tj _ (by omega) (by omega) (by omega), hv _ (by omega) (by omega) (by omega)]; exact hk
      · rw [tj _ (by omega) (by omega) (by omega), hv _ (by omega) (by omega) (by omega)]; exact hk
      · rw [tj _ (by omega) (by omega) (by omega), hv _ (by omega) (by omega) (by omega)]; exact hk
      · rw [tj _ (by omega) (by omega) (by omega), hv _ (by omega) (by omega) (by omega)]; exact hk
      · rw [tj _ (by omega) (by omega) (by omega), hv _ (by omega) (by omega) (by omega)]; exact hk
      · exact t9.trans hv9.symm
      · rw [tj _ (by omega) (by omega) (by omega), hv _ (by omega) (by omega) (by omega)]; exact hk
    · have hk := a2 e he
      simp only [ts, List.mem_cons, List.not_mem_nil, or_false] at he
      rcases he with rfl | rfl | rfl | rfl | rfl | rfl | rfl <;> (rw [hc _ (by omega), hv _ (by omega) (by omega) (by omega)]; exact hk)
    · rw [h2] at e
      omega
    · rw [t10, t11, hv10, hpl, h2]; exact ⟨rfl, rfl⟩
    · rw [tj _ (by omega) (by omega) (by omega), hv _ (by omega) (by omega) (by omega)]; exact p1
    · rw [tj _ (by omega) (by omega) (by omega)]; rw [hv _ (by omega) (by omega) (by omega)] at q; exact p2 z hz e q
    · rw [tj _ (by omega) (by omega) (by omega)]; exact r1 z hz e q
    · rw [tj _ (by omega) (by omega) (by omega)]; rw [h2] at e; exact r2 e
    · unfold Kg
      rw [tj _ (by omega) (by omega) (by omega), hv _ (by omega) (by omega) (by omega), hv _ (by omega) (by omega) (by omega)]; exact g
    · obtain ⟨q1, q2, q3⟩ := zz z hz e
      rw [h5, h6, h2, vud_pe (w := V.1) hot.1 (hj.vfr k ht)]
      exact ⟨q1, q2, q3⟩
  · exact (h.2.2.2.1.1 k hk e).ot hot hk e (hj.vfr k hk) (hto.1 k hk e) (fun _ _ => Iff.rfl) (fun z _ _ => by rw [h5, h6]; exact ⟨rfl, rfl⟩)
end
