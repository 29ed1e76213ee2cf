/-! ===== done: the order of what is set ===== -/
section
variable {V : vV} {t : Nat} {v : Int32}
theorem vga_vs {i : Nat} (h1 : i ≠ 3989 + t) (h2 : i ≠ 3996 + t) (h3 : i ≠ 4066 + t) (h4 : i ≠ 3954 + t) (h5 : i ≠ 3961 + t) (h6 : i ≠ 3975 + t) (h7 : i ≠ 3923 + (V.1 (3989 + t)).toInt.toNat) : vga (vs V i v) t = vs (vga V t) i v := by
  have hnf : ∀ X : vV, vnf (vs X i v) t 0 = vs (vnf X t 0) i v := fun _ => rfl
  have hps : vps (vs V i v) ((vs V i v).2.1.filter (fun q => decide (q.2.2.1 ≠ t))) = vs (vps V (V.2.1.filter (fun q => decide (q.2.2.1 ≠ t)))) i v := rfl
  have h89 : (vs V i v).1 (3989 + t) = V.1 (3989 + t) := vs_ne (Ne.symm h1)
  unfold vga
  dsimp only
  rw [h89, hps]
  by_cases c : V.1 (3989 + t) = -1
  · rw [if_pos c, if_pos c, vs_cm h1, vs_cm h2, vs_cm h3, vs_cm h4, hnf, vs_cm h5, vs_cm h6]
  · rw [if_neg c, if_neg c, vs_cm h7, vs_cm h1, vs_cm h2, vs_cm h3, vs_cm h4, hnf, vs_cm h5, vs_cm h6]
theorem vdn_o (hs : V.1 (3989 + t) = -1 ∨ ∃ k, k < 3 ∧ V.1 (3989 + t) = nI k) : vga (vs (vs V (3926 + t) 3) (3940 + t) v) t = vs (vga (vs V (3940 + t) v) t) (3926 + t) 3 := by
  have h89 : (vs V (3940 + t) v).1 (3989 + t) = V.1 (3989 + t) := vs_ne (by omega)
  rw [vs_cm (by omega)]
  refine vga_vs (by omega) (by omega) (by omega) (by omega) (by omega) (by omega) ?_
  rw [h89]
  rcases hs with e | ⟨k, k1, e⟩
  · rw [e]
    show 3926 + t ≠ 3923 + 0
    omega
  · rw [e, nI_int (by omega)]
    show 3926 + t ≠ 3923 + k
    omega
end
