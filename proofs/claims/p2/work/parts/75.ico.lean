/-! ===== from what a call wants back to what always holds ===== -/
section
variable {lim t np : Nat} {V V' : vV}
theorem ibz_ico (hc : Ico V' t np) (hb : Ibz lim V t) (e22 : V'.2.2 = V.2.2) (hw : vpe V.1 V'.1) (hp : Ipr V.1) (hsc : ∀ c, (c = 3968 ∨ c = 3996 ∨ c = 3989 ∨ c = 4052) → V'.1 (c + t) = V.1 (c + t)) (hs : ∀ k, k < 3 → V'.1 (3923 + k) = V.1 (3923 + k)) : Ibz lim V' t := by
  obtain ⟨n, np0, c1, -, -, -, -, -, -, -, c9, -, -, -, c13, c14, c15, c16, c17⟩ := hb
  obtain ⟨a1, a2, a3, a4, a5, a6, a7, -⟩ := hc
  have en : V'.2.2.1 t = n + 1 := by rw [e22]; exact c1
  have ef : V'.2.2.2 = V.2.2.2 := by rw [e22]
  have a8 := a7 (by rw [en]; exact Nat.succ_pos n)
  rw [en, Nat.add_sub_cancel] at a8
  rw [en] at a1 a6
  obtain ⟨g1, g2, g3, g4, g5⟩ := a8
  have hv := vos_w hw hp c9 _ (Nat.le_refl _)
  refine ⟨n, np, en, a1, a2, a3, a4, a5, g1, g2, g3, a6, g4, g5, ?_, ?_, ?_, ?_, ?_⟩
  · rw [hsc 3968 (Or.inl rfl)]; exact c13
  · rw [hsc 3996 (Or.inr (Or.inl rfl)), ef, hv]; exact c14
  · rw [ef, hv]; exact c15
  · rw [hsc 3989 (Or.inr (Or.inr (Or.inl rfl))), ef, hv]
    rcases c16 with e | ⟨k, k1, k2, k3, k4⟩
    · exact Or.inl e
    · exact Or.inr ⟨k, k1, k2, (hs k k1).trans k3, k4⟩
  · rw [hsc 4052 (Or.inr (Or.inr (Or.inr rfl)))]
    exact hw.tl.mpr c17
end
