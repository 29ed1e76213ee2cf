theorem wt_T57 : wt_T 57 := ⟨40, 0, wt_C40, by decide, rfl⟩
theorem wt_tt {α : Type} {v : Nat} {F : Option α} {R : α} {G : Prop} (h : (if v = 57 then F else none) = some R) (h1 : v = 57 → F = some R → G) : G := by
  split at h
  · rename_i e
    exact h1 e h
  · cases h
