section
variable {X : mj_X} {ρ : Type} {R0 : ρ} {pc : Nat} {loc : mj_l Int32} {st : mj_s Int32} {h : mj_h Int32} {kn : mj_l Int32 → mj_s Int32 → mj_h Int32 → Option ρ} {kj : Nat → mj_s Int32 → Option ρ}
theorem go_iadd (C : mj_Cx X) (hd : decode X.2.1.2.1 pc = .ok (.iadd, 1)) (hE : mj_bin mj_I loc st h kn none 0 = some R0) (K : ∀ loc' st' h1, kn loc' st' h1 = some R0 → mj_Go X (pc + 1) loc' st' h1) : mj_Go X pc loc st h := by
  rcases X with ⟨G, e, p, l, en, R, s, m, args, below, meth, c, h0, Q⟩
  obtain ⟨hx, hb, C⟩ := C
  unfold mj_bin at hE
  split at hE
  · rename_i b a rest
    split at hE
    · rename_i z hz
      intro H locs ls hR h1 h2 h3 hL
      have hz : mj_op 0 a b = some z := hz
      simp only [mj_op, Option.some.injEq] at hz
      subst hz
      exact lv_iadd hx hb hd (K _ _ _ hE H locs ls hR h1 h2 h3 hL)
    · cases hE
  · cases hE
theorem go_isub (C : mj_Cx X) (hd : decode X.2.1.2.1 pc = .ok (.isub, 1)) (hE : mj_bin mj_I loc st h kn none 1 = some R0) (K : ∀ loc' st' h1, kn loc' st' h1 = some R0 → mj_Go X (pc + 1) loc' st' h1) : mj_Go X pc loc st h := by
  rcases X with ⟨G, e, p, l, en, R, s, m, args, below, meth, c, h0, Q⟩
  obtain ⟨hx, hb, C⟩ := C
  unfold mj_bin at hE
  split at hE
  · rename_i b a rest
    split at hE
    · rename_i z hz
      intro H locs ls hR h1 h2 h3 hL
      have hz : mj_op 1 a b = some z := hz
      simp only [mj_op, Option.some.injEq] at hz
      subst hz
      exact lv_isub hx hb hd (K _ _ _ hE H locs ls hR h1 h2 h3 hL)
    · cases hE
  · cases hE
theorem go_imul (C : mj_Cx X) (hd : decode X.2.1.2.1 pc = .ok (.imul, 1)) (hE : mj_bin mj_I loc st h kn none 2 = some R0) (K : ∀ loc' st' h1, kn loc' st' h1 = some R0 → mj_Go X (pc + 1) loc' st' h1) : mj_Go X pc loc st h := by
  rcases X with ⟨G, e, p, l, en, R, s, m, args, below, meth, c, h0, Q⟩
  obtain ⟨hx, hb, C⟩ := C
  unfold mj_bin at hE
  split at hE
  · rename_i b a rest
    split at hE
    · rename_i z hz
      intro H locs ls hR h1 h2 h3 hL
      have hz : mj_op 2 a b = some z := hz
      simp only [mj_op, Option.some.injEq] at hz
      subst hz
      exact lv_imul hx hb hd (K _ _ _ hE H locs ls hR h1 h2 h3 hL)
    · cases hE
  · cases hE
theorem go_idiv (C : mj_Cx X) (hd : decode X.2.1.2.1 pc = .ok (.idiv, 1)) (hE : mj_bin mj_I loc st h kn none 3 = some R0) (K : ∀ loc' st' h1, kn loc' st' h1 = some R0 → mj_Go X (pc + 1) loc' st' h1) : mj_Go X pc loc st h := by
  rcases X with ⟨G, e, p, l, en, R, s, m, args, below, meth, c, h0, Q⟩
  obtain ⟨hx, hb, C⟩ := C
  unfold mj_bin at hE
  split at hE
  · rename_i b a rest
    split at hE
    · rename_i z hz
      intro H locs ls hR h1 h2 h3 hL
      have hz : mj_op 3 a b = some z := hz
      simp only [mj_op] at hz
      split at hz
      · cases hz
      · rename_i hne
        cases hz
        exact lv_idiv hx hb hd hne (K _ _ _ hE H locs ls hR h1 h2 h3 hL)
    · cases hE
  · cases hE
theorem go_irem (C : mj_Cx X) (hd : decode X.2.1.2.1 pc = .ok (.irem, 1)) (hE : mj_bin mj_I loc st h kn none 4 = some R0) (K : ∀ loc' st' h1, kn loc' st' h1 = some R0 → mj_Go X (pc + 1) loc' st' h1) : mj_Go X pc loc st h := by
  rcases X with ⟨G, e, p, l, en, R, s, m, args, below, meth, c, h0, Q⟩
  obtain ⟨hx, hb, C⟩ := C
  unfold mj_bin at hE
  split at hE
  · rename_i b a rest
    split at hE
    · rename_i z hz
      intro H locs ls hR h1 h2 h3 hL
      have hz : mj_op 4 a b = some z := hz
      simp only [mj_op] at hz
      split at hz
      · cases hz
      · rename_i hne
        cases hz
        exact lv_irem hx hb hd hne (K _ _ _ hE H locs ls hR h1 h2 h3 hL)
    · cases hE
  · cases hE
theorem go_ishl (C : mj_Cx X) (hd : decode X.2.1.2.1 pc = .ok (.ishl, 1)) (hE : mj_bin mj_I loc st h kn none 5 = some R0) (K : ∀ loc' st' h1, kn loc' st' h1 = some R0 → mj_Go X (pc + 1) loc' st' h1) : mj_Go X pc loc st h := by
  rcases X with ⟨G, e, p, l, en, R, s, m, args, below, meth, c, h0, Q⟩
  obtain ⟨hx, hb, C⟩ := C
  unfold mj_bin at hE
  split at hE
  · rename_i b a rest
    split at hE
    · rename_i z hz
      intro H locs ls hR h1 h2 h3 hL
      have hz : mj_op 5 a b = some z := hz
      simp only [mj_op, Option.some.injEq] at hz
      subst hz
      exact lv_ishl hx hb hd (K _ _ _ hE H locs ls hR h1 h2 h3 hL)
    · cases hE
  · cases hE
theorem go_ishr (C : mj_Cx X) (hd : decode X.2.1.2.1 pc = .ok (.ishr, 1)) (hE : mj_bin mj_I loc st h kn none 6 = some R0) (K : ∀ loc' st' h1, kn loc' st' h1 = some R0 → mj_Go X (pc + 1) loc' st' h1) : mj_Go X pc loc st h := by
  rcases X with ⟨G, e, p, l, en, R, s, m, args, below, meth, c, h0, Q⟩
  obtain ⟨hx, hb, C⟩ := C
  unfold mj_bin at hE
  split at hE
  · rename_i b a rest
    split at hE
    · rename_i z hz
      intro H locs ls hR h1 h2 h3 hL
      have hz : mj_op 6 a b = some z := hz
      simp only [mj_op, Option.some.injEq] at hz
      subst hz
      exact lv_ishr hx hb hd (K _ _ _ hE H locs ls hR h1 h2 h3 hL)
    · cases hE
  · cases hE
theorem go_iand (C : mj_Cx X) (hd : decode X.2.1.2.1 pc = .ok (.iand, 1)) (hE : mj_bin mj_I loc st h kn none 7 = some R0) (K : ∀ loc' st' h1, kn loc' st' h1 = some R0 → mj_Go X (pc + 1) loc' st' h1) : mj_Go X pc loc st h := by
  rcases X with ⟨G, e, p, l, en, R, s, m, args, below, meth, c, h0, Q⟩
  obtain ⟨hx, hb, C⟩ := C
  unfold mj_bin at hE
  split at hE
  · rename_i b a rest
    split at hE
    · rename_i z hz
      intro H locs ls hR h1 h2 h3 hL
      have hz : mj_op 7 a b = some z := hz
      simp only [mj_op, Option.some.injEq] at hz
      subst hz
      exact lv_iand hx hb hd (K _ _ _ hE H locs ls hR h1 h2 h3 hL)
    · cases hE
  · cases hE
theorem go_ior (C : mj_Cx X) (hd : decode X.2.1.2.1 pc = .ok (.ior, 1)) (hE : mj_bin mj_I loc st h kn none 8 = some R0) (K : ∀ loc' st' h1, kn loc' st' h1 = some R0 → mj_Go X (pc + 1) loc' st' h1) : mj_Go X pc loc st h := by
  rcases X with ⟨G, e, p, l, en, R, s, m, args, below, meth, c, h0, Q⟩
  obtain ⟨hx, hb, C⟩ := C
  unfold mj_bin at hE
  split at hE
  · rename_i b a rest
    split at hE
    · rename_i z hz
      intro H locs ls hR h1 h2 h3 hL
      have hz : mj_op 8 a b = some z := hz
      simp only [mj_op, Option.some.injEq] at hz
      subst hz
      exact lv_ior hx hb hd (K _ _ _ hE H locs ls hR h1 h2 h3 hL)
    · cases hE
  · cases hE
theorem go_ineg (C : mj_Cx X) (hd : decode X.2.1.2.1 pc = .ok (.ineg, 1)) (hE : mj_neg mj_I loc st h kn none = some R0) (K : ∀ loc' st' h1, kn loc' st' h1 = some R0 → mj_Go X (pc + 1) loc' st' h1) : mj_Go X pc loc st h := by
  rcases X with ⟨G, e, p, l, en, R, s, m, args, below, meth, c, h0, Q⟩
  obtain ⟨hx, hb, C⟩ := C
  unfold mj_neg at hE
  split at hE
  · rename_i a rest
    split at hE
    · rename_i z hz
      intro H locs ls hR h1 h2 h3 hL
      have hz : mj_op 9 a a = some z := hz
      simp only [mj_op, Option.some.injEq] at hz
      subst hz
      exact lv_ineg hx hb hd (K _ _ _ hE H locs ls hR h1 h2 h3 hL)
    · cases hE
  · cases hE
theorem go_iinc {i : Nat} {n : Int} (C : mj_Cx X) (hi : i < X.2.1.2.2.1) (hd : decode X.2.1.2.1 pc = .ok (.iinc i n, 3)) (hE : mj_iinc mj_I loc st h kn none i n = some R0) (K : ∀ loc' st' h1, kn loc' st' h1 = some R0 → mj_Go X (pc + 3) loc' st' h1) : mj_Go X pc loc st h := by
  rcases X with ⟨G, e, p, l, en, R, s, m, args, below, meth, c, h0, Q⟩
  obtain ⟨hx, hb, C⟩ := C
  unfold mj_iinc at hE
  rw [mj_nth_eq] at hE
  split at hE
  · rename_i a hv
    split at hE
    · rename_i z hz
      intro H locs ls hR h1 h2 h3 hL
      have hz : mj_op 0 a (Int32.ofInt n) = some z := hz
      simp only [mj_op, Option.some.injEq] at hz
      have hm : (i, Value.int a) ∈ mj_al G 0 loc := (mj_al_mem G loc 0 _).mpr ⟨i, _, hv, by rw [Nat.zero_add]; rfl⟩
      obtain ⟨k, hk⟩ := List.getElem?_of_mem hm
      exact lv_iinc hx hb hd hL.2 hk hz hi rfl fun ls' hl => K _ _ _ hE H locs ls' hR h1 h2 h3 (hL.set (v := .inl z) hl)
    · cases hE
  · cases hE
theorem go_icmp_eq {off : Int} {x tgt : Nat} (C : mj_Cx X) (hd : decode X.2.1.2.1 pc = .ok (.if_icmp .eq off, 3)) (ht : (pc : Int) + off = (tgt : Int)) (hE : mj_icmp mj_I x loc st h kn kj none .eq = some R0) (K : ∀ loc' st' h1, kn loc' st' h1 = some R0 → mj_Go X (pc + 3) loc' st' h1) (J : ∀ st', kj x st' = some R0 → mj_Go X tgt loc st' h) : mj_Go X pc loc st h := by
  rcases X with ⟨G, e, p, l, en, R, s, m, args, below, meth, c, h0, Q⟩
  obtain ⟨hx, hb, C⟩ := C
  unfold mj_icmp at hE
  split at hE
  · rename_i b a rest
    intro H locs ls hR h1 h2 h3 hL
    have hcm : ∀ q, mj_cm .eq a b = q → (match some q with
      | some true => kj x rest
      | some false => kn loc rest h
      | none => none) = some R0 := fun q hq => by rw [← hq]; exact hE
    refine lv_icmp_eq hx hb hd ht (fun q => J _ (hcm true ?_) H locs ls hR h1 h2 h3 hL) (fun q => K _ _ _ (hcm false ?_) H locs ls hR h1 h2 h3 hL)
    · simp only [mj_cm, decide_eq_true_eq, Bool.not_eq_true', decide_eq_false_iff_not]; exact q
    · simp only [mj_cm, decide_eq_false_iff_not, Bool.not_eq_false', decide_eq_true_eq]; exact q
  · cases hE
theorem go_ifc_eq {off : Int} {x tgt : Nat} (C : mj_Cx X) (hd : decode X.2.1.2.1 pc = .ok (.ifCond .eq off, 3)) (ht : (pc : Int) + off = (tgt : Int)) (hE : mj_ifc mj_I x loc st h kn kj none .eq = some R0) (K : ∀ loc' st' h1, kn loc' st' h1 = some R0 → mj_Go X (pc + 3) loc' st' h1) (J : ∀ st', kj x st' = some R0 → mj_Go X tgt loc st' h) : mj_Go X pc loc st h := by
  rcases X with ⟨G, e, p, l, en, R, s, m, args, below, meth, c, h0, Q⟩
  obtain ⟨hx, hb, C⟩ := C
  unfold mj_ifc at hE
  split at hE
  · rename_i a rest
    intro H locs ls hR h1 h2 h3 hL
    have hcm : ∀ q, mj_cm .eq a (Int32.ofInt 0) = q → (match some q with
      | some true => kj x rest
      | some false => kn loc rest h
      | none => none) = some R0 := fun q hq => by rw [← hq]; exact hE
    refine lv_if_eq hx hb hd ht (fun q => J _ (hcm true ?_) H locs ls hR h1 h2 h3 hL) (fun q => K _ _ _ (hcm false ?_) H locs ls hR h1 h2 h3 hL)
    · simp only [mj_cm, decide_eq_true_eq, Bool.not_eq_true', decide_eq_false_iff_not]; exact q
    · simp only [mj_cm, decide_eq_false_iff_not, Bool.not_eq_false', decide_eq_true_eq]; exact q
  · cases hE
theorem go_icmp_ne {off : Int} {x tgt : Nat} (C : mj_Cx X) (hd : decode X.2.1.2.1 pc = .ok (.if_icmp .ne off, 3)) (ht : (pc : Int) + off = (tgt : Int)) (hE : mj_icmp mj_I x loc st h kn kj none .ne = some R0) (K : ∀ loc' st' h1, kn loc' st' h1 = some R0 → mj_Go X (pc + 3) loc' st' h1) (J : ∀ st', kj x st' = some R0 → mj_Go X tgt loc st' h) : mj_Go X pc loc st h := by
  rcases X with ⟨G, e, p, l, en, R, s, m, args, below, meth, c, h0, Q⟩
  obtain ⟨hx, hb, C⟩ := C
  unfold mj_icmp at hE
  split at hE
  · rename_i b a rest
    intro H locs ls hR h1 h2 h3 hL
    have hcm : ∀ q, mj_cm .ne a b = q → (match some q with
      | some true => kj x rest
      | some false => kn loc rest h
      | none => none) = some R0 := fun q hq => by rw [← hq]; exact hE
    refine lv_icmp_ne hx hb hd ht (fun q => J _ (hcm true ?_) H locs ls hR h1 h2 h3 hL) (fun q => K _ _ _ (hcm false ?_) H locs ls hR h1 h2 h3 hL)
    · simp only [mj_cm, decide_eq_true_eq, Bool.not_eq_true', decide_eq_false_iff_not]; exact q
    · simp only [mj_cm, decide_eq_false_iff_not, Bool.not_eq_false', decide_eq_true_eq]; exact q
  · cases hE
theorem go_ifc_ne {off : Int} {x tgt : Nat} (C : mj_Cx X) (hd : decode X.2.1.2.1 pc = .ok (.ifCond .ne off, 3)) (ht : (pc : Int) + off = (tgt : Int)) (hE : mj_ifc mj_I x loc st h kn kj none .ne = some R0) (K : ∀ loc' st' h1, kn loc' st' h1 = some R0 → mj_Go X (pc + 3) loc' st' h1) (J : ∀ st', kj x st' = some R0 → mj_Go X tgt loc st' h) : mj_Go X pc loc st h := by
  rcases X with ⟨G, e, p, l, en, R, s, m, args, below, meth, c, h0, Q⟩
  obtain ⟨hx, hb, C⟩ := C
  unfold mj_ifc at hE
  split at hE
  · rename_i a rest
    intro H locs ls hR h1 h2 h3 hL
    have hcm : ∀ q, mj_cm .ne a (Int32.ofInt 0) = q → (match some q with
      | some true => kj x rest
      | some false => kn loc rest h
      | none => none) = some R0 := fun q hq => by rw [← hq]; exact hE
    refine lv_if_ne hx hb hd ht (fun q => J _ (hcm true ?_) H locs ls hR h1 h2 h3 hL) (fun q => K _ _ _ (hcm false ?_) H locs ls hR h1 h2 h3 hL)
    · simp only [mj_cm, decide_eq_true_eq, Bool.not_eq_true', decide_eq_false_iff_not]; exact q
    · simp only [mj_cm, decide_eq_false_iff_not, Bool.not_eq_false', decide_eq_true_eq]; exact q
  · cases hE
theorem go_icmp_lt {off : Int} {x tgt : Nat} (C : mj_Cx X) (hd : decode X.2.1.2.1 pc = .ok (.if_icmp .lt off, 3)) (ht : (pc : Int) + off = (tgt : Int)) (hE : mj_icmp mj_I x loc st h kn kj none .lt = some R0) (K : ∀ loc' st' h1, kn loc' st' h1 = some R0 → mj_Go X (pc + 3) loc' st' h1) (J : ∀ st', kj x st' = some R0 → mj_Go X tgt loc st' h) : mj_Go X pc loc st h := by
  rcases X with ⟨G, e, p, l, en, R, s, m, args, below, meth, c, h0, Q⟩
  obtain ⟨hx, hb, C⟩ := C
  unfold mj_icmp at hE
  split at hE
  · rename_i b a rest
    intro H locs ls hR h1 h2 h3 hL
    have hcm : ∀ q, mj_cm .lt a b = q → (match some q with
      | some true => kj x rest
      | some false => kn loc rest h
      | none => none) = some R0 := fun q hq => by rw [← hq]; exact hE
    refine lv_icmp_lt hx hb hd ht (fun q => J _ (hcm true ?_) H locs ls hR h1 h2 h3 hL) (fun q => K _ _ _ (hcm false ?_) H locs ls hR h1 h2 h3 hL)
    · simp only [mj_cm, decide_eq_true_eq, Bool.not_eq_true', decide_eq_false_iff_not]; exact q
    · simp only [mj_cm, decide_eq_false_iff_not, Bool.not_eq_false', decide_eq_true_eq]; exact q
  · cases hE
theorem go_ifc_lt {off : Int} {x tgt : Nat} (C : mj_Cx X) (hd : decode X.2.1.2.1 pc = .ok (.ifCond .lt off, 3)) (ht : (pc : Int) + off = (tgt : Int)) (hE : mj_ifc mj_I x loc st h kn kj none .lt = some R0) (K : ∀ loc' st' h1, kn loc' st' h1 = some R0 → mj_Go X (pc + 3) loc' st' h1) (J : ∀ st', kj x st' = some R0 → mj_Go X tgt loc st' h) : mj_Go X pc loc st h := by
  rcases X with ⟨G, e, p, l, en, R, s, m, args, below, meth, c, h0, Q⟩
  obtain ⟨hx, hb, C⟩ := C
  unfold mj_ifc at hE
  split at hE
  · rename_i a rest
    intro H locs ls hR h1 h2 h3 hL
    have hcm : ∀ q, mj_cm .lt a (Int32.ofInt 0) = q → (match some q with
      | some true => kj x rest
      | some false => kn loc rest h
      | none => none) = some R0 := fun q hq => by rw [← hq]; exact hE
    refine lv_if_lt hx hb hd ht (fun q => J _ (hcm true ?_) H locs ls hR h1 h2 h3 hL) (fun q => K _ _ _ (hcm false ?_) H locs ls hR h1 h2 h3 hL)
    · simp only [mj_cm, decide_eq_true_eq, Bool.not_eq_true', decide_eq_false_iff_not]; exact q
    · simp only [mj_cm, decide_eq_false_iff_not, Bool.not_eq_false', decide_eq_true_eq]; exact q
  · cases hE
theorem go_icmp_ge {off : Int} {x tgt : Nat} (C : mj_Cx X) (hd : decode X.2.1.2.1 pc = .ok (.if_icmp .ge off, 3)) (ht : (pc : Int) + off = (tgt : Int)) (hE : mj_icmp mj_I x loc st h kn kj none .ge = some R0) (K : ∀ loc' st' h1, kn loc' st' h1 = some R0 → mj_Go X (pc + 3) loc' st' h1) (J : ∀ st', kj x st' = some R0 → mj_Go X tgt loc st' h) : mj_Go X pc loc st h := by
  rcases X with ⟨G, e, p, l, en, R, s, m, args, below, meth, c, h0, Q⟩
  obtain ⟨hx, hb, C⟩ := C
  unfold mj_icmp at hE
  split at hE
  · rename_i b a rest
    intro H locs ls hR h1 h2 h3 hL
    have hcm : ∀ q, mj_cm .ge a b = q → (match some q with
      | some true => kj x rest
      | some false => kn loc rest h
      | none => none) = some R0 := fun q hq => by rw [← hq]; exact hE
    refine lv_icmp_ge hx hb hd ht (fun q => J _ (hcm true ?_) H locs ls hR h1 h2 h3 hL) (fun q => K _ _ _ (hcm false ?_) H locs ls hR h1 h2 h3 hL)
    · simp only [mj_cm, decide_eq_true_eq, Bool.not_eq_true', decide_eq_false_iff_not]; exact q
    · simp only [mj_cm, decide_eq_false_iff_not, Bool.not_eq_false', decide_eq_true_eq]; exact q
  · cases hE
theorem go_ifc_ge {off : Int} {x tgt : Nat} (C : mj_Cx X) (hd : decode X.2.1.2.1 pc = .ok (.ifCond .ge off, 3)) (ht : (pc : Int) + off = (tgt : Int)) (hE : mj_ifc mj_I x loc st h kn kj none .ge = some R0) (K : ∀ loc' st' h1, kn loc' st' h1 = some R0 → mj_Go X (pc + 3) loc' st' h1) (J : ∀ st', kj x st' = some R0 → mj_Go X tgt loc st' h) : mj_Go X pc loc st h := by
  rcases X with ⟨G, e, p, l, en, R, s, m, args, below, meth, c, h0, Q⟩
  obtain ⟨hx, hb, C⟩ := C
  unfold mj_ifc at hE
  split at hE
  · rename_i a rest
    intro H locs ls hR h1 h2 h3 hL
    have hcm : ∀ q, mj_cm .ge a (Int32.ofInt 0) = q → (match some q with
      | some true => kj x rest
      | some false => kn loc rest h
      | none => none) = some R0 := fun q hq => by rw [← hq]; exact hE
    refine lv_if_ge hx hb hd ht (fun q => J _ (hcm true ?_) H locs ls hR h1 h2 h3 hL) (fun q => K _ _ _ (hcm false ?_) H locs ls hR h1 h2 h3 hL)
    · simp only [mj_cm, decide_eq_true_eq, Bool.not_eq_true', decide_eq_false_iff_not]; exact q
    · simp only [mj_cm, decide_eq_false_iff_not, Bool.not_eq_false', decide_eq_true_eq]; exact q
  · cases hE
theorem go_icmp_gt {off : Int} {x tgt : Nat} (C : mj_Cx X) (hd : decode X.2.1.2.1 pc = .ok (.if_icmp .gt off, 3)) (ht : (pc : Int) + off = (tgt : Int)) (hE : mj_icmp mj_I x loc st h kn kj none .gt = some R0) (K : ∀ loc' st' h1, kn loc' st' h1 = some R0 → mj_Go X (pc + 3) loc' st' h1) (J : ∀ st', kj x st' = some R0 → mj_Go X tgt loc st' h) : mj_Go X pc loc st h := by
  rcases X with ⟨G, e, p, l, en, R, s, m, args, below, meth, c, h0, Q⟩
  obtain ⟨hx, hb, C⟩ := C
  unfold mj_icmp at hE
  split at hE
  · rename_i b a rest
    intro H locs ls hR h1 h2 h3 hL
    have hcm : ∀ q, mj_cm .gt a b = q → (match some q with
      | some true => kj x rest
      | some false => kn loc rest h
      | none => none) = some R0 := fun q hq => by rw [← hq]; exact hE
    refine lv_icmp_gt hx hb hd ht (fun q => J _ (hcm true ?_) H locs ls hR h1 h2 h3 hL) (fun q => K _ _ _ (hcm false ?_) H locs ls hR h1 h2 h3 hL)
    · simp only [mj_cm, decide_eq_true_eq, Bool.not_eq_true', decide_eq_false_iff_not]; exact q
    · simp only [mj_cm, decide_eq_false_iff_not, Bool.not_eq_false', decide_eq_true_eq]; exact q
  · cases hE
theorem go_ifc_gt {off : Int} {x tgt : Nat} (C : mj_Cx X) (hd : decode X.2.1.2.1 pc = .ok (.ifCond .gt off, 3)) (ht : (pc : Int) + off = (tgt : Int)) (hE : mj_ifc mj_I x loc st h kn kj none .gt = some R0) (K : ∀ loc' st' h1, kn loc' st' h1 = some R0 → mj_Go X (pc + 3) loc' st' h1) (J : ∀ st', kj x st' = some R0 → mj_Go X tgt loc st' h) : mj_Go X pc loc st h := by
  rcases X with ⟨G, e, p, l, en, R, s, m, args, below, meth, c, h0, Q⟩
  obtain ⟨hx, hb, C⟩ := C
  unfold mj_ifc at hE
  split at hE
  · rename_i a rest
    intro H locs ls hR h1 h2 h3 hL
    have hcm : ∀ q, mj_cm .gt a (Int32.ofInt 0) = q → (match some q with
      | some true => kj x rest
      | some false => kn loc rest h
      | none => none) = some R0 := fun q hq => by rw [← hq]; exact hE
    refine lv_if_gt hx hb hd ht (fun q => J _ (hcm true ?_) H locs ls hR h1 h2 h3 hL) (fun q => K _ _ _ (hcm false ?_) H locs ls hR h1 h2 h3 hL)
    · simp only [mj_cm, decide_eq_true_eq, Bool.not_eq_true', decide_eq_false_iff_not]; exact q
    · simp only [mj_cm, decide_eq_false_iff_not, Bool.not_eq_false', decide_eq_true_eq]; exact q
  · cases hE
theorem go_icmp_le {off : Int} {x tgt : Nat} (C : mj_Cx X) (hd : decode X.2.1.2.1 pc = .ok (.if_icmp .le off, 3)) (ht : (pc : Int) + off = (tgt : Int)) (hE : mj_icmp mj_I x loc st h kn kj none .le = some R0) (K : ∀ loc' st' h1, kn loc' st' h1 = some R0 → mj_Go X (pc + 3) loc' st' h1) (J : ∀ st', kj x st' = some R0 → mj_Go X tgt loc st' h) : mj_Go X pc loc st h := by
  rcases X with ⟨G, e, p, l, en, R, s, m, args, below, meth, c, h0, Q⟩
  obtain ⟨hx, hb, C⟩ := C
  unfold mj_icmp at hE
  split at hE
  · rename_i b a rest
    intro H locs ls hR h1 h2 h3 hL
    have hcm : ∀ q, mj_cm .le a b = q → (match some q with
      | some true => kj x rest
      | some false => kn loc rest h
      | none => none) = some R0 := fun q hq => by rw [← hq]; exact hE
    refine lv_icmp_le hx hb hd ht (fun q => J _ (hcm true ?_) H locs ls hR h1 h2 h3 hL) (fun q => K _ _ _ (hcm false ?_) H locs ls hR h1 h2 h3 hL)
    · simp only [mj_cm, decide_eq_true_eq, Bool.not_eq_true', decide_eq_false_iff_not]; exact q
    · simp only [mj_cm, decide_eq_false_iff_not, Bool.not_eq_false', decide_eq_true_eq]; exact q
  · cases hE
theorem go_ifc_le {off : Int} {x tgt : Nat} (C : mj_Cx X) (hd : decode X.2.1.2.1 pc = .ok (.ifCond .le off, 3)) (ht : (pc : Int) + off = (tgt : Int)) (hE : mj_ifc mj_I x loc st h kn kj none .le = some R0) (K : ∀ loc' st' h1, kn loc' st' h1 = some R0 → mj_Go X (pc + 3) loc' st' h1) (J : ∀ st', kj x st' = some R0 → mj_Go X tgt loc st' h) : mj_Go X pc loc st h := by
  rcases X with ⟨G, e, p, l, en, R, s, m, args, below, meth, c, h0, Q⟩
  obtain ⟨hx, hb, C⟩ := C
  unfold mj_ifc at hE
  split at hE
  · rename_i a rest
    intro H locs ls hR h1 h2 h3 hL
    have hcm : ∀ q, mj_cm .le a (Int32.ofInt 0) = q → (match some q with
      | some true => kj x rest
      | some false => kn loc rest h
      | none => none) = some R0 := fun q hq => by rw [← hq]; exact hE
    refine lv_if_le hx hb hd ht (fun q => J _ (hcm true ?_) H locs ls hR h1 h2 h3 hL) (fun q => K _ _ _ (hcm false ?_) H locs ls hR h1 h2 h3 hL)
    · simp only [mj_cm, decide_eq_true_eq, Bool.not_eq_true', decide_eq_false_iff_not]; exact q
    · simp only [mj_cm, decide_eq_false_iff_not, Bool.not_eq_false', decide_eq_true_eq]; exact q
  · cases hE
theorem go_goto {off : Int} {x tgt : Nat} (C : mj_Cx X) (hd : decode X.2.1.2.1 pc = .ok (.goto off, 3)) (ht : (pc : Int) + off = (tgt : Int)) (J : mj_Go X tgt loc st h) : mj_Go X pc loc st h := by
  rcases X with ⟨G, e, p, l, en, R, s, m, args, below, meth, c, h0, Q⟩
  obtain ⟨hx, hb, C⟩ := C
  intro H locs ls hR h1 h2 h3 hL
  exact lv_goto hx hb hd ht (J H locs ls hR h1 h2 h3 hL)
theorem go_tab {x : Nat} {xs : List Nat} {len : Nat} {d lo hi : Int} {offs : Array Int} {tg : Nat → Nat} (C : mj_Cx X) (hd : decode X.2.1.2.1 pc = .ok (.tableswitch d lo hi offs, len)) (ht : (pc : Int) + d = (tg x : Int)) (hlen : offs.toList.length = xs.length) (hts : ∀ (i : Nat) (o : Int) (j : Nat), offs[i]? = some o → xs[i]? = some j → (pc : Int) + o = (tg j : Int)) (hE : mj_tab mj_I x xs st kj none lo hi = some R0) (J : ∀ j st', kj j st' = some R0 → mj_Go X (tg j) loc st' h) : mj_Go X pc loc st h := by
  rcases X with ⟨G, e, p, l, en, R, s, m, args, below, meth, c, h0, Q⟩
  obtain ⟨hx, hb, C⟩ := C
  unfold mj_tab at hE
  split at hE
  · rename_i a rest
    intro H locs ls hR h1 h2 h3 hL
    dsimp only [mj_I] at hE
    split at hE
    · rename_i hq
      simp only [Bool.or_eq_true, decide_eq_true_eq] at hq
      exact lv_tableOut hx hb hd hq ht (J _ _ hE H locs ls hR h1 h2 h3 hL)
    · rename_i hq
      simp only [Bool.or_eq_false_iff, decide_eq_false_iff_not] at hq
      rw [mj_nth_eq] at hE
      split at hE
      · rename_i t htt
        have hlt : (a.toInt - lo).toNat < xs.length := (List.getElem?_eq_some_iff.mp htt).1
        have hlt2 : (a.toInt - lo).toNat < offs.size := by rw [← hlen] at hlt; simpa using hlt
        have ho : offs[(a.toInt - lo).toNat]? = some offs[(a.toInt - lo).toNat] := Array.getElem?_eq_getElem hlt2
        exact lv_tableIn hx hb hd hq.1 hq.2 ho (hts _ _ _ ho htt) (J _ _ hE H locs ls hR h1 h2 h3 hL)
      · cases hE
  · cases hE
theorem go_dup (C : mj_Cx X) (hd : decode X.2.1.2.1 pc = .ok (.dup, 1)) (hE : mj_dup loc st h kn none = some R0) (K : ∀ loc' st' h1, kn loc' st' h1 = some R0 → mj_Go X (pc + 1) loc' st' h1) : mj_Go X pc loc st h := by
  rcases X with ⟨G, e, p, l, en, R, s, m, args, below, meth, c, h0, Q⟩
  obtain ⟨hx, hb, C⟩ := C
  unfold mj_dup at hE
  split at hE
  · rename_i v rest
    intro H locs ls hR h1 h2 h3 hL
    exact lv_dup hx hb hd (mj_rv_cat G v) (K _ _ _ hE H locs ls hR h1 h2 h3 hL)
  · cases hE
theorem go_pop (C : mj_Cx X) (hd : decode X.2.1.2.1 pc = .ok (.pop, 1)) (hE : mj_pop loc st h kn none = some R0) (K : ∀ loc' st' h1, kn loc' st' h1 = some R0 → mj_Go X (pc + 1) loc' st' h1) : mj_Go X pc loc st h := by
  rcases X with ⟨G, e, p, l, en, R, s, m, args, below, meth, c, h0, Q⟩
  obtain ⟨hx, hb, C⟩ := C
  unfold mj_pop at hE
  split at hE
  · rename_i v rest
    intro H locs ls hR h1 h2 h3 hL
    exact lv_pop hx hb hd (mj_rv_cat G v) (K _ _ _ hE H locs ls hR h1 h2 h3 hL)
  · cases hE
theorem go_dup2 (C : mj_Cx X) (hd : decode X.2.1.2.1 pc = .ok (.dup2, 1)) (hE : mj_dup2 loc st h kn none = some R0) (K : ∀ loc' st' h1, kn loc' st' h1 = some R0 → mj_Go X (pc + 1) loc' st' h1) : mj_Go X pc loc st h := by
  rcases X with ⟨G, e, p, l, en, R, s, m, args, below, meth, c, h0, Q⟩
  obtain ⟨hx, hb, C⟩ := C
  unfold mj_dup2 at hE
  split at hE
  · rename_i v w rest
    intro H locs ls hR h1 h2 h3 hL
    exact lv_dup2_11 hx hb hd (mj_rv_cat G v) (mj_rv_cat G w) (K _ _ _ hE H locs ls hR h1 h2 h3 hL)
  · cases hE
end
