/-! ===== the reference's round, when no task goes on ===== -/
theorem mj_isIn_run {d : Nat} {v l m : Int32} {h : mj_h Int32} (h1 : ¬ v < l) (h2 : ¬ m < v) : mj_Rn d kX11_isIn kX11_isIn (mj_ent 3 [.inl v, .inl l, .inl m]) [] h (some (.inl 1), h) := by
  refine rn_iload_n (v := v) rfl (rn_iload_n (v := l) rfl (rn_icmp (fun hc => absurd (of_decide_eq_true hc) h1) (fun _ => rn_iload_n (v := v) rfl (rn_iload_n (v := m) rfl (rn_icmp (fun hc => absurd (of_decide_eq_true hc) h2) (fun _ => rn_iconst (rn_goto ?_)))))))
  exact rn_zret (v := 1) (Or.inr rfl) rfl
section
variable {d a b : Nat} {fs : List (mj_v Int32)} {f : Nat → Int32} {h : mj_h Int32}
theorem mj_i3926 : ∀ t, t < 6 → Int32.ofInt 3926 + nI t = nI (3926 + t) := by decide +kernel
theorem mj_busy_run (hm : mj_nth h a = some (.inr (.inr (11, .inr (some b) :: fs)))) (h4 : 4 ≤ a) (hw : mj_nth h b = some (.inl (0, 4073, f))) (hi : ∀ t, t < 6 → f (3926 + t) = 0) {t : Nat} (ht : t < 6) : mj_Rn d kX11_isBusy kX11_isBusy (mj_ent 2 [.inr (some a), .inl (nI t)]) [] h (some (.inl 0), h) := by
  have hix : mj_ix (Int32.ofInt 3926 + nI t).toInt 4073 = some (3926 + t) := by
    rw [mj_i3926 t ht]
    exact rn_ix (by omega) (by decide)
  refine rn_aload_n (a := a) rfl (rn_getf hm h4 rfl (rn_sipush (rn_iload_n (v := nI t) rfl (rn_iadd (rn_iald hw hix (rn_iconst (rn_icmp (fun hc => ?_) (fun _ => ?_))))))))
  · rw [hi t ht] at hc
    exact absurd hc (by decide +kernel)
  · refine rn_aload_n (a := a) rfl (rn_getf hm h4 rfl (rn_sipush (rn_iload_n (v := nI t) rfl (rn_iadd (rn_iald hw hix (rn_iconst (rn_icmp (fun _ => ?_) (fun hc => ?_))))))))
    · exact rn_iconst (rn_zret (v := 0) (Or.inl rfl) rfl)
    · rw [hi t ht] at hc
      exact absurd hc (by decide +kernel)
theorem mj_cds_160 : mj_cds[160]? = some kX11_isBusy := by rw [← mj_nth_eq]; rfl
theorem mj_cds_216 : mj_cds[216]? = some kX11_runs := by rw [← mj_nth_eq]; rfl
theorem mj_cds_151 : mj_cds[151]? = some kX11_isIn := by rw [← mj_nth_eq]; rfl
theorem mj_runs_run (hm : mj_nth h a = some (.inr (.inr (11, .inr (some b) :: fs)))) (h4 : 4 ≤ a) (hw : mj_nth h b = some (.inl (0, 4073, f))) (hi : ∀ t, t < 6 → f (3926 + t) = 0) {t : Nat} (ht : t < 6) : mj_Rn (d + 1) kX11_runs kX11_runs (mj_ent 4 [.inr (some a), .inl (nI t), .inl (Int32.ofInt 1)]) [] h (some (.inl (Int32.ofInt 0)), h) := by
  refine rn_iconst (rn_istore_n (rn_iload_n (v := Int32.ofInt 0) rfl (rn_iload_n (v := Int32.ofInt 1) rfl (rn_icmp (fun hc => absurd hc (by decide +kernel)) (fun _ => ?_)))))
  refine rn_aload_n (a := a) rfl (rn_iload_n (v := nI t) rfl (rn_callV (as := [.inl (nI t)]) rfl (by decide) hm h4 mj_cds_160 (mj_busy_run hm h4 hw hi ht) ?_))
  refine rn_ifc (fun _ => ?_) (fun hc => absurd hc (by decide +kernel))
  exact rn_iload_n (v := Int32.ofInt 0) rfl (rn_iret rfl)
theorem mj_round_run (hm : mj_nth h a = some (.inr (.inr (11, .inr (some b) :: fs)))) (h4 : 4 ≤ a) (hw : mj_nth h b = some (.inl (0, 4073, f))) (hi : ∀ t, t < 6 → f (3926 + t) = 0) {n : Int32} (h1 : ¬ n < Int32.ofInt 1) (h2 : ¬ Int32.ofInt 100 < n) : mj_Rn (d + 2) kX11_round kX11_round (mj_ent 5 [.inr (some a), .inl n]) [] h (some (.inl (Int32.ofInt 0)), h) := by
  have hz : Int32.ofInt 0 + Int32.ofInt 0 = Int32.ofInt 0 := by decide +kernel
  obtain ⟨N, hN⟩ : ∃ N, n = nI N ∧ N ≤ 100 := by
    have a1 : ¬ n.toInt < 1 := fun q => h1 (Int32.lt_iff_toInt_lt.mpr (by show _ < (1 : Int); exact q))
    have a2 : ¬ 100 < n.toInt := fun q => h2 (Int32.lt_iff_toInt_lt.mpr (by show (100 : Int) < _; exact q))
    refine ⟨n.toInt.toNat, Int32.toInt_inj.mp ?_, by omega⟩
    rw [nI_toInt (by omega)]
    omega
  obtain ⟨rfl, hN⟩ := hN
  have inner : ∀ q t k, t + q = 6 → mj_Rn (d + 2) kX11_round (mj_drop 28 kX11_round) [some (.inr (some a)), some (.inl (nI N)), some (.inl (Int32.ofInt 0)), some (.inl (nI k)), some (.inl (nI 6))] [] h (some (.inl (Int32.ofInt 0)), h) → mj_Rn (d + 2) kX11_round (mj_drop 16 kX11_round) [some (.inr (some a)), some (.inl (nI N)), some (.inl (Int32.ofInt 0)), some (.inl (nI k)), some (.inl (nI t))] [] h (some (.inl (Int32.ofInt 0)), h) := by
    intro q
    induction q with
    | zero =>
      intro t k ht K
      obtain rfl : t = 6 := by omega
      exact rn_iload (v := nI 6) rfl (rn_bipush (rn_icmp (fun _ => K) (fun hc => absurd hc (by decide +kernel))))
    | succ q ih =>
      intro t k ht K
      have hlt : mj_cm .ge (nI t) (Int32.ofInt 6) = false := by
        have : ∀ t, t < 6 → mj_cm .ge (nI t) (Int32.ofInt 6) = false := by decide +kernel
        exact this t (by omega)
      refine rn_iload (v := nI t) rfl (rn_bipush (rn_icmp (fun hc => by rw [hlt] at hc; cases hc) (fun _ => ?_)))
      refine rn_iload_n (v := Int32.ofInt 0) rfl (rn_aload_n (a := a) rfl (rn_iload (v := nI t) rfl (rn_iconst (rn_callV (as := [.inl (nI t), .inl (Int32.ofInt 1)]) rfl (by decide) hm h4 mj_cds_216 (mj_runs_run hm h4 hw hi (by omega)) (rn_iadd ?_)))))
      rw [hz]
      exact rn_istore_n (rn_iinc (v := nI t) (w := nI (t + 1)) rfl (nI_succ t).symm (rn_goto (ih (t + 1) k (by omega) K)))
  have outer : ∀ q k, k + q = N → ∀ w : Option (mj_v Int32), mj_Rn (d + 2) kX11_round (mj_drop 11 kX11_round) [some (.inr (some a)), some (.inl (nI N)), some (.inl (Int32.ofInt 0)), some (.inl (nI k)), w] [] h (some (.inl (Int32.ofInt 0)), h) := by
    intro q
    induction q with
    | zero =>
      intro k hk w
      obtain rfl : k = N := by omega
      refine rn_iload_n (v := nI k) rfl (rn_iload_n (v := nI k) rfl (rn_icmp (fun _ => ?_) (fun hc => ?_)))
      · exact rn_iload_n (v := Int32.ofInt 0) rfl (rn_iret rfl)
      · simp [mj_cm] at hc
    | succ q ih =>
      intro k hk w
      refine rn_iload_n (v := nI k) rfl (rn_iload_n (v := nI N) rfl (rn_icmp (fun hc => ?_) (fun _ => ?_)))
      · exact absurd (of_decide_eq_true hc) (nI_ge (by omega) (by omega))
      · refine rn_iconst (rn_istore ?_)
        refine inner 6 0 k (by omega) ?_
        exact rn_iinc (v := nI k) (w := nI (k + 1)) rfl (nI_succ k).symm (rn_goto (ih (k + 1) (by omega) _))
  refine rn_iload_n (v := nI N) rfl (rn_iconst (rn_bipush (rn_callS (as := [.inl (nI N), .inl (Int32.ofInt 1), .inl (Int32.ofInt 100)]) rfl rfl (by decide) mj_cds_151 (mj_isIn_run h1 h2) ?_)))
  refine rn_ifc (fun _ => ?_) (fun hc => absurd hc (by decide +kernel))
  exact rn_iconst (rn_istore_n (rn_iconst (rn_istore_n (outer N 0 (by omega) _))))
end
