/-! ===== the reference: foreign calls, steps ===== -/
section
variable {s : wt_S} {V : vV} {t np z k : Nat}
theorem Vpre.ww {lim : Nat} {V' : vV} (hP : Vpre lim V t np z) (h2 : V'.2 = V.2) (hw : ∀ i, i < 3923 → (i < 2054 ∨ 2228 ≤ i) → V'.1 i = V.1 i) (h : ∀ c, (c = 3954 ∨ c = 4066 ∨ c = 3933 ∨ c = 3961 ∨ c = 3982 ∨ c = 3975) → V'.1 (c + t) = V.1 (c + t)) : Vpre lim V' t np z := by
  obtain ⟨hj, hc, ht, hz, h8, hzl, hl, hl2, hq⟩ := hP
  have hp : vpe V.1 V'.1 := fun i hi => hw i (by omega) (by omega)
  have e21 : V'.2.1 = V.2.1 := by rw [h2]
  refine ⟨hj.ww hp h2, ?_, ht, (hw _ (by omega) (by omega)).trans hz, h8, hzl, hl, hl2, by rw [e21]; exact hq⟩
  have hs : vsame V V'.2.1 t np np := by
    rw [e21]
    exact ⟨hc.2.2.2.1, fun j hj2 => ⟨((hc.2.2.2.2.2.2.1 (by omega)).1.1 j hj2).1, rfl, rfl⟩⟩
  refine hc.ps hp hj.1 (by rw [h2]) hs (h 3954 (by simp)) ((h 4066 (by simp)).trans hc.2.1) hc.2.2.1 ?_ (h 3961 (by simp)) (h 3982 (by simp)) (h 3975 (by simp)) (fun h0 => (hc.2.2.2.2.2.2.2 h0).1) (fun h0 => (hc.2.2.2.2.2.2.1 h0).2.1)
  rw [h 3933 (by simp), e21]
  exact hc.2.2.2.2.1
theorem vhs_T {lim : Nat} {words : Int32} {V1 : vV} (hP : Vpre lim V t np z) (hz3 : (V.1 2052).toInt.toNat ≤ 3) (hs : V.1 (3989 + t) = -1 ∨ ∃ k, k < 3 ∧ V.1 (3989 + t) = nI k) (e : vhs V t words = (true, V1)) : V1.2 = V.2 ∧ (∃ k, k < 3 ∧ V1.1 (3989 + t) = nI k) ∧ (∀ i, i ≠ 3989 + t → (i < 3923 ∨ 3926 ≤ i) → i ≠ 3926 + t → i ≠ 3996 + t → V1.1 i = V.1 i) ∧ Vpre lim V1 t np z := by
  have ht := hP.2.2.1
  cases ed : vsd V t with
  | none => rw [vhs_0 ed] at e; cases e
  | some V2 =>
    obtain ⟨j1, j2, ⟨ks, ks1, ks2⟩, j4⟩ := vsd_J hP.1 ht ed hz3 hs
    by_cases c : ((vs V2 (3926 + t) 1).1 (3996 + t) + words).toInt ≤ ((vs V2 (3926 + t) 1).1 2053).toInt
    · rw [vhs_1 ed c] at e
      have e : vs (vs V2 (3926 + t) 1) (3996 + t) ((vs V2 (3926 + t) 1).1 (3996 + t) + words) = V1 := (Prod.mk.inj e).2
      have hsc : ∀ i, i ≠ 3989 + t → (i < 3923 ∨ 3926 ≤ i) → i ≠ 3926 + t → i ≠ 3996 + t → V1.1 i = V.1 i := fun i g1 g2 g3 g4 => by rw [← e, vs_ne g4, vs_ne g3, j4 i g1 g2]
      have h2 : V1.2 = V.2 := by rw [← e]; exact j2
      refine ⟨h2, ⟨ks, ks1, by rw [← e, vs_ne (by omega), vs_ne (by omega)]; exact ks2⟩, hsc, hP.ww h2 (fun i hi _ => hsc i (by omega) (by omega) (by omega) (by omega)) (fun c hc => hsc _ (by omega) (by omega) (by omega) (by omega))⟩
    · rw [vhs_2 ed c] at e
      cases e
theorem q_foreign {z2 z3 l c : Nat} {words f : Int32} (h : RS s V) (hP : Vpre 2048 V t np z) (h0 : 0 < V.2.2.1 t) (hr : V.1 2051 = nI z2) (hz2 : z2 ≤ 80) (h3 : V.1 2052 = nI z3) (hz3 : z3 ≤ 3) (hs : V.1 (3989 + t) = -1 ∨ ∃ k, k < 3 ∧ V.1 (3989 + t) = nI k) (hk : V.1 2067 = nI k) (hk2 : k < 2147483200) (hl : V.1 (3968 + t) = nI l) (hl16 : l ≤ 16) (hc2 : c < vsz V.1 (vlf V t).1) (hc3 : ¬ bt (V.1 (2238 + (vlf V t).1)) c) (hE : tld V.1 f → vE V.1 (vlf V t).1 f.toInt.toNat) :
    ∃ s', gX11_foreign s (nI t) words f (nI c) = some ((), s') ∧ RS s' (vfg 2048 V t words f (nI c)) ∧ RF s s' := by
  have ht := hP.2.2.1
  have hj := hP.1
  have hzz : (V.1 2052).toInt.toNat ≤ 3 := by rw [h3, nI_int (by omega)]; show (z3 : Int).toNat ≤ 3; omega
  obtain ⟨s1, a1, a2, a3⟩ := q_hasSide (words := words) h hj ht h3 hz3 hs hk hk2
  unfold gX11_foreign vfg
  rw [a1, cl_some, if_rbn]
  generalize hres : vhs V t words = res at *
  obtain ⟨b, V1⟩ := res
  cases b with
  | false =>
    rw [if_neg (by simp)]
    exact ⟨s1, rfl, a2, a3⟩
  | true =>
    obtain ⟨b1, ⟨ks, ks1, ks2⟩, b3, b4⟩ := vhs_T hP hzz hs hres
    rw [if_pos rfl]
    have e22 : V1.2.2 = V.2.2 := by rw [b1]
    have hlf : vlf V1 t = vlf V t := by unfold vlf; rw [e22]
    have hn1 : V1.2.2.1 t = V.2.2.1 t := by rw [e22]
    have a2 : RS s1 V1 := a2
    have b40 := b4
    obtain ⟨hj1, hc1, -, -, -, -, -, -, -⟩ := b4
    have hw1 : vpe V.1 V1.1 := fun i hi => b3 i (by omega) (by omega) (by omega) (by omega)
    obtain ⟨d1, d2, d3, d4, d5⟩ := hc1.2.2.2.2.2.2.1 (by omega)
    have hi1 : V1.2.2.1 t - 1 < V1.2.2.1 t := by omega
    have hfl : (vlf V t).1 < 10 := by rw [← hlf]; exact (d3.1 _ hi1).1
    have hfit := hj1.fit ht hi1
    have hfit2 := hfit.2.2
    unfold vwd at hfit2
    have hlfe : V1.2.2.2 t (V1.2.2.1 t - 1) = vlf V t := by rw [← hlf]; rfl
    rw [hlfe] at d5 hfit2
    have hsz1 : vsz V1.1 (vlf V t).1 = vsz V.1 (vlf V t).1 := (hw1.sz hfl).1
    rw [li_add, ix_nI (by omega) (by omega), a2.tk (c := 3982) (by omega) ht, d4, q_isTold, cl_some, if_rb, li_add2, nI_add]
    have htl : tld (s1 111) f ↔ tld V1.1 f := a2.prog.tl
    have hcc : (nI c).toInt.toNat = c := by rw [nI_int (by have := (hj.1.sz hfl).2; omega)]; rfl
    dsimp only
    rw [hcc]
    by_cases ct : tld V1.1 f
    · rw [if_pos (htl.mpr ct), if_pos ct]
      obtain ⟨f', hf1, rfl⟩ := nI_ex ct.1.1
      have hf9 := ct.1.2
      rw [nI_int hf1] at hf9
      have hfn : (nI f').toInt.toNat = f' := by rw [nI_int hf1]; rfl
      have hE' := hE (hw1.tl.mp ct)
      rw [hfn] at hE'
      have hl1 : V1.1 (3968 + t) = nI l := by rw [b3 _ (by omega) (by omega) (by omega) (by omega)]; exact hl
      have hl1n : (V1.1 (3968 + t)).toInt.toNat = l := by rw [hl1, nI_int (by omega)]; rfl
      have hs1 : 1 ≤ vsz V1.1 f' := by
        have := ct.2
        rw [hfn] at this
        unfold vsz
        omega
      have hEc : vE V1.1 (vlf V t).1 f' := by
        obtain ⟨kk, x1, x2, x3⟩ := hE'
        have hli := (hj.1.li hfl)
        exact ⟨kk, by rw [(hw1.sz hfl).2.2.1]; exact x1, by rw [hw1.cal hfl (by omega)]; exact hw1.tl.mpr x2, by rw [hw1.cal hfl (by omega)]; exact x3⟩
      obtain ⟨s', e1, e2, e3⟩ := q_calls (bk := 32 * (vlf V t).1 + l + 2048) (k0 := c) (l5 := 0) (k := k) a2 b40 (by omega) hs1 (by rw [hw1 2051 (Or.inr (Or.inr rfl))]; exact hr) hz2 (by rw [b3 _ (by omega) (by omega) (by omega) (by omega)]; exact hk) (by omega) (Or.inr ⟨ks, ks1, ks2⟩) (by omega) (by rw [hlfe, hsz1]; exact hc2) (by rw [hlfe]; exact hEc)
      rw [hlfe] at e2
      rw [hfn, hlf, hl1n]
      refine ⟨s', ?_, e2, RF.trans a3 e3⟩
      rw [li_add, ix_nI (by omega) (by omega), a2.tk (c := 3975) (by omega) ht, d5, li_add, ix_nI (by omega) (by omega), a2.tk (c := 3968) (by omega) ht, hl1, li_mul, nI_add, li_add2, e1, cl_some]
    · rw [if_neg (fun q => ct (htl.mp q)), if_neg ct, hlf]
      have hwrd := (a2.wd hj1 rfl ht hi1).2.2 c (by rw [hlfe, hsz1]; exact hc2)
      have hbt1 : ¬ bt (V1.1 (2238 + (vlf V t).1)) c := by rw [(hw1.sz hfl).2.2.2]; exact hc3
      have hvs : vsw V1.1 (vpl V1 t) (V1.2.2.2 t (V1.2.2.1 t - 1)) c = vnm (vlf V t) (nI c) := by
        rw [hlfe]
        unfold vsw vnm
        rw [if_neg hbt1, hcc]
      rw [hvs] at hwrd
      have hr2 := a2.num (v := 3 * vnm (vlf V t) (nI c) + 1) hj1 ht hi1 (k := c) (by rw [hlfe, hsz1]; exact hc2) (by rw [hlfe]; exact hbt1)
      obtain ⟨s', f1, f2, f3⟩ := q_fover (words := words) hr2 ht ks1 (by exact ks2)
      refine ⟨s', ?_, f2, RF.trans a3 (RF.trans (RF.uf (Or.inl rfl)) f3)⟩
      have hc8 := (hj.1.sz hfl).2
      rw [q_word0 a2.1 (by omega), cl_some, hwrd, q_lays0 a2.1 (by omega), cl_some, f1, cl_some]
end
