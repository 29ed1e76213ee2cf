/-! ===== a move keeps what always holds ===== -/
section
variable {lim B t z g words : Nat} {V : vV}
theorem vmv_ne {i : Nat} (h1 : i ≠ 3982 + t) (h2 : i ≠ 4017 + t) (h3 : i ≠ 2059) : (vmv V t g words).1 i = V.1 i := by
  unfold vmv
  dsimp only
  rw [vcn_ne (by omega), vs_ne h2]
  show (vs V (3982 + t) _).1 i = V.1 i
  rw [vs_ne h1]
theorem vi_mv (hI : VI lim B V) (hb : vbz V.1 t) (hP : Vpre lim V t 1 z) (hg : g + words ≤ lim ∧ ∀ q ∈ V.2.1, g + words ≤ q.1 ∨ q.1 + q.2.1 ≤ g) (hw : z ≤ words) (hu : vus V.1 (V.2.2.2 t) (V.2.2.1 t) ≤ words) (hcov : ∀ i, i < V.2.2.1 t → vcv (V.2.2.2 t i) → ∀ d, vdp V.1 10 (V.2.2.2 t i).1 = some d → (V.2.2.2 t i).2.2.1 + d ≤ words) (hm : V.1 (3933 + t) = 0) : VI lim B (vmv V t g words) := by
  obtain ⟨v1, v2, v3, -⟩ := vmv_inv hP hg hw hu hcov hm
  obtain ⟨hj, hc, ht, hz, h8, hzl, hl, hl2, hqz⟩ := hP
  have hz0 : (V.1 2048).toInt.toNat = z := by rw [hz, nI_int (by omega)]; rfl
  refine hI.ot (B' := B) (OT.mv ht) ht ⟨v1.2.1, v1.2.2.1, by rw [hz0]; exact v3⟩ (isd_ot hI.2.2.2.1 (OT.mv ht) (fun i hi => vmv_ne (by omega) (by omega) (by omega))) ?_ ?_
  · rw [vmv_ne (by omega) (by omega) (by omega)]
    exact hI.2.2.2.2.1
  · rcases hI.2.2.2.2.2 t ht with ⟨b1, b2⟩ | b
    · refine Or.inl ⟨?_, ibz_ico v2 b2 rfl (OT.mv ht).1 hI.2.1 (fun c hc => vmv_ne (by omega) (by omega) (by omega)) (fun k hk => vmv_ne (by omega) (by omega) (by omega))⟩
      unfold vbz at b1 ⊢
      rw [vmv_ne (by omega) (by omega) (by omega)]
      exact b1
    · exfalso
      rcases hb with e | e <;> rcases b.2.2.2.2.2.2.2.1 with g | g | g <;> rw [e] at g <;> exact absurd g (by decide)
end
