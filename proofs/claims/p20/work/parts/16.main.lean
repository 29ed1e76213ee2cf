/-! ===== every run of the mini-machine is a run of the machine ===== -/
def mj_nx (tl : List mj_r) (n : Nat) : Bool := match tl with
  | r2 :: _ => decide (r2.1 = n)
  | [] => false
set_option maxHeartbeats 8000000 in
theorem mj_sound : ∀ N, mj_IH N := by
  intro N
  induction N with
  | zero =>
    intro d X i suf loc st h r1 h1 C hem hsuf hE
    have hE : (none : Option (Option (mj_v Int32) × mj_h Int32)) = some (r1, h1) := hE
    cases hE
  | succ N ih =>
    intro d X i suf loc st h r1 h1 C hem hsuf hE hf hl hc1 hc2 hend
    cases suf with
    | nil =>
      have hE : (none : Option (Option (mj_v Int32) × mj_h Int32)) = some (r1, h1) := hE
      cases hE
    | cons r tl =>
      refine ⟨r, tl, rfl, ?_⟩
      obtain ⟨pc, ins, x, xs⟩ := r
      have hri : X.2.1.2.2.2.2.2.2.2[i]? = some (pc, ins, x, xs) := by
        have := congrArg (fun q => q[0]?) hsuf
        simp only [List.getElem?_cons_zero, List.getElem?_drop, Nat.add_zero] at this
        exact this.symm
      have htl : tl = X.2.1.2.2.2.2.2.2.2.drop (i + 1) := by
        have := congrArg List.tail hsuf
        simpa using this
      have hok := mj_allr _ hem i _ hri
      rw [← htl] at hok
      rw [mj_exec_succ] at hE
      have Gr : ∀ loc' st' h', mj_exec mj_I mj_cds N d X.2.1.2.2.2.2.2.2.2 tl loc' st' h' = some (r1, h1) → h'.length - X.2.2.2.2.2.2.2.2.2.2.2.2.1.length ≤ X.2.2.2.2.2.1.cells ∧ mj_sz h' - mj_sz X.2.2.2.2.2.2.2.2.2.2.2.2.1 ≤ X.2.2.2.2.2.1.slots := by
        intro loc' st' h' e
        have := mj_grow _ _ _ _ _ _ _ _ _ e
        omega
      have K : ∀ ln, mj_nx tl (pc + ln) = true → ∀ loc' st' h', mj_exec mj_I mj_cds N d X.2.1.2.2.2.2.2.2.2 tl loc' st' h' = some (r1, h1) → mj_Go X (pc + ln) loc' st' h' := by
        intro ln hln loc' st' h' e
        obtain ⟨r2, tl2, h2, h3⟩ := ih d X (i + 1) tl loc' st' h' r1 h1 C hem htl e hf hl hc1 hc2 hend
        rw [h2] at hln
        have hln := of_decide_eq_true hln
        rw [hln] at h3
        exact h3
      have J : ∀ (j : Nat) (off : Int), mj_tgt X.2.1.2.2.2.2.2.2.2 pc off j = true → ∃ tgt : Nat, (pc : Int) + off = (tgt : Int) ∧ (match X.2.1.2.2.2.2.2.2.2[j]? with
          | some r => r.1
          | none => 0) = tgt ∧ ∀ st', mj_exec mj_I mj_cds N d X.2.1.2.2.2.2.2.2.2 (mj_drop j X.2.1.2.2.2.2.2.2.2) loc st' h = some (r1, h1) → mj_Go X tgt loc st' h := by
        intro j off ht
        unfold mj_tgt at ht
        split at ht
        · rename_i r3 hr3
          rw [decide_eq_true_eq] at ht
          refine ⟨r3.1, ht, by rw [hr3], fun st' e => ?_⟩
          rw [mj_drop_eq] at e
          obtain ⟨r2, tl2, h2, h3⟩ := ih d X j _ loc st' h r1 h1 C hem rfl e hf hl hc1 hc2 hend
          have : X.2.1.2.2.2.2.2.2.2[j]? = some r2 := by
            have := congrArg (fun q => q[0]?) h2
            simp only [List.getElem?_cons_zero, List.getElem?_drop, Nat.add_zero] at this
            exact this
          rw [hr3] at this
          cases this
          exact h3
        · cases ht
      have hf1 : 1 ≤ X.2.2.2.2.2.1.frames := by omega
      have hl1 : 64 ≤ X.2.2.2.2.2.1.locals := by omega
      have hen : ∀ (stk : List Value), mj_rt X.1 X.2.1 r1 pc stk → h = h1 → st.map (mj_rv X.1) = stk → mj_Go X pc loc st h := by
        intro stk hrt hh hs
        subst hh
        rcases X with ⟨G, e, p, l, en, R, s, m, args, below, meth, c, h0, Q⟩
        intro H locs ls hR q1 q2 q3 hL
        rw [show st.map (mj_rv G) = stk from hs]
        exact hend H locs pc ls stk hR q3 hrt
      unfold mj_okr at hok
      simp only [Bool.and_eq_true] at hok
      obtain ⟨⟨hdec, hfall⟩, hok⟩ := hok
      dsimp only at hdec hfall hok hE
      have hfl : mj_falls ins = true → mj_nx tl (pc + mj_ln ins) = true := by
        intro hq
        rw [hq] at hfall
        cases tl with
        | nil => exact hfall
        | cons a b => exact hfall
      clear hfall
      cases ins with
      | iload i =>
        have hd := of_decide_eq_true hdec
        exact go_iload C hd hE (K 2 (hfl rfl))
      | iload_n i =>
        have hd := of_decide_eq_true hdec
        exact go_iload_n C hd hE (K 1 (hfl rfl))
      | aload i =>
        have hd := of_decide_eq_true hdec
        exact go_aload C hd hE (K 2 (hfl rfl))
      | aload_n i =>
        have hd := of_decide_eq_true hdec
        exact go_aload_n C hd hE (K 1 (hfl rfl))
      | istore i =>
        have hd := of_decide_eq_true hdec
        exact go_istore C (of_decide_eq_true hok) hd hE (K 2 (hfl rfl))
      | istore_n i =>
        have hd := of_decide_eq_true hdec
        exact go_istore_n C (of_decide_eq_true hok) hd hE (K 1 (hfl rfl))
      | astore i =>
        have hd := of_decide_eq_true hdec
        exact go_astore C (of_decide_eq_true hok) hd hE (K 2 (hfl rfl))
      | astore_n i =>
        have hd := of_decide_eq_true hdec
        exact go_astore_n C (of_decide_eq_true hok) hd hE (K 1 (hfl rfl))
      | iconst n =>
        have hd := of_decide_eq_true hdec
        exact go_iconst C hd (K 1 (hfl rfl) _ _ _ hE)
      | bipush n =>
        have hd := of_decide_eq_true hdec
        exact go_bipush C (of_decide_eq_true hok) hd (K 2 (hfl rfl) _ _ _ hE)
      | sipush n =>
        have hd := of_decide_eq_true hdec
        exact go_sipush C (of_decide_eq_true hok) hd (K 3 (hfl rfl) _ _ _ hE)
      | ldc i =>
        have hd := of_decide_eq_true hdec
        unfold mj_ok1 at hok
        dsimp only at hok
        split at hok
        · exact go_ldc C (mj_at_mem (of_decide_eq_true hok)) hd (K 2 (hfl rfl) _ _ _ hE)
        · cases hok
      | ldc_w i =>
        have hd := of_decide_eq_true hdec
        unfold mj_ok1 at hok
        dsimp only at hok
        split at hok
        · exact go_ldcw C (mj_at_mem (of_decide_eq_true hok)) hd (K 3 (hfl rfl) _ _ _ hE)
        · cases hok
      | iadd =>
        have hd := of_decide_eq_true hdec
        exact go_iadd C hd hE (K 1 (hfl rfl))
      | isub =>
        have hd := of_decide_eq_true hdec
        exact go_isub C hd hE (K 1 (hfl rfl))
      | imul =>
        have hd := of_decide_eq_true hdec
        exact go_imul C hd hE (K 1 (hfl rfl))
      | idiv =>
        have hd := of_decide_eq_true hdec
        exact go_idiv C hd hE (K 1 (hfl rfl))
      | irem =>
        have hd := of_decide_eq_true hdec
        exact go_irem C hd hE (K 1 (hfl rfl))
      | ishl =>
        have hd := of_decide_eq_true hdec
        exact go_ishl C hd hE (K 1 (hfl rfl))
      | ishr =>
        have hd := of_decide_eq_true hdec
        exact go_ishr C hd hE (K 1 (hfl rfl))
      | iand =>
        have hd := of_decide_eq_true hdec
        exact go_iand C hd hE (K 1 (hfl rfl))
      | ior =>
        have hd := of_decide_eq_true hdec
        exact go_ior C hd hE (K 1 (hfl rfl))
      | ineg =>
        have hd := of_decide_eq_true hdec
        exact go_ineg C hd hE (K 1 (hfl rfl))
      | dup =>
        have hd := of_decide_eq_true hdec
        exact go_dup C hd hE (K 1 (hfl rfl))
      | dup2 =>
        have hd := of_decide_eq_true hdec
        exact go_dup2 C hd hE (K 1 (hfl rfl))
      | pop =>
        have hd := of_decide_eq_true hdec
        exact go_pop C hd hE (K 1 (hfl rfl))
      | iinc i n =>
        have hd := of_decide_eq_true hdec
        exact go_iinc C (of_decide_eq_true hok) hd hE (K 3 (hfl rfl))
      | if_icmp cc off =>
        have hd := of_decide_eq_true hdec
        replace hE : mj_icmp mj_I x loc st h (fun loc st h => mj_exec mj_I mj_cds N d X.2.1.2.2.2.2.2.2.2 tl loc st h) (fun j st => mj_exec mj_I mj_cds N d X.2.1.2.2.2.2.2.2.2 (mj_drop j X.2.1.2.2.2.2.2.2.2) loc st h) none cc = some (r1, h1) := hE
        obtain ⟨tgt, ht, -, hj⟩ := J x off hok
        cases cc with
        | eq => exact go_icmp_eq C hd ht hE (K 3 (hfl rfl)) hj
        | ne => exact go_icmp_ne C hd ht hE (K 3 (hfl rfl)) hj
        | lt => exact go_icmp_lt C hd ht hE (K 3 (hfl rfl)) hj
        | ge => exact go_icmp_ge C hd ht hE (K 3 (hfl rfl)) hj
        | gt => exact go_icmp_gt C hd ht hE (K 3 (hfl rfl)) hj
        | le => exact go_icmp_le C hd ht hE (K 3 (hfl rfl)) hj
      | ifCond cc off =>
        have hd := of_decide_eq_true hdec
        replace hE : mj_ifc mj_I x loc st h (fun loc st h => mj_exec mj_I mj_cds N d X.2.1.2.2.2.2.2.2.2 tl loc st h) (fun j st => mj_exec mj_I mj_cds N d X.2.1.2.2.2.2.2.2.2 (mj_drop j X.2.1.2.2.2.2.2.2.2) loc st h) none cc = some (r1, h1) := hE
        obtain ⟨tgt, ht, -, hj⟩ := J x off hok
        cases cc with
        | eq => exact go_ifc_eq C hd ht hE (K 3 (hfl rfl)) hj
        | ne => exact go_ifc_ne C hd ht hE (K 3 (hfl rfl)) hj
        | lt => exact go_ifc_lt C hd ht hE (K 3 (hfl rfl)) hj
        | ge => exact go_ifc_ge C hd ht hE (K 3 (hfl rfl)) hj
        | gt => exact go_ifc_gt C hd ht hE (K 3 (hfl rfl)) hj
        | le => exact go_ifc_le C hd ht hE (K 3 (hfl rfl)) hj
      | goto off =>
        have hd := of_decide_eq_true hdec
        obtain ⟨tgt, ht, -, hj⟩ := J x off hok
        exact go_goto (x := x) C hd ht (hj _ hE)
      | tableswitch df lo hi offs =>
        replace hE : mj_tab mj_I x xs st (fun j st => mj_exec mj_I mj_cds N d X.2.1.2.2.2.2.2.2.2 (mj_drop j X.2.1.2.2.2.2.2.2.2) loc st h) none lo hi = some (r1, h1) := hE
        unfold mj_ok1 at hok
        simp only [Bool.and_eq_true, decide_eq_true_eq] at hok
        obtain ⟨⟨ok1, ok2⟩, ok3⟩ := hok
        dsimp only at hdec
        split at hdec
        · rename_i q hq
          rw [decide_eq_true_eq] at hdec
          obtain ⟨q1, q2⟩ := q
          dsimp only at hdec
          subst hdec
          obtain ⟨tgt, ht, ht2, hj⟩ := J x df ok1
          refine go_tab (x := x) (tg := fun j => match X.2.1.2.2.2.2.2.2.2[j]? with
            | some r => r.1
            | none => 0) C hq (by dsimp only; rw [ht2]; exact ht) ok2 ?_ hE ?_
          · intro a o j h1 h2
            have hm : (o, j) ∈ offs.toList.zip xs := by
              refine List.mem_of_getElem? (i := a) ?_
              rw [List.getElem?_zip_eq_some]
              exact ⟨by rw [Array.getElem?_toList]; exact h1, h2⟩
            obtain ⟨t2, h3, h4, -⟩ := J j o (List.all_eq_true.mp ok3 _ hm)
            dsimp only
            rw [h4]
            exact h3
          · intro j st' e
            have hj2 : mj_exec mj_I mj_cds N d X.2.1.2.2.2.2.2.2.2 (mj_drop j X.2.1.2.2.2.2.2.2.2) loc st' h = some (r1, h1) := e
            rw [mj_drop_eq] at hj2
            obtain ⟨r2, tl2, h2, h3⟩ := ih d X j _ loc st' h r1 h1 C hem rfl hj2 hf hl hc1 hc2 hend
            have : X.2.1.2.2.2.2.2.2.2[j]? = some r2 := by
              have := congrArg (fun q => q[0]?) h2
              simp only [List.getElem?_cons_zero, List.getElem?_drop, Nat.add_zero] at this
              exact this
            rw [this]
            exact h3
        · cases hdec
      | iaload =>
        have hd := of_decide_eq_true hdec
        exact go_iald C hd hE (K 1 (hfl rfl))
      | baload =>
        have hd := of_decide_eq_true hdec
        exact go_zald C hd hE (K 1 (hfl rfl))
      | iastore =>
        have hd := of_decide_eq_true hdec
        exact go_iast C hd hE (K 1 (hfl rfl))
      | bastore =>
        have hd := of_decide_eq_true hdec
        exact go_zast C hd hE (K 1 (hfl rfl))
      | aaload =>
        have hd := of_decide_eq_true hdec
        exact go_aald C hd hE (K 1 (hfl rfl))
      | aastore =>
        have hd := of_decide_eq_true hdec
        exact go_aast C hd hE (K 1 (hfl rfl))
      | arraylength =>
        have hd := of_decide_eq_true hdec
        exact go_alen C hd hE (K 1 (hfl rfl))
      | getfield i =>
        have hd := of_decide_eq_true hdec
        unfold mj_ok1 at hok
        dsimp only at hok
        split at hok
        · split at hok
          · rename_i C0 T N0 hcl
            simp only [Bool.and_eq_true, decide_eq_true_eq] at hok
            exact go_getf C hcl hok.1 (mj_at_mem hok.2) hd hE (K 3 (hfl rfl))
          · cases hok
        · cases hok
      | putfield i =>
        have hd := of_decide_eq_true hdec
        unfold mj_ok1 at hok
        dsimp only at hok
        split at hok
        · split at hok
          · rename_i C0 T N0 hcl
            simp only [Bool.and_eq_true, Bool.or_eq_true, decide_eq_true_eq] at hok
            obtain ⟨⟨⟨⟨o1, o2⟩, o3⟩, o4⟩, o5⟩ := hok
            exact go_putf C hcl o1 (mj_at_mem o2) (o3.imp id fun q => ⟨q.1.1, q.1.2, q.2⟩) o4 hd hE (K 3 (hfl rfl))
          · cases hok
        · cases hok
      | getstatic i =>
        have hd := of_decide_eq_true hdec
        unfold mj_ok1 at hok
        dsimp only at hok
        split at hok
        · rename_i p nest xs0
          simp only [Bool.and_eq_true, decide_eq_true_eq] at hok
          obtain ⟨⟨o1, o2⟩, o3⟩ := hok
          refine go_gets C o1 o2 ?_ hd (K 3 (hfl rfl) _ _ _ hE)
          by_cases hn : nest = 0
          · rw [if_pos hn, decide_eq_true_eq] at o3
            exact Or.inl (mj_at_mem o3)
          · rw [if_neg hn, decide_eq_true_eq] at o3
            exact Or.inr (mj_at_mem o3)
        · cases hok
      | new i =>
        have hd := of_decide_eq_true hdec
        unfold mj_ok1 at hok
        dsimp only at hok
        split at hok
        · split at hok
          · rename_i C0 T N0 hcl
            simp only [Bool.and_eq_true, decide_eq_true_eq] at hok
            obtain ⟨⟨⟨⟨o1, o2⟩, o3⟩, o4⟩, o5⟩ := hok
            exact go_new (p1 := 0) (p2 := 0) (p3 := 0) C hcl (mj_at_mem o1) (mj_at_mem o2) (mj_at_mem o3) o4 (fun j hj => List.all_eq_true.mp o5 j (List.mem_range.mpr hj)) hd hE Gr (K 3 (hfl rfl))
          · cases hok
        · cases hok
      | newarray t =>
        have hd := of_decide_eq_true hdec
        unfold mj_ok1 at hok
        dsimp only at hok
        split at hok
        · rename_i p xs0
          have hw := mj_at_mem (of_decide_eq_true hok)
          cases t with
          | int => exact go_newa (Or.inl ⟨rfl, rfl⟩) C hw hd hE Gr (K 2 (hfl rfl))
          | boolean => exact go_newa (Or.inr ⟨rfl, rfl⟩) C hw hd hE Gr (K 2 (hfl rfl))
          | _ => cases hE
        · cases hok
      | anewarray i =>
        have hd := of_decide_eq_true hdec
        unfold mj_ok1 at hok
        dsimp only at hok
        split at hok
        · simp only [Bool.and_eq_true, decide_eq_true_eq] at hok
          exact go_anew C (mj_at_mem hok.1) hd hE Gr (K 3 (hfl rfl))
        · cases hok
      | invokevirtual i =>
        have hd := of_decide_eq_true hdec
        exact mj_call_go ih C hf hl hok (Or.inl ⟨rfl, hd⟩) hE Gr (K 3 (hfl rfl))
      | invokespecial i =>
        have hd := of_decide_eq_true hdec
        unfold mj_ok1 at hok
        dsimp only at hok
        replace hE : mj_spec x xs loc st h (fun loc st h => mj_exec mj_I mj_cds N d X.2.1.2.2.2.2.2.2.2 tl loc st h) (mj_kc (mj_exec mj_I mj_cds N) mj_cds d X.2.1.2.2.2.2.2.2.2 tl loc h) none = some (r1, h1) := hE
        unfold mj_spec at hE
        split at hE
        · rename_i hx
          rw [if_pos (Nat.eq_of_beq_eq_true hx)] at hok
          split at hok
          · rename_i p xs0
            split at hE
            · rename_i a rest
              split at hE
              · rename_i hle
                rw [mj_len_eq] at hle
                exact go_oinit (v := .inr none) C hf1 hl1 (mj_at_mem (of_decide_eq_true hok)) hd rfl (Nat.le_of_ble_eq_true hle) (K 3 (hfl rfl) _ _ _ hE)
              · cases hE
            · cases hE
          · cases hok
        · rename_i hx
          rw [if_neg (Nat.ne_of_beq_eq_false hx)] at hok
          exact mj_call_go ih C hf hl hok (Or.inr (Or.inl ⟨rfl, hd⟩)) hE Gr (K 3 (hfl rfl))
      | invokestatic i =>
        have hd := of_decide_eq_true hdec
        unfold mj_ok1 at hok
        dsimp only at hok
        replace hE : mj_stat mj_I x xs loc st h (fun loc st h => mj_exec mj_I mj_cds N d X.2.1.2.2.2.2.2.2.2 tl loc st h) (mj_kc (mj_exec mj_I mj_cds N) mj_cds d X.2.1.2.2.2.2.2.2.2 tl loc h) none = some (r1, h1) := hE
        unfold mj_stat at hE
        split at hE
        · rename_i hx
          rw [if_pos (Nat.eq_of_beq_eq_true hx)] at hok
          split at hok
          · exact go_acopy C hf1 hl1 (mj_at_mem (of_decide_eq_true hok)) hd hE (K 3 (hfl rfl))
          · cases hok
        · rename_i hx
          rw [if_neg (Nat.ne_of_beq_eq_false hx)] at hok
          exact mj_call_go ih C hf hl hok (Or.inr (Or.inr ⟨rfl, hd⟩)) hE Gr (K 3 (hfl rfl))
      | ireturn =>
        have hd := of_decide_eq_true hdec
        replace hE : mj_iret mj_I x st (fun v => some (v, h)) none = some (r1, h1) := hE
        unfold mj_iret at hE
        split at hE
        · rename_i v
          unfold mj_ok1 at hok
          dsimp only at hok
          split at hE
          · cases hE
            exact hen [.int v] ⟨hd, rfl, Or.inl (of_decide_eq_true hok)⟩ rfl rfl
          · rename_i hx0
            split at hE
            · rename_i hbit
              cases hE
              refine hen [.int v] ⟨hd, rfl, Or.inr ⟨?_, mj_bit_spec hbit⟩⟩ rfl rfl
              split at hok
              · exact absurd rfl hx0
              · exact of_decide_eq_true hok
            · cases hE
        · cases hE
      | areturn =>
        have hd := of_decide_eq_true hdec
        replace hE : mj_aret st (fun v => some (v, h)) none = some (r1, h1) := hE
        unfold mj_aret at hE
        split at hE
        · rename_i a
          cases hE
          exact hen [.ref (mj_ad X.1 a)] ⟨hd, rfl, of_decide_eq_true hok⟩ rfl rfl
        · cases hE
      | return_ =>
        have hd := of_decide_eq_true hdec
        replace hE : mj_vret st (fun v => some (v, h)) none = some (r1, h1) := hE
        unfold mj_vret at hE
        split at hE
        · cases hE
          exact hen [] ⟨hd, rfl, of_decide_eq_true hok⟩ rfl rfl
        · cases hE
      | _ =>
        cases hE
