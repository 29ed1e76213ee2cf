/-! ===== every script of at most six ints ===== -/
theorem sy_and31 (x : Int32) : 2147483648 ≤ sy_bz (x &&& 31) ∧ sy_bz (x &&& 31) ≤ 2147483679 := by
  have h : 0 ≤ (x &&& 31).toInt ∧ (x &&& 31).toInt ≤ 31 := by
    rw [← Int32.toInt_toBitVec, Int32.toBitVec_and]
    have hb : ∀ b : BitVec 32, (b &&& 31#32).toInt = ((b &&& 31#32).toNat : Int) := by
      intro b
      rw [BitVec.toInt_eq_toNat_of_lt]
      rw [BitVec.toNat_and]
      have : b.toNat &&& (31#32).toNat ≤ 31 := Nat.and_le_right
      omega
    have hb2 : ∀ b : BitVec 32, (b &&& 31#32).toNat ≤ 31 := by
      intro b
      rw [BitVec.toNat_and]
      exact Nat.and_le_right
    show 0 ≤ (x.toBitVec &&& 31#32).toInt ∧ (x.toBitVec &&& 31#32).toInt ≤ 31
    rw [hb]
    have := hb2 x.toBitVec
    omega
  have h2 := sy_bz_int (x &&& 31)
  omega
/-- the seventh unknown is the lowest five bits of the first -/
def sy_env (xs : Nat → Int32) : Nat → Int32 := fun j => if j = 6 then xs 0 &&& 31 else xs j
theorem sy_M_op {xs : Nat → Int32} {fl fh lo hi : Nat} (h1 : fl ≤ sy_bz (xs 1)) (h2 : sy_bz (xs 1) ≤ fh) (h3 : 2147483648 + lo ≤ sy_bz (xs 0 &&& 31)) (h4 : sy_bz (xs 0 &&& 31) ≤ 2147483648 + hi) : sy_M (sy_env xs) (sy_Kop fl fh lo hi) := by
  refine ⟨rfl, fun i l h hi => ?_⟩
  match i, hi with
  | 0, hi => cases hi; exact ⟨Nat.zero_le _, sy_bz_le _⟩
  | 1, hi => cases hi; exact ⟨h1, h2⟩
  | 2, hi => cases hi; exact ⟨Nat.zero_le _, sy_bz_le _⟩
  | 3, hi => cases hi; exact ⟨Nat.zero_le _, sy_bz_le _⟩
  | 4, hi => cases hi; exact ⟨Nat.zero_le _, sy_bz_le _⟩
  | 5, hi => cases hi; exact ⟨Nat.zero_le _, sy_bz_le _⟩
  | 6, hi => cases hi; exact ⟨h3, h4⟩
  | i + 7, hi => cases hi
theorem sy_M_fn {xs : Nat → Int32} {fl fh gl gh : Nat} (h1 : fl ≤ sy_bz (xs 1)) (h2 : sy_bz (xs 1) ≤ fh) (g1 : gl ≤ sy_bz (xs 2)) (g2 : sy_bz (xs 2) ≤ gh) (h3 : sy_bz (xs 0 &&& 31) = 2147483649) : sy_M (sy_env xs) [(0, 4294967295), (fl, fh), (gl, gh), (0, 4294967295), (0, 4294967295), (0, 4294967295), (2147483649, 2147483649)] := by
  refine ⟨rfl, fun i l h hi => ?_⟩
  match i, hi with
  | 0, hi => cases hi; exact ⟨Nat.zero_le _, sy_bz_le _⟩
  | 1, hi => cases hi; exact ⟨h1, h2⟩
  | 2, hi => cases hi; exact ⟨g1, g2⟩
  | 3, hi => cases hi; exact ⟨Nat.zero_le _, sy_bz_le _⟩
  | 4, hi => cases hi; exact ⟨Nat.zero_le _, sy_bz_le _⟩
  | 5, hi => cases hi; exact ⟨Nat.zero_le _, sy_bz_le _⟩
  | 6, hi => cases hi; exact ⟨Nat.le_of_eq h3.symm, Nat.le_of_eq h3⟩
  | i + 7, hi => cases hi
theorem sy_M_nil (xs : Nat → Int32) : sy_M (sy_env xs) [] := ⟨rfl, fun i l h hi => by cases hi⟩
theorem sy_six (xs : Nat → Int32) : ∃ N h1, mj_exec mj_I mj_cds N 30 kL_law kL_law [some (.inr (some 0)), none, none, none] [] (mj_old 6 (sy_env xs)) = some (some (.inl 1), h1) ∧ h1.length ≤ 600000 ∧ mj_sz h1 ≤ 7302250 := by
  obtain ⟨a1, a2⟩ := sy_and31 (xs 0)
  have z := sy_bz_le (xs 1)
  generalize hc : sy_bz (xs 0 &&& 31) = c at a1 a2
  have key : ∀ fl fh lo hi, sy_law sy_it 6 200000 (sy_Kop fl fh lo hi) = true → fl ≤ sy_bz (xs 1) → sy_bz (xs 1) ≤ fh → 2147483648 + lo ≤ c → c ≤ 2147483648 + hi → ∃ N h1, mj_exec mj_I mj_cds N 30 kL_law kL_law [some (.inr (some 0)), none, none, none] [] (mj_old 6 (sy_env xs)) = some (some (.inl 1), h1) ∧ h1.length ≤ 600000 ∧ mj_sz h1 ≤ 7302250 := fun fl fh lo hi hr q1 q2 q3 q4 => sy_law_run hr (sy_M_op q1 q2 (by rw [hc]; exact q3) (by rw [hc]; exact q4))
  by_cases h1 : c = 2147483648 + 1
  · have z2 := sy_bz_le (xs 2)
    have key2 : ∀ fl fh gl gh, sy_law sy_it 6 200000 [(0, 4294967295), (fl, fh), (gl, gh), (0, 4294967295), (0, 4294967295), (0, 4294967295), (2147483649, 2147483649)] = true → fl ≤ sy_bz (xs 1) → sy_bz (xs 1) ≤ fh → gl ≤ sy_bz (xs 2) → sy_bz (xs 2) ≤ gh → ∃ N h1, mj_exec mj_I mj_cds N 30 kL_law kL_law [some (.inr (some 0)), none, none, none] [] (mj_old 6 (sy_env xs)) = some (some (.inl 1), h1) ∧ h1.length ≤ 600000 ∧ mj_sz h1 ≤ 7302250 := fun fl fh gl gh hr q1 q2 q3 q4 => sy_law_run hr (sy_M_fn q1 q2 q3 q4 (by rw [hc, h1]))
    generalize hf : sy_bz (xs 1) = b at key2 z
    generalize hg : sy_bz (xs 2) = b2 at key2 z2
    have two : ∀ fl fh, sy_law sy_it 6 200000 [(0, 4294967295), (fl, fh), (0, 2147483651), (0, 4294967295), (0, 4294967295), (0, 4294967295), (2147483649, 2147483649)] = true → sy_law sy_it 6 200000 [(0, 4294967295), (fl, fh), (2147483652, 4294967295), (0, 4294967295), (0, 4294967295), (0, 4294967295), (2147483649, 2147483649)] = true → fl ≤ b → b ≤ fh → ∃ N h1, mj_exec mj_I mj_cds N 30 kL_law kL_law [some (.inr (some 0)), none, none, none] [] (mj_old 6 (sy_env xs)) = some (some (.inl 1), h1) ∧ h1.length ≤ 600000 ∧ mj_sz h1 ≤ 7302250 := by
      intro fl fh r1 r2 q1 q2
      by_cases hq : b2 ≤ 2147483651
      · exact key2 _ _ _ _ r1 q1 q2 (Nat.zero_le _) hq
      · exact key2 _ _ _ _ r2 q1 q2 (by omega) z2
    by_cases b0 : b ≤ 2147483648
    · exact two 0 2147483648 sy_f0_0 sy_f0_1 (by omega) (by omega)
    by_cases b1 : b = 2147483649
    · exact two 2147483649 2147483649 sy_f1_0 sy_f1_1 (by omega) (by omega)
    by_cases b2 : b = 2147483650
    · exact two 2147483650 2147483650 sy_f2_0 sy_f2_1 (by omega) (by omega)
    by_cases b3 : b = 2147483651
    · exact two 2147483651 2147483651 sy_f3_0 sy_f3_1 (by omega) (by omega)
    by_cases b4 : b = 2147483652
    · exact two 2147483652 2147483652 sy_f4_0 sy_f4_1 (by omega) (by omega)
    by_cases b5 : b = 2147483653
    · exact two 2147483653 2147483653 sy_f5_0 sy_f5_1 (by omega) (by omega)
    by_cases b6 : b = 2147483654
    · exact two 2147483654 2147483654 sy_f6_0 sy_f6_1 (by omega) (by omega)
    by_cases b7 : b = 2147483655
    · exact two 2147483655 2147483655 sy_f7_0 sy_f7_1 (by omega) (by omega)
    by_cases b8 : b = 2147483656
    · exact two 2147483656 2147483656 sy_f8_0 sy_f8_1 (by omega) (by omega)
    exact two 2147483657 4294967295 sy_f9_0 sy_f9_1 (by omega) (by omega)
  by_cases cg0 : 2147483648 ≤ c ∧ c ≤ 2147483648
  · exact key 0 4294967295 0 0 sy_g0 (Nat.zero_le _) z (by omega) (by omega)
  by_cases cg2 : 2147483650 ≤ c ∧ c ≤ 2147483652
  · exact key 0 4294967295 2 4 sy_g2 (Nat.zero_le _) z (by omega) (by omega)
  by_cases cg5 : 2147483653 ≤ c ∧ c ≤ 2147483653
  · exact key 0 4294967295 5 5 sy_g5 (Nat.zero_le _) z (by omega) (by omega)
  by_cases cg6 : 2147483654 ≤ c ∧ c ≤ 2147483659
  · exact key 0 4294967295 6 11 sy_g6 (Nat.zero_le _) z (by omega) (by omega)
  by_cases cg12 : 2147483660 ≤ c ∧ c ≤ 2147483665
  · exact key 0 4294967295 12 17 sy_g12 (Nat.zero_le _) z (by omega) (by omega)
  by_cases cg18 : 2147483666 ≤ c ∧ c ≤ 2147483666
  · exact key 0 4294967295 18 18 sy_g18 (Nat.zero_le _) z (by omega) (by omega)
  by_cases cg19 : 2147483667 ≤ c ∧ c ≤ 2147483668
  · exact key 0 4294967295 19 20 sy_g19 (Nat.zero_le _) z (by omega) (by omega)
  by_cases cg21 : 2147483669 ≤ c ∧ c ≤ 2147483669
  · by_cases hw : sy_bz (xs 1) ≤ 2147483649
    · exact key 0 2147483649 21 21 sy_g21a (Nat.zero_le _) hw (by omega) (by omega)
    · exact key 2147483650 4294967295 21 21 sy_g21b (by omega) z (by omega) (by omega)
  exact key 0 4294967295 22 31 sy_g22 (Nat.zero_le _) z (by omega) (by omega)
theorem sy_every (L : Nat) (hL : L ≤ 6) (xs : Nat → Int32) : ∃ N h1, mj_exec mj_I mj_cds N 30 kL_law kL_law [some (.inr (some 0)), none, none, none] [] (mj_old L (sy_env xs)) = some (some (.inl 1), h1) ∧ h1.length ≤ 600000 ∧ mj_sz h1 ≤ 7302250 := by
  match L, hL with
  | 0, _ => exact sy_law_run sy_len0 (sy_M_nil xs)
  | 1, _ => exact sy_law_run sy_len1 (sy_M_nil xs)
  | 2, _ => exact sy_law_run sy_len2 (sy_M_nil xs)
  | 3, _ => exact sy_law_run sy_len3 (sy_M_nil xs)
  | 4, _ => exact sy_law_run sy_len4 (sy_M_nil xs)
  | 5, _ => exact sy_law_run sy_len5 (sy_M_nil xs)
  | 6, _ => exact sy_six xs
/-- THE LAW, from its entry -/
theorem whole_start {p : Program} {e : Env} {s : State} {m : MethodId} {below : List Frame} {meth : Method} {c : Code} (l : Launch) (hflags : l.flags = flags0) {b L : Nat} {xs : Nat → Int32} (hL : L ≤ 6) (C0 : lw_At p s m meth c b L xs) : W p l e room_1 s m #[Value.ref b] below meth c s.heap [] 0 0 (lw_Z below #[Value.ref b] s) (entryFrame m ([Value.ref b] : List Value).toArray 4) := by
  obtain ⟨N, h1, hE, hz1, hz2⟩ := sy_every L hL xs
  obtain ⟨hx, hb, hr, hml, hown, hts, ⟨scr, x1, x2, x3, x4, x5⟩, hbl, hlocks, hgv⟩ := C0
  have C1 : lw_At p s m meth c b L (sy_env xs) := ⟨hx, hb, hr, hml, hown, hts, ⟨scr, x1, x2, x3, x4, fun j hj => by
    rw [x5 j hj]
    unfold sy_env
    rw [if_neg (by omega)]⟩, hbl, hlocks, hgv⟩
  exact mj_start l C1 hE hz1 hz2

set_option maxHeartbeats 4000000 in
theorem lw_walk (l : Launch) (hflags : l.flags = flags0) (b : Addr) (xs : List Int32) : MetFree l x (headSpec (Jvm.Cond.code x code maxLocals ret :: tables_1) room_1) (lw_P b xs) (fun _ _ _ _ _ => True) lw_Q := by
  refine MetFree.of_bodyS (code := code) (maxLocals := maxLocals) (ret := ret) (by decide) ?_ ?_
  · intro args s m h hn
    obtain ⟨meth, c, h1, h2, h3, h4, h5, h6, -, -⟩ := Cond.code_spec hn (atoms_spec (ws := Jvm.Cond.code x code maxLocals ret :: tables_1) h _ List.mem_cons_self)
    exact ⟨meth, c, h1, h2, h3, h4, h5, h6⟩
  · intro p e s m args below meth c s₁ B hml0 hP _
    obtain ⟨rfl, hx, hbd, hgv⟩ := hP
    obtain ⟨scr, harrAt, hlist, hof, hsmall⟩ := hx
    obtain ⟨hcb, hkn, -, -⟩ := State.arrayAt?_spec harrAt
    have hown : s.vm.findClass R_law = some m.cls := findClass_of_methodNamed B.named
    have hts0 : ∀ c ∈ (Jvm.Cond.code x code maxLocals ret :: tables_1), c.before #[Value.ref b] s = true := atoms_spec (ws := Jvm.Cond.code x code maxLocals ret :: tables_1) B.pre
    have hts : ∀ w ∈ lw_tbl, w.before #[Value.ref b] s = true := k2_hts_sels lw_privs (fun w hw => hts0 w (List.mem_cons_of_mem _ hw)) lw_privs_ok
    have hml : c.maxLocals = 4 := B.maxLocals_eq (hts0 _ List.mem_cons_self)
    have X₀ : Stand p l e room_1 s m #[Value.ref b] below meth c s₁ [] 0 0 := Stand.of_body B
    have hh0 : s₁.heap = s.heap := by rw [B.state]; rfl
    have hsz : scr.slots.size = xs.length := by rw [← Array.length_toList, hlist, List.length_map]
    have hval : ∀ j : Nat, j < xs.length → scr.slots[j]? = some (.int (xs.getD j 0)) := fun j hj => by
      rw [← Array.getElem?_toList, hlist]
      simp [hj]
    have hbl : b < s.heap.size := (Array.getElem?_eq_some_iff.mp hcb).1
    have hX : va_X b xs.length (fun j => xs.getD j 0) s s.heap := ⟨scr, hcb, hof, hkn, hsz, hval⟩
    have K : W p l e room_1 s m #[Value.ref b] below meth c s₁.heap [] 0 0 (lw_Z below #[Value.ref b] s) (entryFrame m ([Value.ref b] : List Value).toArray 4) := by
      rw [hh0]
      exact whole_start l hflags hbd ⟨B.exec, B.bytes, B.returns, hml, hown, hts, hX, hbl, B.notSynchronized, hgv⟩
    obtain ⟨t, a1, o, b1, b2, b3⟩ := K s₁ rfl X₀
    exact ⟨t, o, a1, b1, b2, b3⟩
theorem lw_pre_spec {args : Array Value} {s : State} (h : (Jvm.Cond.and given_1 narrow_1).before args s = true) (hr : rest_1_c.before args s = true) : ∃ (b : Addr) (xs : List Int32), lw_P b xs args s := by
  have hs := flat_of_before _ h
  have hq := flat_of_before _ hr
  have hc : (Cond.count 1).before args s = true := hs _ (by decide +kernel)
  have harr : (Cond.arrayOf (.arg 0) .int).before args s = true := hs _ (by decide +kernel)
  have hle : (Cond.le (.length (.arg 0)) (.int 6)).before args s = true := hs _ (by decide +kernel)
  have hlen : (Cond.isInt (.length (.arg 0))).before args s = true := hq _ (by decide +kernel)
  have hall : (Cond.all (.arg 0) (.isInt (.elem (.arg 0) (.index 0)))).before args s = true := hq _ (by decide +kernel)
  obtain ⟨b, xs, hb, hx⟩ := State.ints_of_pre rfl harr hlen hall
  have hsm : xs.length < 2 ^ 31 := hx.choose_spec.2.2.2
  have hev : (Term.length (.arg 0)).eval args s none [] s = some (.int xs.length.toInt32) := hx.length_eval hb
  have hv := Cond.le_ints hev (show (Term.int 6).eval args s none [] s = some (.int 6) from rfl)
  have hd : xs.length.toInt32 ≤ 6 := by
    simpa [Cond.before, Cond.holds, hv] using hle
  have hN : xs.length ≤ 6 := (Int32.ofNat_le_ofNat hsm (by decide)).mp (show Int32.ofNat xs.length ≤ Int32.ofNat 6 from hd)
  exact ⟨b, xs, Cond.one_arg hc (show args[0]? = some (.ref b) from hb), hx, hN, h⟩
theorem lw_comes (l : Launch) (hflags : l.flags = flags0) : Comes l x (Jvm.Cond.code x code maxLocals ret :: tables_1) room_1 (fun tb e args s => Calls_1 tb e args s ∧ rest_1 tb e args s ∧ Pre_1 tb e args s)
    (fun _ _ args s o t => lw_Q args s o t) := by
  intro p e ha hc hk s m args below hf hfit hheap happ hpre
  obtain ⟨b, xs, hP⟩ := lw_pre_spec hpre.2.2 hpre.2.1
  obtain ⟨k, o, h1, h2, h3, hQ⟩ := lw_walk l hflags b xs p e ha hc hk s m args below hf ((Spec.applies_iff_loose hf).mp happ).1 hP trivial
  exact ⟨k, o, h1, h2, h3, hQ⟩
theorem lw_frame {s t : State} {o : Outcome} {args : Array Value} (h : Framed s o t [] 600000 7302250) :
    Framed s o t (fieldLocs frame_1_writes args s ++ arrayLocs frame_1_arrays args s ++ staticLocs frame_1_statics s) 600000 7302250 := h
theorem lw_limb (L : Cond) (hL : ∀ (args : Array Value) (s t : State), L.after args s (.returned (some (.int 1))) t = true) :
    ArmFor flags0 classFile x code maxLocals ret World_1 tables_1 room_1 Calls_1 rest_1 Pre_1
      (fun tb e a s o t => postC L tb e a s o t ∧ Framed s o t (fieldLocs frame_1_writes a s ++ arrayLocs frame_1_arrays a s ++ staticLocs frame_1_statics s) 600000 7302250) := by
  intro l hflags _ _ p e ha hc hk s m args below hf hfit hheap happ hpre
  obtain ⟨k, o, h1, h2, h3, rfl, hF⟩ := lw_comes l hflags p e ha hc hk s m args below hf hfit hheap happ hpre
  exact ⟨k, _, h1, h2, h3, hL args s _, lw_frame hF⟩
theorem i_vc : Claimed_1_1 ∧ Claimed_1_2 := ⟨lw_limb limb_1_1 (fun args s t => by simp [limb_1_1, Cond.after, Cond.holds, Cond.value]), lw_limb limb_1_2 (fun args s t => Cond.after_iff.mpr (by
  first | (rw [show limb_1_2 = Cond.eq .result (.int 1) from rfl, Cond.eq_ints (x := 1) (y := 1) rfl rfl]; simp; done) | (simp [limb_1_2, Cond.value, Term.eval]; done)))⟩
