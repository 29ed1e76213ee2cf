/-! ===== the rows of code, checked byte by byte (written by wip/p1/gen6.py) ===== -/
theorem u1_at {code : ByteArray} {p : Nat} {b : UInt8} (h : code[p]? = some b) : (Jvm.ClassFile.Reader.u1 : Jvm.ClassFile.Decoder Nat) code p = .ok (b.toNat, p + 1) := by
  have h1 : p < code.size := by
    rcases Nat.lt_or_ge p code.size with h2 | h2
    · exact h2
    · rw [getElem?_neg code p (by omega)] at h
      cases h
  have h2 : code[p] = b := by
    rw [getElem?_pos code p h1] at h
    exact Option.some.inj h
  show (if h : p < code.size then (do set (p + 1); pure code[p].toNat : Jvm.ClassFile.Decoder Nat) else throw (Jvm.ClassFile.HasTruncated.truncated p)) code p = _
  rw [dif_pos h1, h2]
  rfl
theorem rb_ok {α β : Type} {r : Jvm.ClassFile.Decoder α} {F : α → Jvm.ClassFile.Decoder β} {code : ByteArray} {p q : Nat} {v : α} (h : r code p = .ok (v, q)) : (r >>= F) code p = F v code q := by
  show Except.bind (r code p) _ = _
  rw [h]
  rfl
theorem rm_ok {α β : Type} {r : Jvm.ClassFile.Decoder α} {f : α → β} {code : ByteArray} {p q : Nat} {v : α} (h : r code p = .ok (v, q)) : (f <$> r) code p = .ok (f v, q) := by
  show Except.bind (r code p) _ = _
  rw [h]
  rfl
theorem u2_at {code : ByteArray} {p : Nat} {a b : UInt8} (ha : code[p]? = some a) (hb : code[p + 1]? = some b) : (Jvm.ClassFile.Reader.u2 : Jvm.ClassFile.Decoder Nat) code p = .ok (a.toNat * 256 + b.toNat, p + 1 + 1) := by
  unfold Jvm.ClassFile.Reader.u2
  rw [rb_ok (u1_at ha), rb_ok (u1_at hb)]
  rfl
theorem s1_at {code : ByteArray} {p : Nat} {a : UInt8} (ha : code[p]? = some a) : (Jvm.ClassFile.Reader.s1 : Jvm.ClassFile.Decoder Int) code p = .ok (Jvm.ClassFile.Reader.signed 8 a.toNat, p + 1) := by
  unfold Jvm.ClassFile.Reader.s1
  exact rm_ok (u1_at ha)
theorem s2_at {code : ByteArray} {p : Nat} {a b : UInt8} (ha : code[p]? = some a) (hb : code[p + 1]? = some b) : (Jvm.ClassFile.Reader.s2 : Jvm.ClassFile.Decoder Int) code p = .ok (Jvm.ClassFile.Reader.signed 16 (a.toNat * 256 + b.toNat), p + 1 + 1) := by
  unfold Jvm.ClassFile.Reader.s2
  exact rm_ok (u2_at ha hb)
theorem dec_of {code : ByteArray} {p q : Nat} {i : Instr} (h : Jvm.ClassFile.Decoder.instr p code p = .ok (i, q)) : decode code p = .ok (i, q - p) := by
  show Except.bind (Jvm.ClassFile.Decoder.instr p code p) _ = _
  rw [h]
  rfl
set_option maxRecDepth 100000 in
theorem fo_aaload {code : ByteArray} {p : Nat} {b : UInt8} (h : code[p]? = some b) (hb : b.toNat = 50) : decode code p = .ok (.aaload, 1) := by
  have h9 : Jvm.ClassFile.Decoder.instr p code p = .ok (.aaload, p + 1) := by
    unfold Jvm.ClassFile.Decoder.instr
    rw [rb_ok (u1_at h), hb]
    rfl
  rw [dec_of h9, show p + 1 - p = 1 by omega]
set_option maxRecDepth 100000 in
theorem fo_aastore {code : ByteArray} {p : Nat} {b : UInt8} (h : code[p]? = some b) (hb : b.toNat = 83) : decode code p = .ok (.aastore, 1) := by
  have h9 : Jvm.ClassFile.Decoder.instr p code p = .ok (.aastore, p + 1) := by
    unfold Jvm.ClassFile.Decoder.instr
    rw [rb_ok (u1_at h), hb]
    rfl
  rw [dec_of h9, show p + 1 - p = 1 by omega]
set_option maxRecDepth 100000 in
theorem fo_iaload {code : ByteArray} {p : Nat} {b : UInt8} (h : code[p]? = some b) (hb : b.toNat = 46) : decode code p = .ok (.iaload, 1) := by
  have h9 : Jvm.ClassFile.Decoder.instr p code p = .ok (.iaload, p + 1) := by
    unfold Jvm.ClassFile.Decoder.instr
    rw [rb_ok (u1_at h), hb]
    rfl
  rw [dec_of h9, show p + 1 - p = 1 by omega]
set_option maxRecDepth 100000 in
theorem fo_iastore {code : ByteArray} {p : Nat} {b : UInt8} (h : code[p]? = some b) (hb : b.toNat = 79) : decode code p = .ok (.iastore, 1) := by
  have h9 : Jvm.ClassFile.Decoder.instr p code p = .ok (.iastore, p + 1) := by
    unfold Jvm.ClassFile.Decoder.instr
    rw [rb_ok (u1_at h), hb]
    rfl
  rw [dec_of h9, show p + 1 - p = 1 by omega]
set_option maxRecDepth 100000 in
theorem fo_baload {code : ByteArray} {p : Nat} {b : UInt8} (h : code[p]? = some b) (hb : b.toNat = 51) : decode code p = .ok (.baload, 1) := by
  have h9 : Jvm.ClassFile.Decoder.instr p code p = .ok (.baload, p + 1) := by
    unfold Jvm.ClassFile.Decoder.instr
    rw [rb_ok (u1_at h), hb]
    rfl
  rw [dec_of h9, show p + 1 - p = 1 by omega]
set_option maxRecDepth 100000 in
theorem fo_bastore {code : ByteArray} {p : Nat} {b : UInt8} (h : code[p]? = some b) (hb : b.toNat = 84) : decode code p = .ok (.bastore, 1) := by
  have h9 : Jvm.ClassFile.Decoder.instr p code p = .ok (.bastore, p + 1) := by
    unfold Jvm.ClassFile.Decoder.instr
    rw [rb_ok (u1_at h), hb]
    rfl
  rw [dec_of h9, show p + 1 - p = 1 by omega]
set_option maxRecDepth 100000 in
theorem fo_iadd {code : ByteArray} {p : Nat} {b : UInt8} (h : code[p]? = some b) (hb : b.toNat = 96) : decode code p = .ok (.iadd, 1) := by
  have h9 : Jvm.ClassFile.Decoder.instr p code p = .ok (.iadd, p + 1) := by
    unfold Jvm.ClassFile.Decoder.instr
    rw [rb_ok (u1_at h), hb]
    rfl
  rw [dec_of h9, show p + 1 - p = 1 by omega]
set_option maxRecDepth 100000 in
theorem fo_isub {code : ByteArray} {p : Nat} {b : UInt8} (h : code[p]? = some b) (hb : b.toNat = 100) : decode code p = .ok (.isub, 1) := by
  have h9 : Jvm.ClassFile.Decoder.instr p code p = .ok (.isub, p + 1) := by
    unfold Jvm.ClassFile.Decoder.instr
    rw [rb_ok (u1_at h), hb]
    rfl
  rw [dec_of h9, show p + 1 - p = 1 by omega]
set_option maxRecDepth 100000 in
theorem fo_imul {code : ByteArray} {p : Nat} {b : UInt8} (h : code[p]? = some b) (hb : b.toNat = 104) : decode code p = .ok (.imul, 1) := by
  have h9 : Jvm.ClassFile.Decoder.instr p code p = .ok (.imul, p + 1) := by
    unfold Jvm.ClassFile.Decoder.instr
    rw [rb_ok (u1_at h), hb]
    rfl
  rw [dec_of h9, show p + 1 - p = 1 by omega]
set_option maxRecDepth 100000 in
theorem fo_idiv {code : ByteArray} {p : Nat} {b : UInt8} (h : code[p]? = some b) (hb : b.toNat = 108) : decode code p = .ok (.idiv, 1) := by
  have h9 : Jvm.ClassFile.Decoder.instr p code p = .ok (.idiv, p + 1) := by
    unfold Jvm.ClassFile.Decoder.instr
    rw [rb_ok (u1_at h), hb]
    rfl
  rw [dec_of h9, show p + 1 - p = 1 by omega]
set_option maxRecDepth 100000 in
theorem fo_irem {code : ByteArray} {p : Nat} {b : UInt8} (h : code[p]? = some b) (hb : b.toNat = 112) : decode code p = .ok (.irem, 1) := by
  have h9 : Jvm.ClassFile.Decoder.instr p code p = .ok (.irem, p + 1) := by
    unfold Jvm.ClassFile.Decoder.instr
    rw [rb_ok (u1_at h), hb]
    rfl
  rw [dec_of h9, show p + 1 - p = 1 by omega]
set_option maxRecDepth 100000 in
theorem fo_ineg {code : ByteArray} {p : Nat} {b : UInt8} (h : code[p]? = some b) (hb : b.toNat = 116) : decode code p = .ok (.ineg, 1) := by
  have h9 : Jvm.ClassFile.Decoder.instr p code p = .ok (.ineg, p + 1) := by
    unfold Jvm.ClassFile.Decoder.instr
    rw [rb_ok (u1_at h), hb]
    rfl
  rw [dec_of h9, show p + 1 - p = 1 by omega]
set_option maxRecDepth 100000 in
theorem fo_ishl {code : ByteArray} {p : Nat} {b : UInt8} (h : code[p]? = some b) (hb : b.toNat = 120) : decode code p = .ok (.ishl, 1) := by
  have h9 : Jvm.ClassFile.Decoder.instr p code p = .ok (.ishl, p + 1) := by
    unfold Jvm.ClassFile.Decoder.instr
    rw [rb_ok (u1_at h), hb]
    rfl
  rw [dec_of h9, show p + 1 - p = 1 by omega]
set_option maxRecDepth 100000 in
theorem fo_ishr {code : ByteArray} {p : Nat} {b : UInt8} (h : code[p]? = some b) (hb : b.toNat = 122) : decode code p = .ok (.ishr, 1) := by
  have h9 : Jvm.ClassFile.Decoder.instr p code p = .ok (.ishr, p + 1) := by
    unfold Jvm.ClassFile.Decoder.instr
    rw [rb_ok (u1_at h), hb]
    rfl
  rw [dec_of h9, show p + 1 - p = 1 by omega]
set_option maxRecDepth 100000 in
theorem fo_iand {code : ByteArray} {p : Nat} {b : UInt8} (h : code[p]? = some b) (hb : b.toNat = 126) : decode code p = .ok (.iand, 1) := by
  have h9 : Jvm.ClassFile.Decoder.instr p code p = .ok (.iand, p + 1) := by
    unfold Jvm.ClassFile.Decoder.instr
    rw [rb_ok (u1_at h), hb]
    rfl
  rw [dec_of h9, show p + 1 - p = 1 by omega]
set_option maxRecDepth 100000 in
theorem fo_ior {code : ByteArray} {p : Nat} {b : UInt8} (h : code[p]? = some b) (hb : b.toNat = 128) : decode code p = .ok (.ior, 1) := by
  have h9 : Jvm.ClassFile.Decoder.instr p code p = .ok (.ior, p + 1) := by
    unfold Jvm.ClassFile.Decoder.instr
    rw [rb_ok (u1_at h), hb]
    rfl
  rw [dec_of h9, show p + 1 - p = 1 by omega]
set_option maxRecDepth 100000 in
theorem fo_dup {code : ByteArray} {p : Nat} {b : UInt8} (h : code[p]? = some b) (hb : b.toNat = 89) : decode code p = .ok (.dup, 1) := by
  have h9 : Jvm.ClassFile.Decoder.instr p code p = .ok (.dup, p + 1) := by
    unfold Jvm.ClassFile.Decoder.instr
    rw [rb_ok (u1_at h), hb]
    rfl
  rw [dec_of h9, show p + 1 - p = 1 by omega]
set_option maxRecDepth 100000 in
theorem fo_dup2 {code : ByteArray} {p : Nat} {b : UInt8} (h : code[p]? = some b) (hb : b.toNat = 92) : decode code p = .ok (.dup2, 1) := by
  have h9 : Jvm.ClassFile.Decoder.instr p code p = .ok (.dup2, p + 1) := by
    unfold Jvm.ClassFile.Decoder.instr
    rw [rb_ok (u1_at h), hb]
    rfl
  rw [dec_of h9, show p + 1 - p = 1 by omega]
set_option maxRecDepth 100000 in
theorem fo_pop {code : ByteArray} {p : Nat} {b : UInt8} (h : code[p]? = some b) (hb : b.toNat = 87) : decode code p = .ok (.pop, 1) := by
  have h9 : Jvm.ClassFile.Decoder.instr p code p = .ok (.pop, p + 1) := by
    unfold Jvm.ClassFile.Decoder.instr
    rw [rb_ok (u1_at h), hb]
    rfl
  rw [dec_of h9, show p + 1 - p = 1 by omega]
set_option maxRecDepth 100000 in
theorem fo_arraylength {code : ByteArray} {p : Nat} {b : UInt8} (h : code[p]? = some b) (hb : b.toNat = 190) : decode code p = .ok (.arraylength, 1) := by
  have h9 : Jvm.ClassFile.Decoder.instr p code p = .ok (.arraylength, p + 1) := by
    unfold Jvm.ClassFile.Decoder.instr
    rw [rb_ok (u1_at h), hb]
    rfl
  rw [dec_of h9, show p + 1 - p = 1 by omega]
set_option maxRecDepth 100000 in
theorem fo_ireturn {code : ByteArray} {p : Nat} {b : UInt8} (h : code[p]? = some b) (hb : b.toNat = 172) : decode code p = .ok (.ireturn, 1) := by
  have h9 : Jvm.ClassFile.Decoder.instr p code p = .ok (.ireturn, p + 1) := by
    unfold Jvm.ClassFile.Decoder.instr
    rw [rb_ok (u1_at h), hb]
    rfl
  rw [dec_of h9, show p + 1 - p = 1 by omega]
set_option maxRecDepth 100000 in
theorem fo_areturn {code : ByteArray} {p : Nat} {b : UInt8} (h : code[p]? = some b) (hb : b.toNat = 176) : decode code p = .ok (.areturn, 1) := by
  have h9 : Jvm.ClassFile.Decoder.instr p code p = .ok (.areturn, p + 1) := by
    unfold Jvm.ClassFile.Decoder.instr
    rw [rb_ok (u1_at h), hb]
    rfl
  rw [dec_of h9, show p + 1 - p = 1 by omega]
set_option maxRecDepth 100000 in
theorem fo_return_ {code : ByteArray} {p : Nat} {b : UInt8} (h : code[p]? = some b) (hb : b.toNat = 177) : decode code p = .ok (.return_, 1) := by
  have h9 : Jvm.ClassFile.Decoder.instr p code p = .ok (.return_, p + 1) := by
    unfold Jvm.ClassFile.Decoder.instr
    rw [rb_ok (u1_at h), hb]
    rfl
  rw [dec_of h9, show p + 1 - p = 1 by omega]
set_option maxRecDepth 100000 in
theorem fo_iconst_m1 {code : ByteArray} {p : Nat} {b : UInt8} (h : code[p]? = some b) (hb : b.toNat = 2) : decode code p = .ok (.iconst (-1), 1) := by
  have h9 : Jvm.ClassFile.Decoder.instr p code p = .ok (.iconst (-1), p + 1) := by
    unfold Jvm.ClassFile.Decoder.instr
    rw [rb_ok (u1_at h), hb]
    rfl
  rw [dec_of h9, show p + 1 - p = 1 by omega]
set_option maxRecDepth 100000 in
theorem fo_iconst_0 {code : ByteArray} {p : Nat} {b : UInt8} (h : code[p]? = some b) (hb : b.toNat = 3) : decode code p = .ok (.iconst (0), 1) := by
  have h9 : Jvm.ClassFile.Decoder.instr p code p = .ok (.iconst (0), p + 1) := by
    unfold Jvm.ClassFile.Decoder.instr
    rw [rb_ok (u1_at h), hb]
    rfl
  rw [dec_of h9, show p + 1 - p = 1 by omega]
set_option maxRecDepth 100000 in
theorem fo_iconst_1 {code : ByteArray} {p : Nat} {b : UInt8} (h : code[p]? = some b) (hb : b.toNat = 4) : decode code p = .ok (.iconst (1), 1) := by
  have h9 : Jvm.ClassFile.Decoder.instr p code p = .ok (.iconst (1), p + 1) := by
    unfold Jvm.ClassFile.Decoder.instr
    rw [rb_ok (u1_at h), hb]
    rfl
  rw [dec_of h9, show p + 1 - p = 1 by omega]
set_option maxRecDepth 100000 in
theorem fo_iconst_2 {code : ByteArray} {p : Nat} {b : UInt8} (h : code[p]? = some b) (hb : b.toNat = 5) : decode code p = .ok (.iconst (2), 1) := by
  have h9 : Jvm.ClassFile.Decoder.instr p code p = .ok (.iconst (2), p + 1) := by
    unfold Jvm.ClassFile.Decoder.instr
    rw [rb_ok (u1_at h), hb]
    rfl
  rw [dec_of h9, show p + 1 - p = 1 by omega]
set_option maxRecDepth 100000 in
theorem fo_iconst_3 {code : ByteArray} {p : Nat} {b : UInt8} (h : code[p]? = some b) (hb : b.toNat = 6) : decode code p = .ok (.iconst (3), 1) := by
  have h9 : Jvm.ClassFile.Decoder.instr p code p = .ok (.iconst (3), p + 1) := by
    unfold Jvm.ClassFile.Decoder.instr
    rw [rb_ok (u1_at h), hb]
    rfl
  rw [dec_of h9, show p + 1 - p = 1 by omega]
set_option maxRecDepth 100000 in
theorem fo_iconst_4 {code : ByteArray} {p : Nat} {b : UInt8} (h : code[p]? = some b) (hb : b.toNat = 7) : decode code p = .ok (.iconst (4), 1) := by
  have h9 : Jvm.ClassFile.Decoder.instr p code p = .ok (.iconst (4), p + 1) := by
    unfold Jvm.ClassFile.Decoder.instr
    rw [rb_ok (u1_at h), hb]
    rfl
  rw [dec_of h9, show p + 1 - p = 1 by omega]
set_option maxRecDepth 100000 in
theorem fo_iconst_5 {code : ByteArray} {p : Nat} {b : UInt8} (h : code[p]? = some b) (hb : b.toNat = 8) : decode code p = .ok (.iconst (5), 1) := by
  have h9 : Jvm.ClassFile.Decoder.instr p code p = .ok (.iconst (5), p + 1) := by
    unfold Jvm.ClassFile.Decoder.instr
    rw [rb_ok (u1_at h), hb]
    rfl
  rw [dec_of h9, show p + 1 - p = 1 by omega]
set_option maxRecDepth 100000 in
theorem fo_iload_n0 {code : ByteArray} {p : Nat} {b : UInt8} (h : code[p]? = some b) (hb : b.toNat = 26) : decode code p = .ok (.iload_n 0, 1) := by
  have h9 : Jvm.ClassFile.Decoder.instr p code p = .ok (.iload_n 0, p + 1) := by
    unfold Jvm.ClassFile.Decoder.instr
    rw [rb_ok (u1_at h), hb]
    rfl
  rw [dec_of h9, show p + 1 - p = 1 by omega]
set_option maxRecDepth 100000 in
theorem fo_iload_n1 {code : ByteArray} {p : Nat} {b : UInt8} (h : code[p]? = some b) (hb : b.toNat = 27) : decode code p = .ok (.iload_n 1, 1) := by
  have h9 : Jvm.ClassFile.Decoder.instr p code p = .ok (.iload_n 1, p + 1) := by
    unfold Jvm.ClassFile.Decoder.instr
    rw [rb_ok (u1_at h), hb]
    rfl
  rw [dec_of h9, show p + 1 - p = 1 by omega]
set_option maxRecDepth 100000 in
theorem fo_iload_n2 {code : ByteArray} {p : Nat} {b : UInt8} (h : code[p]? = some b) (hb : b.toNat = 28) : decode code p = .ok (.iload_n 2, 1) := by
  have h9 : Jvm.ClassFile.Decoder.instr p code p = .ok (.iload_n 2, p + 1) := by
    unfold Jvm.ClassFile.Decoder.instr
    rw [rb_ok (u1_at h), hb]
    rfl
  rw [dec_of h9, show p + 1 - p = 1 by omega]
set_option maxRecDepth 100000 in
theorem fo_iload_n3 {code : ByteArray} {p : Nat} {b : UInt8} (h : code[p]? = some b) (hb : b.toNat = 29) : decode code p = .ok (.iload_n 3, 1) := by
  have h9 : Jvm.ClassFile.Decoder.instr p code p = .ok (.iload_n 3, p + 1) := by
    unfold Jvm.ClassFile.Decoder.instr
    rw [rb_ok (u1_at h), hb]
    rfl
  rw [dec_of h9, show p + 1 - p = 1 by omega]
set_option maxRecDepth 100000 in
theorem fo_aload_n0 {code : ByteArray} {p : Nat} {b : UInt8} (h : code[p]? = some b) (hb : b.toNat = 42) : decode code p = .ok (.aload_n 0, 1) := by
  have h9 : Jvm.ClassFile.Decoder.instr p code p = .ok (.aload_n 0, p + 1) := by
    unfold Jvm.ClassFile.Decoder.instr
    rw [rb_ok (u1_at h), hb]
    rfl
  rw [dec_of h9, show p + 1 - p = 1 by omega]
set_option maxRecDepth 100000 in
theorem fo_aload_n1 {code : ByteArray} {p : Nat} {b : UInt8} (h : code[p]? = some b) (hb : b.toNat = 43) : decode code p = .ok (.aload_n 1, 1) := by
  have h9 : Jvm.ClassFile.Decoder.instr p code p = .ok (.aload_n 1, p + 1) := by
    unfold Jvm.ClassFile.Decoder.instr
    rw [rb_ok (u1_at h), hb]
    rfl
  rw [dec_of h9, show p + 1 - p = 1 by omega]
set_option maxRecDepth 100000 in
theorem fo_aload_n2 {code : ByteArray} {p : Nat} {b : UInt8} (h : code[p]? = some b) (hb : b.toNat = 44) : decode code p = .ok (.aload_n 2, 1) := by
  have h9 : Jvm.ClassFile.Decoder.instr p code p = .ok (.aload_n 2, p + 1) := by
    unfold Jvm.ClassFile.Decoder.instr
    rw [rb_ok (u1_at h), hb]
    rfl
  rw [dec_of h9, show p + 1 - p = 1 by omega]
set_option maxRecDepth 100000 in
theorem fo_aload_n3 {code : ByteArray} {p : Nat} {b : UInt8} (h : code[p]? = some b) (hb : b.toNat = 45) : decode code p = .ok (.aload_n 3, 1) := by
  have h9 : Jvm.ClassFile.Decoder.instr p code p = .ok (.aload_n 3, p + 1) := by
    unfold Jvm.ClassFile.Decoder.instr
    rw [rb_ok (u1_at h), hb]
    rfl
  rw [dec_of h9, show p + 1 - p = 1 by omega]
set_option maxRecDepth 100000 in
theorem fo_istore_n0 {code : ByteArray} {p : Nat} {b : UInt8} (h : code[p]? = some b) (hb : b.toNat = 59) : decode code p = .ok (.istore_n 0, 1) := by
  have h9 : Jvm.ClassFile.Decoder.instr p code p = .ok (.istore_n 0, p + 1) := by
    unfold Jvm.ClassFile.Decoder.instr
    rw [rb_ok (u1_at h), hb]
    rfl
  rw [dec_of h9, show p + 1 - p = 1 by omega]
set_option maxRecDepth 100000 in
theorem fo_istore_n1 {code : ByteArray} {p : Nat} {b : UInt8} (h : code[p]? = some b) (hb : b.toNat = 60) : decode code p = .ok (.istore_n 1, 1) := by
  have h9 : Jvm.ClassFile.Decoder.instr p code p = .ok (.istore_n 1, p + 1) := by
    unfold Jvm.ClassFile.Decoder.instr
    rw [rb_ok (u1_at h), hb]
    rfl
  rw [dec_of h9, show p + 1 - p = 1 by omega]
set_option maxRecDepth 100000 in
theorem fo_istore_n2 {code : ByteArray} {p : Nat} {b : UInt8} (h : code[p]? = some b) (hb : b.toNat = 61) : decode code p = .ok (.istore_n 2, 1) := by
  have h9 : Jvm.ClassFile.Decoder.instr p code p = .ok (.istore_n 2, p + 1) := by
    unfold Jvm.ClassFile.Decoder.instr
    rw [rb_ok (u1_at h), hb]
    rfl
  rw [dec_of h9, show p + 1 - p = 1 by omega]
set_option maxRecDepth 100000 in
theorem fo_istore_n3 {code : ByteArray} {p : Nat} {b : UInt8} (h : code[p]? = some b) (hb : b.toNat = 62) : decode code p = .ok (.istore_n 3, 1) := by
  have h9 : Jvm.ClassFile.Decoder.instr p code p = .ok (.istore_n 3, p + 1) := by
    unfold Jvm.ClassFile.Decoder.instr
    rw [rb_ok (u1_at h), hb]
    rfl
  rw [dec_of h9, show p + 1 - p = 1 by omega]
set_option maxRecDepth 100000 in
theorem fo_astore_n0 {code : ByteArray} {p : Nat} {b : UInt8} (h : code[p]? = some b) (hb : b.toNat = 75) : decode code p = .ok (.astore_n 0, 1) := by
  have h9 : Jvm.ClassFile.Decoder.instr p code p = .ok (.astore_n 0, p + 1) := by
    unfold Jvm.ClassFile.Decoder.instr
    rw [rb_ok (u1_at h), hb]
    rfl
  rw [dec_of h9, show p + 1 - p = 1 by omega]
set_option maxRecDepth 100000 in
theorem fo_astore_n1 {code : ByteArray} {p : Nat} {b : UInt8} (h : code[p]? = some b) (hb : b.toNat = 76) : decode code p = .ok (.astore_n 1, 1) := by
  have h9 : Jvm.ClassFile.Decoder.instr p code p = .ok (.astore_n 1, p + 1) := by
    unfold Jvm.ClassFile.Decoder.instr
    rw [rb_ok (u1_at h), hb]
    rfl
  rw [dec_of h9, show p + 1 - p = 1 by omega]
set_option maxRecDepth 100000 in
theorem fo_astore_n2 {code : ByteArray} {p : Nat} {b : UInt8} (h : code[p]? = some b) (hb : b.toNat = 77) : decode code p = .ok (.astore_n 2, 1) := by
  have h9 : Jvm.ClassFile.Decoder.instr p code p = .ok (.astore_n 2, p + 1) := by
    unfold Jvm.ClassFile.Decoder.instr
    rw [rb_ok (u1_at h), hb]
    rfl
  rw [dec_of h9, show p + 1 - p = 1 by omega]
set_option maxRecDepth 100000 in
theorem fo_astore_n3 {code : ByteArray} {p : Nat} {b : UInt8} (h : code[p]? = some b) (hb : b.toNat = 78) : decode code p = .ok (.astore_n 3, 1) := by
  have h9 : Jvm.ClassFile.Decoder.instr p code p = .ok (.astore_n 3, p + 1) := by
    unfold Jvm.ClassFile.Decoder.instr
    rw [rb_ok (u1_at h), hb]
    rfl
  rw [dec_of h9, show p + 1 - p = 1 by omega]
set_option maxRecDepth 100000 in
theorem fo_iload {code : ByteArray} {p : Nat} {b : UInt8} (h : code[p]? = some b) (hb : b.toNat = 21) {a1 : UInt8} (h1 : code[p + 1]? = some a1) : decode code p = .ok (.iload a1.toNat, 2) := by
  have h9 : Jvm.ClassFile.Decoder.instr p code p = .ok (.iload a1.toNat, p + 1 + 1) := by
    unfold Jvm.ClassFile.Decoder.instr
    rw [rb_ok (u1_at h), hb]
    show (Jvm.ClassFile.Reader.u1 >>= fun i => pure (Instr.iload i) : Jvm.ClassFile.Decoder Instr) code (p + 1) = _
    rw [rb_ok (u1_at h1)]
    rfl
  rw [dec_of h9, show p + 1 + 1 - p = 2 by omega]
set_option maxRecDepth 100000 in
theorem fo_aload {code : ByteArray} {p : Nat} {b : UInt8} (h : code[p]? = some b) (hb : b.toNat = 25) {a1 : UInt8} (h1 : code[p + 1]? = some a1) : decode code p = .ok (.aload a1.toNat, 2) := by
  have h9 : Jvm.ClassFile.Decoder.instr p code p = .ok (.aload a1.toNat, p + 1 + 1) := by
    unfold Jvm.ClassFile.Decoder.instr
    rw [rb_ok (u1_at h), hb]
    show (Jvm.ClassFile.Reader.u1 >>= fun i => pure (Instr.aload i) : Jvm.ClassFile.Decoder Instr) code (p + 1) = _
    rw [rb_ok (u1_at h1)]
    rfl
  rw [dec_of h9, show p + 1 + 1 - p = 2 by omega]
set_option maxRecDepth 100000 in
theorem fo_istore {code : ByteArray} {p : Nat} {b : UInt8} (h : code[p]? = some b) (hb : b.toNat = 54) {a1 : UInt8} (h1 : code[p + 1]? = some a1) : decode code p = .ok (.istore a1.toNat, 2) := by
  have h9 : Jvm.ClassFile.Decoder.instr p code p = .ok (.istore a1.toNat, p + 1 + 1) := by
    unfold Jvm.ClassFile.Decoder.instr
    rw [rb_ok (u1_at h), hb]
    show (Jvm.ClassFile.Reader.u1 >>= fun i => pure (Instr.istore i) : Jvm.ClassFile.Decoder Instr) code (p + 1) = _
    rw [rb_ok (u1_at h1)]
    rfl
  rw [dec_of h9, show p + 1 + 1 - p = 2 by omega]
set_option maxRecDepth 100000 in
theorem fo_astore {code : ByteArray} {p : Nat} {b : UInt8} (h : code[p]? = some b) (hb : b.toNat = 58) {a1 : UInt8} (h1 : code[p + 1]? = some a1) : decode code p = .ok (.astore a1.toNat, 2) := by
  have h9 : Jvm.ClassFile.Decoder.instr p code p = .ok (.astore a1.toNat, p + 1 + 1) := by
    unfold Jvm.ClassFile.Decoder.instr
    rw [rb_ok (u1_at h), hb]
    show (Jvm.ClassFile.Reader.u1 >>= fun i => pure (Instr.astore i) : Jvm.ClassFile.Decoder Instr) code (p + 1) = _
    rw [rb_ok (u1_at h1)]
    rfl
  rw [dec_of h9, show p + 1 + 1 - p = 2 by omega]
set_option maxRecDepth 100000 in
theorem fo_ldc {code : ByteArray} {p : Nat} {b : UInt8} (h : code[p]? = some b) (hb : b.toNat = 18) {a1 : UInt8} (h1 : code[p + 1]? = some a1) : decode code p = .ok (.ldc a1.toNat, 2) := by
  have h9 : Jvm.ClassFile.Decoder.instr p code p = .ok (.ldc a1.toNat, p + 1 + 1) := by
    unfold Jvm.ClassFile.Decoder.instr
    rw [rb_ok (u1_at h), hb]
    show (Jvm.ClassFile.Reader.u1 >>= fun i => pure (Instr.ldc i) : Jvm.ClassFile.Decoder Instr) code (p + 1) = _
    rw [rb_ok (u1_at h1)]
    rfl
  rw [dec_of h9, show p + 1 + 1 - p = 2 by omega]
set_option maxRecDepth 100000 in
theorem fo_bipush {code : ByteArray} {p : Nat} {b : UInt8} (h : code[p]? = some b) (hb : b.toNat = 16) {a1 : UInt8} (h1 : code[p + 1]? = some a1) : decode code p = .ok (.bipush (Jvm.ClassFile.Reader.signed 8 a1.toNat), 2) := by
  have h9 : Jvm.ClassFile.Decoder.instr p code p = .ok (.bipush (Jvm.ClassFile.Reader.signed 8 a1.toNat), p + 1 + 1) := by
    unfold Jvm.ClassFile.Decoder.instr
    rw [rb_ok (u1_at h), hb]
    show (Jvm.ClassFile.Reader.s1 >>= fun i => pure (Instr.bipush i) : Jvm.ClassFile.Decoder Instr) code (p + 1) = _
    rw [rb_ok (s1_at h1)]
    rfl
  rw [dec_of h9, show p + 1 + 1 - p = 2 by omega]
set_option maxRecDepth 100000 in
theorem fo_sipush {code : ByteArray} {p : Nat} {b : UInt8} (h : code[p]? = some b) (hb : b.toNat = 17) {a1 : UInt8} (h1 : code[p + 1]? = some a1) {a2 : UInt8} (h2 : code[p + 1 + 1]? = some a2) : decode code p = .ok (.sipush (Jvm.ClassFile.Reader.signed 16 (a1.toNat * 256 + a2.toNat)), 3) := by
  have h9 : Jvm.ClassFile.Decoder.instr p code p = .ok (.sipush (Jvm.ClassFile.Reader.signed 16 (a1.toNat * 256 + a2.toNat)), p + 1 + 1 + 1) := by
    unfold Jvm.ClassFile.Decoder.instr
    rw [rb_ok (u1_at h), hb]
    show (Jvm.ClassFile.Reader.s2 >>= fun i => pure (Instr.sipush i) : Jvm.ClassFile.Decoder Instr) code (p + 1) = _
    rw [rb_ok (s2_at h1 h2)]
    rfl
  rw [dec_of h9, show p + 1 + 1 + 1 - p = 3 by omega]
set_option maxRecDepth 100000 in
theorem fo_ldc_w {code : ByteArray} {p : Nat} {b : UInt8} (h : code[p]? = some b) (hb : b.toNat = 19) {a1 : UInt8} (h1 : code[p + 1]? = some a1) {a2 : UInt8} (h2 : code[p + 1 + 1]? = some a2) : decode code p = .ok (.ldc_w (a1.toNat * 256 + a2.toNat), 3) := by
  have h9 : Jvm.ClassFile.Decoder.instr p code p = .ok (.ldc_w (a1.toNat * 256 + a2.toNat), p + 1 + 1 + 1) := by
    unfold Jvm.ClassFile.Decoder.instr
    rw [rb_ok (u1_at h), hb]
    show (Jvm.ClassFile.Reader.u2 >>= fun i => pure (Instr.ldc_w i) : Jvm.ClassFile.Decoder Instr) code (p + 1) = _
    rw [rb_ok (u2_at h1 h2)]
    rfl
  rw [dec_of h9, show p + 1 + 1 + 1 - p = 3 by omega]
set_option maxRecDepth 100000 in
theorem fo_getfield {code : ByteArray} {p : Nat} {b : UInt8} (h : code[p]? = some b) (hb : b.toNat = 180) {a1 : UInt8} (h1 : code[p + 1]? = some a1) {a2 : UInt8} (h2 : code[p + 1 + 1]? = some a2) : decode code p = .ok (.getfield (a1.toNat * 256 + a2.toNat), 3) := by
  have h9 : Jvm.ClassFile.Decoder.instr p code p = .ok (.getfield (a1.toNat * 256 + a2.toNat), p + 1 + 1 + 1) := by
    unfold Jvm.ClassFile.Decoder.instr
    rw [rb_ok (u1_at h), hb]
    show (Jvm.ClassFile.Reader.u2 >>= fun i => pure (Instr.getfield i) : Jvm.ClassFile.Decoder Instr) code (p + 1) = _
    rw [rb_ok (u2_at h1 h2)]
    rfl
  rw [dec_of h9, show p + 1 + 1 + 1 - p = 3 by omega]
set_option maxRecDepth 100000 in
theorem fo_putfield {code : ByteArray} {p : Nat} {b : UInt8} (h : code[p]? = some b) (hb : b.toNat = 181) {a1 : UInt8} (h1 : code[p + 1]? = some a1) {a2 : UInt8} (h2 : code[p + 1 + 1]? = some a2) : decode code p = .ok (.putfield (a1.toNat * 256 + a2.toNat), 3) := by
  have h9 : Jvm.ClassFile.Decoder.instr p code p = .ok (.putfield (a1.toNat * 256 + a2.toNat), p + 1 + 1 + 1) := by
    unfold Jvm.ClassFile.Decoder.instr
    rw [rb_ok (u1_at h), hb]
    show (Jvm.ClassFile.Reader.u2 >>= fun i => pure (Instr.putfield i) : Jvm.ClassFile.Decoder Instr) code (p + 1) = _
    rw [rb_ok (u2_at h1 h2)]
    rfl
  rw [dec_of h9, show p + 1 + 1 + 1 - p = 3 by omega]
set_option maxRecDepth 100000 in
theorem fo_getstatic {code : ByteArray} {p : Nat} {b : UInt8} (h : code[p]? = some b) (hb : b.toNat = 178) {a1 : UInt8} (h1 : code[p + 1]? = some a1) {a2 : UInt8} (h2 : code[p + 1 + 1]? = some a2) : decode code p = .ok (.getstatic (a1.toNat * 256 + a2.toNat), 3) := by
  have h9 : Jvm.ClassFile.Decoder.instr p code p = .ok (.getstatic (a1.toNat * 256 + a2.toNat), p + 1 + 1 + 1) := by
    unfold Jvm.ClassFile.Decoder.instr
    rw [rb_ok (u1_at h), hb]
    show (Jvm.ClassFile.Reader.u2 >>= fun i => pure (Instr.getstatic i) : Jvm.ClassFile.Decoder Instr) code (p + 1) = _
    rw [rb_ok (u2_at h1 h2)]
    rfl
  rw [dec_of h9, show p + 1 + 1 + 1 - p = 3 by omega]
set_option maxRecDepth 100000 in
theorem fo_invokevirtual {code : ByteArray} {p : Nat} {b : UInt8} (h : code[p]? = some b) (hb : b.toNat = 182) {a1 : UInt8} (h1 : code[p + 1]? = some a1) {a2 : UInt8} (h2 : code[p + 1 + 1]? = some a2) : decode code p = .ok (.invokevirtual (a1.toNat * 256 + a2.toNat), 3) := by
  have h9 : Jvm.ClassFile.Decoder.instr p code p = .ok (.invokevirtual (a1.toNat * 256 + a2.toNat), p + 1 + 1 + 1) := by
    unfold Jvm.ClassFile.Decoder.instr
    rw [rb_ok (u1_at h), hb]
    show (Jvm.ClassFile.Reader.u2 >>= fun i => pure (Instr.invokevirtual i) : Jvm.ClassFile.Decoder Instr) code (p + 1) = _
    rw [rb_ok (u2_at h1 h2)]
    rfl
  rw [dec_of h9, show p + 1 + 1 + 1 - p = 3 by omega]
set_option maxRecDepth 100000 in
theorem fo_invokespecial {code : ByteArray} {p : Nat} {b : UInt8} (h : code[p]? = some b) (hb : b.toNat = 183) {a1 : UInt8} (h1 : code[p + 1]? = some a1) {a2 : UInt8} (h2 : code[p + 1 + 1]? = some a2) : decode code p = .ok (.invokespecial (a1.toNat * 256 + a2.toNat), 3) := by
  have h9 : Jvm.ClassFile.Decoder.instr p code p = .ok (.invokespecial (a1.toNat * 256 + a2.toNat), p + 1 + 1 + 1) := by
    unfold Jvm.ClassFile.Decoder.instr
    rw [rb_ok (u1_at h), hb]
    show (Jvm.ClassFile.Reader.u2 >>= fun i => pure (Instr.invokespecial i) : Jvm.ClassFile.Decoder Instr) code (p + 1) = _
    rw [rb_ok (u2_at h1 h2)]
    rfl
  rw [dec_of h9, show p + 1 + 1 + 1 - p = 3 by omega]
set_option maxRecDepth 100000 in
theorem fo_invokestatic {code : ByteArray} {p : Nat} {b : UInt8} (h : code[p]? = some b) (hb : b.toNat = 184) {a1 : UInt8} (h1 : code[p + 1]? = some a1) {a2 : UInt8} (h2 : code[p + 1 + 1]? = some a2) : decode code p = .ok (.invokestatic (a1.toNat * 256 + a2.toNat), 3) := by
  have h9 : Jvm.ClassFile.Decoder.instr p code p = .ok (.invokestatic (a1.toNat * 256 + a2.toNat), p + 1 + 1 + 1) := by
    unfold Jvm.ClassFile.Decoder.instr
    rw [rb_ok (u1_at h), hb]
    show (Jvm.ClassFile.Reader.u2 >>= fun i => pure (Instr.invokestatic i) : Jvm.ClassFile.Decoder Instr) code (p + 1) = _
    rw [rb_ok (u2_at h1 h2)]
    rfl
  rw [dec_of h9, show p + 1 + 1 + 1 - p = 3 by omega]
set_option maxRecDepth 100000 in
theorem fo_new {code : ByteArray} {p : Nat} {b : UInt8} (h : code[p]? = some b) (hb : b.toNat = 187) {a1 : UInt8} (h1 : code[p + 1]? = some a1) {a2 : UInt8} (h2 : code[p + 1 + 1]? = some a2) : decode code p = .ok (.new (a1.toNat * 256 + a2.toNat), 3) := by
  have h9 : Jvm.ClassFile.Decoder.instr p code p = .ok (.new (a1.toNat * 256 + a2.toNat), p + 1 + 1 + 1) := by
    unfold Jvm.ClassFile.Decoder.instr
    rw [rb_ok (u1_at h), hb]
    show (Jvm.ClassFile.Reader.u2 >>= fun i => pure (Instr.new i) : Jvm.ClassFile.Decoder Instr) code (p + 1) = _
    rw [rb_ok (u2_at h1 h2)]
    rfl
  rw [dec_of h9, show p + 1 + 1 + 1 - p = 3 by omega]
set_option maxRecDepth 100000 in
theorem fo_anewarray {code : ByteArray} {p : Nat} {b : UInt8} (h : code[p]? = some b) (hb : b.toNat = 189) {a1 : UInt8} (h1 : code[p + 1]? = some a1) {a2 : UInt8} (h2 : code[p + 1 + 1]? = some a2) : decode code p = .ok (.anewarray (a1.toNat * 256 + a2.toNat), 3) := by
  have h9 : Jvm.ClassFile.Decoder.instr p code p = .ok (.anewarray (a1.toNat * 256 + a2.toNat), p + 1 + 1 + 1) := by
    unfold Jvm.ClassFile.Decoder.instr
    rw [rb_ok (u1_at h), hb]
    show (Jvm.ClassFile.Reader.u2 >>= fun i => pure (Instr.anewarray i) : Jvm.ClassFile.Decoder Instr) code (p + 1) = _
    rw [rb_ok (u2_at h1 h2)]
    rfl
  rw [dec_of h9, show p + 1 + 1 + 1 - p = 3 by omega]
set_option maxRecDepth 100000 in
theorem fo_goto {code : ByteArray} {p : Nat} {b : UInt8} (h : code[p]? = some b) (hb : b.toNat = 167) {a1 : UInt8} (h1 : code[p + 1]? = some a1) {a2 : UInt8} (h2 : code[p + 1 + 1]? = some a2) : decode code p = .ok (.goto (Jvm.ClassFile.Reader.signed 16 (a1.toNat * 256 + a2.toNat)), 3) := by
  have h9 : Jvm.ClassFile.Decoder.instr p code p = .ok (.goto (Jvm.ClassFile.Reader.signed 16 (a1.toNat * 256 + a2.toNat)), p + 1 + 1 + 1) := by
    unfold Jvm.ClassFile.Decoder.instr
    rw [rb_ok (u1_at h), hb]
    show (Jvm.ClassFile.Reader.s2 >>= fun i => pure (Instr.goto i) : Jvm.ClassFile.Decoder Instr) code (p + 1) = _
    rw [rb_ok (s2_at h1 h2)]
    rfl
  rw [dec_of h9, show p + 1 + 1 + 1 - p = 3 by omega]
set_option maxRecDepth 100000 in
theorem fo_ifCond_eq {code : ByteArray} {p : Nat} {b : UInt8} (h : code[p]? = some b) (hb : b.toNat = 153) {a1 : UInt8} (h1 : code[p + 1]? = some a1) {a2 : UInt8} (h2 : code[p + 1 + 1]? = some a2) : decode code p = .ok (.ifCond .eq (Jvm.ClassFile.Reader.signed 16 (a1.toNat * 256 + a2.toNat)), 3) := by
  have h9 : Jvm.ClassFile.Decoder.instr p code p = .ok (.ifCond .eq (Jvm.ClassFile.Reader.signed 16 (a1.toNat * 256 + a2.toNat)), p + 1 + 1 + 1) := by
    unfold Jvm.ClassFile.Decoder.instr
    rw [rb_ok (u1_at h), hb]
    show (Jvm.ClassFile.Reader.s2 >>= fun i => pure (Instr.ifCond .eq i) : Jvm.ClassFile.Decoder Instr) code (p + 1) = _
    rw [rb_ok (s2_at h1 h2)]
    rfl
  rw [dec_of h9, show p + 1 + 1 + 1 - p = 3 by omega]
set_option maxRecDepth 100000 in
theorem fo_if_icmp_eq {code : ByteArray} {p : Nat} {b : UInt8} (h : code[p]? = some b) (hb : b.toNat = 159) {a1 : UInt8} (h1 : code[p + 1]? = some a1) {a2 : UInt8} (h2 : code[p + 1 + 1]? = some a2) : decode code p = .ok (.if_icmp .eq (Jvm.ClassFile.Reader.signed 16 (a1.toNat * 256 + a2.toNat)), 3) := by
  have h9 : Jvm.ClassFile.Decoder.instr p code p = .ok (.if_icmp .eq (Jvm.ClassFile.Reader.signed 16 (a1.toNat * 256 + a2.toNat)), p + 1 + 1 + 1) := by
    unfold Jvm.ClassFile.Decoder.instr
    rw [rb_ok (u1_at h), hb]
    show (Jvm.ClassFile.Reader.s2 >>= fun i => pure (Instr.if_icmp .eq i) : Jvm.ClassFile.Decoder Instr) code (p + 1) = _
    rw [rb_ok (s2_at h1 h2)]
    rfl
  rw [dec_of h9, show p + 1 + 1 + 1 - p = 3 by omega]
set_option maxRecDepth 100000 in
theorem fo_ifCond_ne {code : ByteArray} {p : Nat} {b : UInt8} (h : code[p]? = some b) (hb : b.toNat = 154) {a1 : UInt8} (h1 : code[p + 1]? = some a1) {a2 : UInt8} (h2 : code[p + 1 + 1]? = some a2) : decode code p = .ok (.ifCond .ne (Jvm.ClassFile.Reader.signed 16 (a1.toNat * 256 + a2.toNat)), 3) := by
  have h9 : Jvm.ClassFile.Decoder.instr p code p = .ok (.ifCond .ne (Jvm.ClassFile.Reader.signed 16 (a1.toNat * 256 + a2.toNat)), p + 1 + 1 + 1) := by
    unfold Jvm.ClassFile.Decoder.instr
    rw [rb_ok (u1_at h), hb]
    show (Jvm.ClassFile.Reader.s2 >>= fun i => pure (Instr.ifCond .ne i) : Jvm.ClassFile.Decoder Instr) code (p + 1) = _
    rw [rb_ok (s2_at h1 h2)]
    rfl
  rw [dec_of h9, show p + 1 + 1 + 1 - p = 3 by omega]
set_option maxRecDepth 100000 in
theorem fo_if_icmp_ne {code : ByteArray} {p : Nat} {b : UInt8} (h : code[p]? = some b) (hb : b.toNat = 160) {a1 : UInt8} (h1 : code[p + 1]? = some a1) {a2 : UInt8} (h2 : code[p + 1 + 1]? = some a2) : decode code p = .ok (.if_icmp .ne (Jvm.ClassFile.Reader.signed 16 (a1.toNat * 256 + a2.toNat)), 3) := by
  have h9 : Jvm.ClassFile.Decoder.instr p code p = .ok (.if_icmp .ne (Jvm.ClassFile.Reader.signed 16 (a1.toNat * 256 + a2.toNat)), p + 1 + 1 + 1) := by
    unfold Jvm.ClassFile.Decoder.instr
    rw [rb_ok (u1_at h), hb]
    show (Jvm.ClassFile.Reader.s2 >>= fun i => pure (Instr.if_icmp .ne i) : Jvm.ClassFile.Decoder Instr) code (p + 1) = _
    rw [rb_ok (s2_at h1 h2)]
    rfl
  rw [dec_of h9, show p + 1 + 1 + 1 - p = 3 by omega]
set_option maxRecDepth 100000 in
theorem fo_ifCond_lt {code : ByteArray} {p : Nat} {b : UInt8} (h : code[p]? = some b) (hb : b.toNat = 155) {a1 : UInt8} (h1 : code[p + 1]? = some a1) {a2 : UInt8} (h2 : code[p + 1 + 1]? = some a2) : decode code p = .ok (.ifCond .lt (Jvm.ClassFile.Reader.signed 16 (a1.toNat * 256 + a2.toNat)), 3) := by
  have h9 : Jvm.ClassFile.Decoder.instr p code p = .ok (.ifCond .lt (Jvm.ClassFile.Reader.signed 16 (a1.toNat * 256 + a2.toNat)), p + 1 + 1 + 1) := by
    unfold Jvm.ClassFile.Decoder.instr
    rw [rb_ok (u1_at h), hb]
    show (Jvm.ClassFile.Reader.s2 >>= fun i => pure (Instr.ifCond .lt i) : Jvm.ClassFile.Decoder Instr) code (p + 1) = _
    rw [rb_ok (s2_at h1 h2)]
    rfl
  rw [dec_of h9, show p + 1 + 1 + 1 - p = 3 by omega]
set_option maxRecDepth 100000 in
theorem fo_if_icmp_lt {code : ByteArray} {p : Nat} {b : UInt8} (h : code[p]? = some b) (hb : b.toNat = 161) {a1 : UInt8} (h1 : code[p + 1]? = some a1) {a2 : UInt8} (h2 : code[p + 1 + 1]? = some a2) : decode code p = .ok (.if_icmp .lt (Jvm.ClassFile.Reader.signed 16 (a1.toNat * 256 + a2.toNat)), 3) := by
  have h9 : Jvm.ClassFile.Decoder.instr p code p = .ok (.if_icmp .lt (Jvm.ClassFile.Reader.signed 16 (a1.toNat * 256 + a2.toNat)), p + 1 + 1 + 1) := by
    unfold Jvm.ClassFile.Decoder.instr
    rw [rb_ok (u1_at h), hb]
    show (Jvm.ClassFile.Reader.s2 >>= fun i => pure (Instr.if_icmp .lt i) : Jvm.ClassFile.Decoder Instr) code (p + 1) = _
    rw [rb_ok (s2_at h1 h2)]
    rfl
  rw [dec_of h9, show p + 1 + 1 + 1 - p = 3 by omega]
set_option maxRecDepth 100000 in
theorem fo_ifCond_ge {code : ByteArray} {p : Nat} {b : UInt8} (h : code[p]? = some b) (hb : b.toNat = 156) {a1 : UInt8} (h1 : code[p + 1]? = some a1) {a2 : UInt8} (h2 : code[p + 1 + 1]? = some a2) : decode code p = .ok (.ifCond .ge (Jvm.ClassFile.Reader.signed 16 (a1.toNat * 256 + a2.toNat)), 3) := by
  have h9 : Jvm.ClassFile.Decoder.instr p code p = .ok (.ifCond .ge (Jvm.ClassFile.Reader.signed 16 (a1.toNat * 256 + a2.toNat)), p + 1 + 1 + 1) := by
    unfold Jvm.ClassFile.Decoder.instr
    rw [rb_ok (u1_at h), hb]
    show (Jvm.ClassFile.Reader.s2 >>= fun i => pure (Instr.ifCond .ge i) : Jvm.ClassFile.Decoder Instr) code (p + 1) = _
    rw [rb_ok (s2_at h1 h2)]
    rfl
  rw [dec_of h9, show p + 1 + 1 + 1 - p = 3 by omega]
set_option maxRecDepth 100000 in
theorem fo_if_icmp_ge {code : ByteArray} {p : Nat} {b : UInt8} (h : code[p]? = some b) (hb : b.toNat = 162) {a1 : UInt8} (h1 : code[p + 1]? = some a1) {a2 : UInt8} (h2 : code[p + 1 + 1]? = some a2) : decode code p = .ok (.if_icmp .ge (Jvm.ClassFile.Reader.signed 16 (a1.toNat * 256 + a2.toNat)), 3) := by
  have h9 : Jvm.ClassFile.Decoder.instr p code p = .ok (.if_icmp .ge (Jvm.ClassFile.Reader.signed 16 (a1.toNat * 256 + a2.toNat)), p + 1 + 1 + 1) := by
    unfold Jvm.ClassFile.Decoder.instr
    rw [rb_ok (u1_at h), hb]
    show (Jvm.ClassFile.Reader.s2 >>= fun i => pure (Instr.if_icmp .ge i) : Jvm.ClassFile.Decoder Instr) code (p + 1) = _
    rw [rb_ok (s2_at h1 h2)]
    rfl
  rw [dec_of h9, show p + 1 + 1 + 1 - p = 3 by omega]
set_option maxRecDepth 100000 in
theorem fo_ifCond_gt {code : ByteArray} {p : Nat} {b : UInt8} (h : code[p]? = some b) (hb : b.toNat = 157) {a1 : UInt8} (h1 : code[p + 1]? = some a1) {a2 : UInt8} (h2 : code[p + 1 + 1]? = some a2) : decode code p = .ok (.ifCond .gt (Jvm.ClassFile.Reader.signed 16 (a1.toNat * 256 + a2.toNat)), 3) := by
  have h9 : Jvm.ClassFile.Decoder.instr p code p = .ok (.ifCond .gt (Jvm.ClassFile.Reader.signed 16 (a1.toNat * 256 + a2.toNat)), p + 1 + 1 + 1) := by
    unfold Jvm.ClassFile.Decoder.instr
    rw [rb_ok (u1_at h), hb]
    show (Jvm.ClassFile.Reader.s2 >>= fun i => pure (Instr.ifCond .gt i) : Jvm.ClassFile.Decoder Instr) code (p + 1) = _
    rw [rb_ok (s2_at h1 h2)]
    rfl
  rw [dec_of h9, show p + 1 + 1 + 1 - p = 3 by omega]
set_option maxRecDepth 100000 in
theorem fo_if_icmp_gt {code : ByteArray} {p : Nat} {b : UInt8} (h : code[p]? = some b) (hb : b.toNat = 163) {a1 : UInt8} (h1 : code[p + 1]? = some a1) {a2 : UInt8} (h2 : code[p + 1 + 1]? = some a2) : decode code p = .ok (.if_icmp .gt (Jvm.ClassFile.Reader.signed 16 (a1.toNat * 256 + a2.toNat)), 3) := by
  have h9 : Jvm.ClassFile.Decoder.instr p code p = .ok (.if_icmp .gt (Jvm.ClassFile.Reader.signed 16 (a1.toNat * 256 + a2.toNat)), p + 1 + 1 + 1) := by
    unfold Jvm.ClassFile.Decoder.instr
    rw [rb_ok (u1_at h), hb]
    show (Jvm.ClassFile.Reader.s2 >>= fun i => pure (Instr.if_icmp .gt i) : Jvm.ClassFile.Decoder Instr) code (p + 1) = _
    rw [rb_ok (s2_at h1 h2)]
    rfl
  rw [dec_of h9, show p + 1 + 1 + 1 - p = 3 by omega]
set_option maxRecDepth 100000 in
theorem fo_ifCond_le {code : ByteArray} {p : Nat} {b : UInt8} (h : code[p]? = some b) (hb : b.toNat = 158) {a1 : UInt8} (h1 : code[p + 1]? = some a1) {a2 : UInt8} (h2 : code[p + 1 + 1]? = some a2) : decode code p = .ok (.ifCond .le (Jvm.ClassFile.Reader.signed 16 (a1.toNat * 256 + a2.toNat)), 3) := by
  have h9 : Jvm.ClassFile.Decoder.instr p code p = .ok (.ifCond .le (Jvm.ClassFile.Reader.signed 16 (a1.toNat * 256 + a2.toNat)), p + 1 + 1 + 1) := by
    unfold Jvm.ClassFile.Decoder.instr
    rw [rb_ok (u1_at h), hb]
    show (Jvm.ClassFile.Reader.s2 >>= fun i => pure (Instr.ifCond .le i) : Jvm.ClassFile.Decoder Instr) code (p + 1) = _
    rw [rb_ok (s2_at h1 h2)]
    rfl
  rw [dec_of h9, show p + 1 + 1 + 1 - p = 3 by omega]
set_option maxRecDepth 100000 in
theorem fo_if_icmp_le {code : ByteArray} {p : Nat} {b : UInt8} (h : code[p]? = some b) (hb : b.toNat = 164) {a1 : UInt8} (h1 : code[p + 1]? = some a1) {a2 : UInt8} (h2 : code[p + 1 + 1]? = some a2) : decode code p = .ok (.if_icmp .le (Jvm.ClassFile.Reader.signed 16 (a1.toNat * 256 + a2.toNat)), 3) := by
  have h9 : Jvm.ClassFile.Decoder.instr p code p = .ok (.if_icmp .le (Jvm.ClassFile.Reader.signed 16 (a1.toNat * 256 + a2.toNat)), p + 1 + 1 + 1) := by
    unfold Jvm.ClassFile.Decoder.instr
    rw [rb_ok (u1_at h), hb]
    show (Jvm.ClassFile.Reader.s2 >>= fun i => pure (Instr.if_icmp .le i) : Jvm.ClassFile.Decoder Instr) code (p + 1) = _
    rw [rb_ok (s2_at h1 h2)]
    rfl
  rw [dec_of h9, show p + 1 + 1 + 1 - p = 3 by omega]
set_option maxRecDepth 100000 in
theorem fo_iinc {code : ByteArray} {p : Nat} {b : UInt8} (h : code[p]? = some b) (hb : b.toNat = 132) {a1 : UInt8} (h1 : code[p + 1]? = some a1) {a2 : UInt8} (h2 : code[p + 1 + 1]? = some a2) : decode code p = .ok (.iinc a1.toNat (Jvm.ClassFile.Reader.signed 8 a2.toNat), 3) := by
  have h9 : Jvm.ClassFile.Decoder.instr p code p = .ok (.iinc a1.toNat (Jvm.ClassFile.Reader.signed 8 a2.toNat), p + 1 + 1 + 1) := by
    unfold Jvm.ClassFile.Decoder.instr
    rw [rb_ok (u1_at h), hb]
    show (Jvm.ClassFile.Reader.u1 >>= fun i => Jvm.ClassFile.Reader.s1 >>= fun j => pure (Instr.iinc i j) : Jvm.ClassFile.Decoder Instr) code (p + 1) = _
    rw [rb_ok (u1_at h1), rb_ok (s1_at h2)]
    rfl
  rw [dec_of h9, show p + 1 + 1 + 1 - p = 3 by omega]
set_option maxRecDepth 100000 in
theorem fo_newarray_boolean {code : ByteArray} {p : Nat} {b : UInt8} (h : code[p]? = some b) (hb : b.toNat = 188) {a1 : UInt8} (h1 : code[p + 1]? = some a1) (ha : a1.toNat = 4) : decode code p = .ok (.newarray .boolean, 2) := by
  have h9 : Jvm.ClassFile.Decoder.instr p code p = .ok (.newarray .boolean, p + 1 + 1) := by
    unfold Jvm.ClassFile.Decoder.instr
    rw [rb_ok (u1_at h), hb]
    show Jvm.ClassFile.Decoder.newarray p code (p + 1) = _
    unfold Jvm.ClassFile.Decoder.newarray
    rw [rb_ok (u1_at h1), ha]
    rfl
  rw [dec_of h9, show p + 1 + 1 - p = 2 by omega]
set_option maxRecDepth 100000 in
theorem fo_newarray_int {code : ByteArray} {p : Nat} {b : UInt8} (h : code[p]? = some b) (hb : b.toNat = 188) {a1 : UInt8} (h1 : code[p + 1]? = some a1) (ha : a1.toNat = 10) : decode code p = .ok (.newarray .int, 2) := by
  have h9 : Jvm.ClassFile.Decoder.instr p code p = .ok (.newarray .int, p + 1 + 1) := by
    unfold Jvm.ClassFile.Decoder.instr
    rw [rb_ok (u1_at h), hb]
    show Jvm.ClassFile.Decoder.newarray p code (p + 1) = _
    unfold Jvm.ClassFile.Decoder.newarray
    rw [rb_ok (u1_at h1), ha]
    rfl
  rw [dec_of h9, show p + 1 + 1 - p = 2 by omega]
/-! ### the check -/
def fk_u1 (t : List UInt8) (n : Nat) : Bool := match t with
  | a :: _ => Nat.beq a.toNat n
  | [] => false
def fk_s1 (t : List UInt8) (n : Int) : Bool := match t with
  | a :: _ => decide (Jvm.ClassFile.Reader.signed 8 a.toNat = n)
  | [] => false
def fk_u2 (t : List UInt8) (n : Nat) : Bool := match t with
  | a :: a2 :: _ => Nat.beq (a.toNat * 256 + a2.toNat) n
  | _ => false
def fk_s2 (t : List UInt8) (n : Int) : Bool := match t with
  | a :: a2 :: _ => decide (Jvm.ClassFile.Reader.signed 16 (a.toNat * 256 + a2.toNat) = n)
  | _ => false
def fk_ic (k : Int) (b : Nat) : Bool := match k with
  | 0 => Nat.beq b 3
  | 1 => Nat.beq b 4
  | 2 => Nat.beq b 5
  | 3 => Nat.beq b 6
  | 4 => Nat.beq b 7
  | 5 => Nat.beq b 8
  | .negSucc 0 => Nat.beq b 2
  | _ => false
def fk_by1 (b : Nat) (t : List UInt8) (ins : Instr) : Bool := match ins with
  | .aaload => Nat.beq b 50
  | .aastore => Nat.beq b 83
  | .iaload => Nat.beq b 46
  | .iastore => Nat.beq b 79
  | .baload => Nat.beq b 51
  | .bastore => Nat.beq b 84
  | .iadd => Nat.beq b 96
  | .isub => Nat.beq b 100
  | .imul => Nat.beq b 104
  | .idiv => Nat.beq b 108
  | .irem => Nat.beq b 112
  | .ineg => Nat.beq b 116
  | .ishl => Nat.beq b 120
  | .ishr => Nat.beq b 122
  | .iand => Nat.beq b 126
  | .ior => Nat.beq b 128
  | .dup => Nat.beq b 89
  | .dup2 => Nat.beq b 92
  | .pop => Nat.beq b 87
  | .arraylength => Nat.beq b 190
  | .ireturn => Nat.beq b 172
  | .areturn => Nat.beq b 176
  | .return_ => Nat.beq b 177
  | .iload_n k => (match k with
    | 0 => Nat.beq b 26
    | 1 => Nat.beq b 27
    | 2 => Nat.beq b 28
    | 3 => Nat.beq b 29)
  | .aload_n k => (match k with
    | 0 => Nat.beq b 42
    | 1 => Nat.beq b 43
    | 2 => Nat.beq b 44
    | 3 => Nat.beq b 45)
  | .istore_n k => (match k with
    | 0 => Nat.beq b 59
    | 1 => Nat.beq b 60
    | 2 => Nat.beq b 61
    | 3 => Nat.beq b 62)
  | .astore_n k => (match k with
    | 0 => Nat.beq b 75
    | 1 => Nat.beq b 76
    | 2 => Nat.beq b 77
    | 3 => Nat.beq b 78)
  | .iconst k => fk_ic k b
  | .iload n => Nat.beq b 21 && fk_u1 t n
  | .aload n => Nat.beq b 25 && fk_u1 t n
  | .istore n => Nat.beq b 54 && fk_u1 t n
  | .astore n => Nat.beq b 58 && fk_u1 t n
  | .ldc n => Nat.beq b 18 && fk_u1 t n
  | .bipush n => Nat.beq b 16 && fk_s1 t n
  | .sipush n => Nat.beq b 17 && fk_s2 t n
  | .ldc_w n => Nat.beq b 19 && fk_u2 t n
  | .getfield n => Nat.beq b 180 && fk_u2 t n
  | .putfield n => Nat.beq b 181 && fk_u2 t n
  | .getstatic n => Nat.beq b 178 && fk_u2 t n
  | .invokevirtual n => Nat.beq b 182 && fk_u2 t n
  | .invokespecial n => Nat.beq b 183 && fk_u2 t n
  | .invokestatic n => Nat.beq b 184 && fk_u2 t n
  | .new n => Nat.beq b 187 && fk_u2 t n
  | .anewarray n => Nat.beq b 189 && fk_u2 t n
  | .goto n => Nat.beq b 167 && fk_s2 t n
  | .ifCond c n => (match c with
    | .eq => Nat.beq b 153 && fk_s2 t n
    | .ne => Nat.beq b 154 && fk_s2 t n
    | .lt => Nat.beq b 155 && fk_s2 t n
    | .ge => Nat.beq b 156 && fk_s2 t n
    | .gt => Nat.beq b 157 && fk_s2 t n
    | .le => Nat.beq b 158 && fk_s2 t n)
  | .if_icmp c n => (match c with
    | .eq => Nat.beq b 159 && fk_s2 t n
    | .ne => Nat.beq b 160 && fk_s2 t n
    | .lt => Nat.beq b 161 && fk_s2 t n
    | .ge => Nat.beq b 162 && fk_s2 t n
    | .gt => Nat.beq b 163 && fk_s2 t n
    | .le => Nat.beq b 164 && fk_s2 t n)
  | .iinc n d => Nat.beq b 132 && fk_u1 t n && fk_s1 t.tail d
  | .newarray a => (match a with
    | .boolean => Nat.beq b 188 && fk_u1 t 4
    | .int => Nat.beq b 188 && fk_u1 t 10
    | _ => false)
  | _ => false
def fk_by (bs : List UInt8) (ins : Instr) : Bool := match bs with
  | b :: t => fk_by1 b.toNat t ins
  | [] => false
theorem fk_beq {a b : Nat} (h : Nat.beq a b = true) : a = b := Nat.eq_of_beq_eq_true h
theorem fk_at {code : ByteArray} {p : Nat} {b : UInt8} (h : code.data.toList[p]? = some b) : code[p]? = some b := by
  have h1 := (List.getElem?_eq_some_iff.mp h).1
  have hs : p < code.size := by
    show p < code.data.size
    rw [← Array.length_toList]
    exact h1
  rw [getElem?_pos code p hs, ← h, List.getElem?_eq_getElem h1]
  rfl
theorem fk_dr {l t : List UInt8} {p : Nat} {b : UInt8} (h : l.drop p = b :: t) : l[p]? = some b ∧ l.drop (p + 1) = t := by
  constructor
  · have := congrArg (fun x => x[0]?) h
    simpa using this
  · rw [← List.drop_drop, h]
    rfl
section
variable {code : ByteArray} {p : Nat} {t : List UInt8}
theorem fk_u1s {n : Nat} (ht : code.data.toList.drop (p + 1) = t) (h : fk_u1 t n = true) : ∃ a1 : UInt8, code[p + 1]? = some a1 ∧ a1.toNat = n := by
  unfold fk_u1 at h
  split at h
  · obtain ⟨e1, -⟩ := fk_dr ht
    exact ⟨_, fk_at e1, fk_beq h⟩
  · cases h
theorem fk_s1s {n : Int} (ht : code.data.toList.drop (p + 1) = t) (h : fk_s1 t n = true) : ∃ a1 : UInt8, code[p + 1]? = some a1 ∧ Jvm.ClassFile.Reader.signed 8 a1.toNat = n := by
  unfold fk_s1 at h
  split at h
  · obtain ⟨e1, -⟩ := fk_dr ht
    exact ⟨_, fk_at e1, of_decide_eq_true h⟩
  · cases h
theorem fk_u2s {n : Nat} (ht : code.data.toList.drop (p + 1) = t) (h : fk_u2 t n = true) : ∃ a1 a2 : UInt8, code[p + 1]? = some a1 ∧ code[p + 1 + 1]? = some a2 ∧ a1.toNat * 256 + a2.toNat = n := by
  unfold fk_u2 at h
  split at h
  · obtain ⟨e1, e2⟩ := fk_dr ht
    obtain ⟨e3, -⟩ := fk_dr e2
    exact ⟨_, _, fk_at e1, fk_at e3, fk_beq h⟩
  · cases h
theorem fk_s2s {n : Int} (ht : code.data.toList.drop (p + 1) = t) (h : fk_s2 t n = true) : ∃ a1 a2 : UInt8, code[p + 1]? = some a1 ∧ code[p + 1 + 1]? = some a2 ∧ Jvm.ClassFile.Reader.signed 16 (a1.toNat * 256 + a2.toNat) = n := by
  unfold fk_s2 at h
  split at h
  · obtain ⟨e1, e2⟩ := fk_dr ht
    obtain ⟨e3, -⟩ := fk_dr e2
    exact ⟨_, _, fk_at e1, fk_at e3, of_decide_eq_true h⟩
  · cases h
theorem fk_i_aaload {b : UInt8} (h0 : code[p]? = some b) (ht : code.data.toList.drop (p + 1) = t) (h : fk_by1 b.toNat t (.aaload) = true) : decode code p = .ok (.aaload, mj_ln (.aaload)) := by
  exact fo_aaload h0 (fk_beq h)
theorem fk_i_aastore {b : UInt8} (h0 : code[p]? = some b) (ht : code.data.toList.drop (p + 1) = t) (h : fk_by1 b.toNat t (.aastore) = true) : decode code p = .ok (.aastore, mj_ln (.aastore)) := by
  exact fo_aastore h0 (fk_beq h)
theorem fk_i_iaload {b : UInt8} (h0 : code[p]? = some b) (ht : code.data.toList.drop (p + 1) = t) (h : fk_by1 b.toNat t (.iaload) = true) : decode code p = .ok (.iaload, mj_ln (.iaload)) := by
  exact fo_iaload h0 (fk_beq h)
theorem fk_i_iastore {b : UInt8} (h0 : code[p]? = some b) (ht : code.data.toList.drop (p + 1) = t) (h : fk_by1 b.toNat t (.iastore) = true) : decode code p = .ok (.iastore, mj_ln (.iastore)) := by
  exact fo_iastore h0 (fk_beq h)
theorem fk_i_baload {b : UInt8} (h0 : code[p]? = some b) (ht : code.data.toList.drop (p + 1) = t) (h : fk_by1 b.toNat t (.baload) = true) : decode code p = .ok (.baload, mj_ln (.baload)) := by
  exact fo_baload h0 (fk_beq h)
theorem fk_i_bastore {b : UInt8} (h0 : code[p]? = some b) (ht : code.data.toList.drop (p + 1) = t) (h : fk_by1 b.toNat t (.bastore) = true) : decode code p = .ok (.bastore, mj_ln (.bastore)) := by
  exact fo_bastore h0 (fk_beq h)
theorem fk_i_iadd {b : UInt8} (h0 : code[p]? = some b) (ht : code.data.toList.drop (p + 1) = t) (h : fk_by1 b.toNat t (.iadd) = true) : decode code p = .ok (.iadd, mj_ln (.iadd)) := by
  exact fo_iadd h0 (fk_beq h)
theorem fk_i_isub {b : UInt8} (h0 : code[p]? = some b) (ht : code.data.toList.drop (p + 1) = t) (h : fk_by1 b.toNat t (.isub) = true) : decode code p = .ok (.isub, mj_ln (.isub)) := by
  exact fo_isub h0 (fk_beq h)
theorem fk_i_imul {b : UInt8} (h0 : code[p]? = some b) (ht : code.data.toList.drop (p + 1) = t) (h : fk_by1 b.toNat t (.imul) = true) : decode code p = .ok (.imul, mj_ln (.imul)) := by
  exact fo_imul h0 (fk_beq h)
theorem fk_i_idiv {b : UInt8} (h0 : code[p]? = some b) (ht : code.data.toList.drop (p + 1) = t) (h : fk_by1 b.toNat t (.idiv) = true) : decode code p = .ok (.idiv, mj_ln (.idiv)) := by
  exact fo_idiv h0 (fk_beq h)
theorem fk_i_irem {b : UInt8} (h0 : code[p]? = some b) (ht : code.data.toList.drop (p + 1) = t) (h : fk_by1 b.toNat t (.irem) = true) : decode code p = .ok (.irem, mj_ln (.irem)) := by
  exact fo_irem h0 (fk_beq h)
theorem fk_i_ineg {b : UInt8} (h0 : code[p]? = some b) (ht : code.data.toList.drop (p + 1) = t) (h : fk_by1 b.toNat t (.ineg) = true) : decode code p = .ok (.ineg, mj_ln (.ineg)) := by
  exact fo_ineg h0 (fk_beq h)
theorem fk_i_ishl {b : UInt8} (h0 : code[p]? = some b) (ht : code.data.toList.drop (p + 1) = t) (h : fk_by1 b.toNat t (.ishl) = true) : decode code p = .ok (.ishl, mj_ln (.ishl)) := by
  exact fo_ishl h0 (fk_beq h)
theorem fk_i_ishr {b : UInt8} (h0 : code[p]? = some b) (ht : code.data.toList.drop (p + 1) = t) (h : fk_by1 b.toNat t (.ishr) = true) : decode code p = .ok (.ishr, mj_ln (.ishr)) := by
  exact fo_ishr h0 (fk_beq h)
theorem fk_i_iand {b : UInt8} (h0 : code[p]? = some b) (ht : code.data.toList.drop (p + 1) = t) (h : fk_by1 b.toNat t (.iand) = true) : decode code p = .ok (.iand, mj_ln (.iand)) := by
  exact fo_iand h0 (fk_beq h)
theorem fk_i_ior {b : UInt8} (h0 : code[p]? = some b) (ht : code.data.toList.drop (p + 1) = t) (h : fk_by1 b.toNat t (.ior) = true) : decode code p = .ok (.ior, mj_ln (.ior)) := by
  exact fo_ior h0 (fk_beq h)
theorem fk_i_dup {b : UInt8} (h0 : code[p]? = some b) (ht : code.data.toList.drop (p + 1) = t) (h : fk_by1 b.toNat t (.dup) = true) : decode code p = .ok (.dup, mj_ln (.dup)) := by
  exact fo_dup h0 (fk_beq h)
theorem fk_i_dup2 {b : UInt8} (h0 : code[p]? = some b) (ht : code.data.toList.drop (p + 1) = t) (h : fk_by1 b.toNat t (.dup2) = true) : decode code p = .ok (.dup2, mj_ln (.dup2)) := by
  exact fo_dup2 h0 (fk_beq h)
theorem fk_i_pop {b : UInt8} (h0 : code[p]? = some b) (ht : code.data.toList.drop (p + 1) = t) (h : fk_by1 b.toNat t (.pop) = true) : decode code p = .ok (.pop, mj_ln (.pop)) := by
  exact fo_pop h0 (fk_beq h)
theorem fk_i_arraylength {b : UInt8} (h0 : code[p]? = some b) (ht : code.data.toList.drop (p + 1) = t) (h : fk_by1 b.toNat t (.arraylength) = true) : decode code p = .ok (.arraylength, mj_ln (.arraylength)) := by
  exact fo_arraylength h0 (fk_beq h)
theorem fk_i_ireturn {b : UInt8} (h0 : code[p]? = some b) (ht : code.data.toList.drop (p + 1) = t) (h : fk_by1 b.toNat t (.ireturn) = true) : decode code p = .ok (.ireturn, mj_ln (.ireturn)) := by
  exact fo_ireturn h0 (fk_beq h)
theorem fk_i_areturn {b : UInt8} (h0 : code[p]? = some b) (ht : code.data.toList.drop (p + 1) = t) (h : fk_by1 b.toNat t (.areturn) = true) : decode code p = .ok (.areturn, mj_ln (.areturn)) := by
  exact fo_areturn h0 (fk_beq h)
theorem fk_i_return_ {b : UInt8} (h0 : code[p]? = some b) (ht : code.data.toList.drop (p + 1) = t) (h : fk_by1 b.toNat t (.return_) = true) : decode code p = .ok (.return_, mj_ln (.return_)) := by
  exact fo_return_ h0 (fk_beq h)
theorem fk_i_iload_n {k : Fin 4} {b : UInt8} (h0 : code[p]? = some b) (ht : code.data.toList.drop (p + 1) = t) (h : fk_by1 b.toNat t (.iload_n k) = true) : decode code p = .ok (.iload_n k, mj_ln (.iload_n k)) := by
  match k with
  | 0 => exact fo_iload_n0 h0 (fk_beq h)
  | 1 => exact fo_iload_n1 h0 (fk_beq h)
  | 2 => exact fo_iload_n2 h0 (fk_beq h)
  | 3 => exact fo_iload_n3 h0 (fk_beq h)
theorem fk_i_aload_n {k : Fin 4} {b : UInt8} (h0 : code[p]? = some b) (ht : code.data.toList.drop (p + 1) = t) (h : fk_by1 b.toNat t (.aload_n k) = true) : decode code p = .ok (.aload_n k, mj_ln (.aload_n k)) := by
  match k with
  | 0 => exact fo_aload_n0 h0 (fk_beq h)
  | 1 => exact fo_aload_n1 h0 (fk_beq h)
  | 2 => exact fo_aload_n2 h0 (fk_beq h)
  | 3 => exact fo_aload_n3 h0 (fk_beq h)
theorem fk_i_istore_n {k : Fin 4} {b : UInt8} (h0 : code[p]? = some b) (ht : code.data.toList.drop (p + 1) = t) (h : fk_by1 b.toNat t (.istore_n k) = true) : decode code p = .ok (.istore_n k, mj_ln (.istore_n k)) := by
  match k with
  | 0 => exact fo_istore_n0 h0 (fk_beq h)
  | 1 => exact fo_istore_n1 h0 (fk_beq h)
  | 2 => exact fo_istore_n2 h0 (fk_beq h)
  | 3 => exact fo_istore_n3 h0 (fk_beq h)
theorem fk_i_astore_n {k : Fin 4} {b : UInt8} (h0 : code[p]? = some b) (ht : code.data.toList.drop (p + 1) = t) (h : fk_by1 b.toNat t (.astore_n k) = true) : decode code p = .ok (.astore_n k, mj_ln (.astore_n k)) := by
  match k with
  | 0 => exact fo_astore_n0 h0 (fk_beq h)
  | 1 => exact fo_astore_n1 h0 (fk_beq h)
  | 2 => exact fo_astore_n2 h0 (fk_beq h)
  | 3 => exact fo_astore_n3 h0 (fk_beq h)
theorem fk_i_iconst {k : Int} {b : UInt8} (h0 : code[p]? = some b) (ht : code.data.toList.drop (p + 1) = t) (h : fk_by1 b.toNat t (.iconst k) = true) : decode code p = .ok (.iconst k, mj_ln (.iconst k)) := by
  have h : fk_ic k b.toNat = true := h
  unfold fk_ic at h
  split at h
  · exact fo_iconst_0 h0 (fk_beq h)
  · exact fo_iconst_1 h0 (fk_beq h)
  · exact fo_iconst_2 h0 (fk_beq h)
  · exact fo_iconst_3 h0 (fk_beq h)
  · exact fo_iconst_4 h0 (fk_beq h)
  · exact fo_iconst_5 h0 (fk_beq h)
  · exact fo_iconst_m1 h0 (fk_beq h)
  · cases h
theorem fk_i_iload {n : Nat} {b : UInt8} (h0 : code[p]? = some b) (ht : code.data.toList.drop (p + 1) = t) (h : fk_by1 b.toNat t (.iload n) = true) : decode code p = .ok (.iload n, mj_ln (.iload n)) := by
  have h : (Nat.beq b.toNat 21 && fk_u1 t n) = true := h
  rw [Bool.and_eq_true] at h
  obtain ⟨a1, g1, g2⟩ := fk_u1s ht h.2
  subst g2
  exact fo_iload h0 (fk_beq h.1) g1
theorem fk_i_aload {n : Nat} {b : UInt8} (h0 : code[p]? = some b) (ht : code.data.toList.drop (p + 1) = t) (h : fk_by1 b.toNat t (.aload n) = true) : decode code p = .ok (.aload n, mj_ln (.aload n)) := by
  have h : (Nat.beq b.toNat 25 && fk_u1 t n) = true := h
  rw [Bool.and_eq_true] at h
  obtain ⟨a1, g1, g2⟩ := fk_u1s ht h.2
  subst g2
  exact fo_aload h0 (fk_beq h.1) g1
theorem fk_i_istore {n : Nat} {b : UInt8} (h0 : code[p]? = some b) (ht : code.data.toList.drop (p + 1) = t) (h : fk_by1 b.toNat t (.istore n) = true) : decode code p = .ok (.istore n, mj_ln (.istore n)) := by
  have h : (Nat.beq b.toNat 54 && fk_u1 t n) = true := h
  rw [Bool.and_eq_true] at h
  obtain ⟨a1, g1, g2⟩ := fk_u1s ht h.2
  subst g2
  exact fo_istore h0 (fk_beq h.1) g1
theorem fk_i_astore {n : Nat} {b : UInt8} (h0 : code[p]? = some b) (ht : code.data.toList.drop (p + 1) = t) (h : fk_by1 b.toNat t (.astore n) = true) : decode code p = .ok (.astore n, mj_ln (.astore n)) := by
  have h : (Nat.beq b.toNat 58 && fk_u1 t n) = true := h
  rw [Bool.and_eq_true] at h
  obtain ⟨a1, g1, g2⟩ := fk_u1s ht h.2
  subst g2
  exact fo_astore h0 (fk_beq h.1) g1
theorem fk_i_ldc {n : Nat} {b : UInt8} (h0 : code[p]? = some b) (ht : code.data.toList.drop (p + 1) = t) (h : fk_by1 b.toNat t (.ldc n) = true) : decode code p = .ok (.ldc n, mj_ln (.ldc n)) := by
  have h : (Nat.beq b.toNat 18 && fk_u1 t n) = true := h
  rw [Bool.and_eq_true] at h
  obtain ⟨a1, g1, g2⟩ := fk_u1s ht h.2
  subst g2
  exact fo_ldc h0 (fk_beq h.1) g1
theorem fk_i_bipush {n : Int} {b : UInt8} (h0 : code[p]? = some b) (ht : code.data.toList.drop (p + 1) = t) (h : fk_by1 b.toNat t (.bipush n) = true) : decode code p = .ok (.bipush n, mj_ln (.bipush n)) := by
  have h : (Nat.beq b.toNat 16 && fk_s1 t n) = true := h
  rw [Bool.and_eq_true] at h
  obtain ⟨a1, g1, g2⟩ := fk_s1s ht h.2
  subst g2
  exact fo_bipush h0 (fk_beq h.1) g1
theorem fk_i_sipush {n : Int} {b : UInt8} (h0 : code[p]? = some b) (ht : code.data.toList.drop (p + 1) = t) (h : fk_by1 b.toNat t (.sipush n) = true) : decode code p = .ok (.sipush n, mj_ln (.sipush n)) := by
  have h : (Nat.beq b.toNat 17 && fk_s2 t n) = true := h
  rw [Bool.and_eq_true] at h
  obtain ⟨a1, a2, g1, g2, g3⟩ := fk_s2s ht h.2
  subst g3
  exact fo_sipush h0 (fk_beq h.1) g1 g2
theorem fk_i_ldc_w {n : Nat} {b : UInt8} (h0 : code[p]? = some b) (ht : code.data.toList.drop (p + 1) = t) (h : fk_by1 b.toNat t (.ldc_w n) = true) : decode code p = .ok (.ldc_w n, mj_ln (.ldc_w n)) := by
  have h : (Nat.beq b.toNat 19 && fk_u2 t n) = true := h
  rw [Bool.and_eq_true] at h
  obtain ⟨a1, a2, g1, g2, g3⟩ := fk_u2s ht h.2
  subst g3
  exact fo_ldc_w h0 (fk_beq h.1) g1 g2
theorem fk_i_getfield {n : Nat} {b : UInt8} (h0 : code[p]? = some b) (ht : code.data.toList.drop (p + 1) = t) (h : fk_by1 b.toNat t (.getfield n) = true) : decode code p = .ok (.getfield n, mj_ln (.getfield n)) := by
  have h : (Nat.beq b.toNat 180 && fk_u2 t n) = true := h
  rw [Bool.and_eq_true] at h
  obtain ⟨a1, a2, g1, g2, g3⟩ := fk_u2s ht h.2
  subst g3
  exact fo_getfield h0 (fk_beq h.1) g1 g2
theorem fk_i_putfield {n : Nat} {b : UInt8} (h0 : code[p]? = some b) (ht : code.data.toList.drop (p + 1) = t) (h : fk_by1 b.toNat t (.putfield n) = true) : decode code p = .ok (.putfield n, mj_ln (.putfield n)) := by
  have h : (Nat.beq b.toNat 181 && fk_u2 t n) = true := h
  rw [Bool.and_eq_true] at h
  obtain ⟨a1, a2, g1, g2, g3⟩ := fk_u2s ht h.2
  subst g3
  exact fo_putfield h0 (fk_beq h.1) g1 g2
theorem fk_i_getstatic {n : Nat} {b : UInt8} (h0 : code[p]? = some b) (ht : code.data.toList.drop (p + 1) = t) (h : fk_by1 b.toNat t (.getstatic n) = true) : decode code p = .ok (.getstatic n, mj_ln (.getstatic n)) := by
  have h : (Nat.beq b.toNat 178 && fk_u2 t n) = true := h
  rw [Bool.and_eq_true] at h
  obtain ⟨a1, a2, g1, g2, g3⟩ := fk_u2s ht h.2
  subst g3
  exact fo_getstatic h0 (fk_beq h.1) g1 g2
theorem fk_i_invokevirtual {n : Nat} {b : UInt8} (h0 : code[p]? = some b) (ht : code.data.toList.drop (p + 1) = t) (h : fk_by1 b.toNat t (.invokevirtual n) = true) : decode code p = .ok (.invokevirtual n, mj_ln (.invokevirtual n)) := by
  have h : (Nat.beq b.toNat 182 && fk_u2 t n) = true := h
  rw [Bool.and_eq_true] at h
  obtain ⟨a1, a2, g1, g2, g3⟩ := fk_u2s ht h.2
  subst g3
  exact fo_invokevirtual h0 (fk_beq h.1) g1 g2
theorem fk_i_invokespecial {n : Nat} {b : UInt8} (h0 : code[p]? = some b) (ht : code.data.toList.drop (p + 1) = t) (h : fk_by1 b.toNat t (.invokespecial n) = true) : decode code p = .ok (.invokespecial n, mj_ln (.invokespecial n)) := by
  have h : (Nat.beq b.toNat 183 && fk_u2 t n) = true := h
  rw [Bool.and_eq_true] at h
  obtain ⟨a1, a2, g1, g2, g3⟩ := fk_u2s ht h.2
  subst g3
  exact fo_invokespecial h0 (fk_beq h.1) g1 g2
theorem fk_i_invokestatic {n : Nat} {b : UInt8} (h0 : code[p]? = some b) (ht : code.data.toList.drop (p + 1) = t) (h : fk_by1 b.toNat t (.invokestatic n) = true) : decode code p = .ok (.invokestatic n, mj_ln (.invokestatic n)) := by
  have h : (Nat.beq b.toNat 184 && fk_u2 t n) = true := h
  rw [Bool.and_eq_true] at h
  obtain ⟨a1, a2, g1, g2, g3⟩ := fk_u2s ht h.2
  subst g3
  exact fo_invokestatic h0 (fk_beq h.1) g1 g2
theorem fk_i_new {n : Nat} {b : UInt8} (h0 : code[p]? = some b) (ht : code.data.toList.drop (p + 1) = t) (h : fk_by1 b.toNat t (.new n) = true) : decode code p = .ok (.new n, mj_ln (.new n)) := by
  have h : (Nat.beq b.toNat 187 && fk_u2 t n) = true := h
  rw [Bool.and_eq_true] at h
  obtain ⟨a1, a2, g1, g2, g3⟩ := fk_u2s ht h.2
  subst g3
  exact fo_new h0 (fk_beq h.1) g1 g2
theorem fk_i_anewarray {n : Nat} {b : UInt8} (h0 : code[p]? = some b) (ht : code.data.toList.drop (p + 1) = t) (h : fk_by1 b.toNat t (.anewarray n) = true) : decode code p = .ok (.anewarray n, mj_ln (.anewarray n)) := by
  have h : (Nat.beq b.toNat 189 && fk_u2 t n) = true := h
  rw [Bool.and_eq_true] at h
  obtain ⟨a1, a2, g1, g2, g3⟩ := fk_u2s ht h.2
  subst g3
  exact fo_anewarray h0 (fk_beq h.1) g1 g2
theorem fk_i_goto {n : Int} {b : UInt8} (h0 : code[p]? = some b) (ht : code.data.toList.drop (p + 1) = t) (h : fk_by1 b.toNat t (.goto n) = true) : decode code p = .ok (.goto n, mj_ln (.goto n)) := by
  have h : (Nat.beq b.toNat 167 && fk_s2 t n) = true := h
  rw [Bool.and_eq_true] at h
  obtain ⟨a1, a2, g1, g2, g3⟩ := fk_s2s ht h.2
  subst g3
  exact fo_goto h0 (fk_beq h.1) g1 g2
theorem fk_i_ifCond {c : Jvm.ClassFile.Cond} {n : Int} {b : UInt8} (h0 : code[p]? = some b) (ht : code.data.toList.drop (p + 1) = t) (h : fk_by1 b.toNat t (.ifCond c n) = true) : decode code p = .ok (.ifCond c n, mj_ln (.ifCond c n)) := by
  cases c with
  | eq =>
    have h : (Nat.beq b.toNat 153 && fk_s2 t n) = true := h
    rw [Bool.and_eq_true] at h
    obtain ⟨a1, a2, g1, g2, g3⟩ := fk_s2s ht h.2
    subst g3
    exact fo_ifCond_eq h0 (fk_beq h.1) g1 g2
  | ne =>
    have h : (Nat.beq b.toNat 154 && fk_s2 t n) = true := h
    rw [Bool.and_eq_true] at h
    obtain ⟨a1, a2, g1, g2, g3⟩ := fk_s2s ht h.2
    subst g3
    exact fo_ifCond_ne h0 (fk_beq h.1) g1 g2
  | lt =>
    have h : (Nat.beq b.toNat 155 && fk_s2 t n) = true := h
    rw [Bool.and_eq_true] at h
    obtain ⟨a1, a2, g1, g2, g3⟩ := fk_s2s ht h.2
    subst g3
    exact fo_ifCond_lt h0 (fk_beq h.1) g1 g2
  | ge =>
    have h : (Nat.beq b.toNat 156 && fk_s2 t n) = true := h
    rw [Bool.and_eq_true] at h
    obtain ⟨a1, a2, g1, g2, g3⟩ := fk_s2s ht h.2
    subst g3
    exact fo_ifCond_ge h0 (fk_beq h.1) g1 g2
  | gt =>
    have h : (Nat.beq b.toNat 157 && fk_s2 t n) = true := h
    rw [Bool.and_eq_true] at h
    obtain ⟨a1, a2, g1, g2, g3⟩ := fk_s2s ht h.2
    subst g3
    exact fo_ifCond_gt h0 (fk_beq h.1) g1 g2
  | le =>
    have h : (Nat.beq b.toNat 158 && fk_s2 t n) = true := h
    rw [Bool.and_eq_true] at h
    obtain ⟨a1, a2, g1, g2, g3⟩ := fk_s2s ht h.2
    subst g3
    exact fo_ifCond_le h0 (fk_beq h.1) g1 g2
theorem fk_i_if_icmp {c : Jvm.ClassFile.Cond} {n : Int} {b : UInt8} (h0 : code[p]? = some b) (ht : code.data.toList.drop (p + 1) = t) (h : fk_by1 b.toNat t (.if_icmp c n) = true) : decode code p = .ok (.if_icmp c n, mj_ln (.if_icmp c n)) := by
  cases c with
  | eq =>
    have h : (Nat.beq b.toNat 159 && fk_s2 t n) = true := h
    rw [Bool.and_eq_true] at h
    obtain ⟨a1, a2, g1, g2, g3⟩ := fk_s2s ht h.2
    subst g3
    exact fo_if_icmp_eq h0 (fk_beq h.1) g1 g2
  | ne =>
    have h : (Nat.beq b.toNat 160 && fk_s2 t n) = true := h
    rw [Bool.and_eq_true] at h
    obtain ⟨a1, a2, g1, g2, g3⟩ := fk_s2s ht h.2
    subst g3
    exact fo_if_icmp_ne h0 (fk_beq h.1) g1 g2
  | lt =>
    have h : (Nat.beq b.toNat 161 && fk_s2 t n) = true := h
    rw [Bool.and_eq_true] at h
    obtain ⟨a1, a2, g1, g2, g3⟩ := fk_s2s ht h.2
    subst g3
    exact fo_if_icmp_lt h0 (fk_beq h.1) g1 g2
  | ge =>
    have h : (Nat.beq b.toNat 162 && fk_s2 t n) = true := h
    rw [Bool.and_eq_true] at h
    obtain ⟨a1, a2, g1, g2, g3⟩ := fk_s2s ht h.2
    subst g3
    exact fo_if_icmp_ge h0 (fk_beq h.1) g1 g2
  | gt =>
    have h : (Nat.beq b.toNat 163 && fk_s2 t n) = true := h
    rw [Bool.and_eq_true] at h
    obtain ⟨a1, a2, g1, g2, g3⟩ := fk_s2s ht h.2
    subst g3
    exact fo_if_icmp_gt h0 (fk_beq h.1) g1 g2
  | le =>
    have h : (Nat.beq b.toNat 164 && fk_s2 t n) = true := h
    rw [Bool.and_eq_true] at h
    obtain ⟨a1, a2, g1, g2, g3⟩ := fk_s2s ht h.2
    subst g3
    exact fo_if_icmp_le h0 (fk_beq h.1) g1 g2
theorem fk_i_iinc {n : Nat} {d : Int} {b : UInt8} (h0 : code[p]? = some b) (ht : code.data.toList.drop (p + 1) = t) (h : fk_by1 b.toNat t (.iinc n d) = true) : decode code p = .ok (.iinc n d, mj_ln (.iinc n d)) := by
  have h : (Nat.beq b.toNat 132 && fk_u1 t n && fk_s1 t.tail d) = true := h
  rw [Bool.and_eq_true, Bool.and_eq_true] at h
  obtain ⟨⟨h1, h2⟩, h3⟩ := h
  obtain ⟨a1, g1, g2⟩ := fk_u1s ht h2
  have ht2 : code.data.toList.drop (p + 1 + 1) = t.tail := by rw [← List.drop_drop, ht, List.drop_one]
  obtain ⟨a2, g3, g4⟩ := fk_s1s ht2 h3
  subst g2
  subst g4
  exact fo_iinc h0 (fk_beq h1) g1 g3
theorem fk_i_newarray {a : Jvm.ClassFile.ArrayType} {b : UInt8} (h0 : code[p]? = some b) (ht : code.data.toList.drop (p + 1) = t) (h : fk_by1 b.toNat t (.newarray a) = true) : decode code p = .ok (.newarray a, mj_ln (.newarray a)) := by
  cases a with
  | boolean =>
    have h : (Nat.beq b.toNat 188 && fk_u1 t 4) = true := h
    rw [Bool.and_eq_true] at h
    obtain ⟨a1, g1, g2⟩ := fk_u1s ht h.2
    exact fo_newarray_boolean h0 (fk_beq h.1) g1 g2
  | int =>
    have h : (Nat.beq b.toNat 188 && fk_u1 t 10) = true := h
    rw [Bool.and_eq_true] at h
    obtain ⟨a1, g1, g2⟩ := fk_u1s ht h.2
    exact fo_newarray_int h0 (fk_beq h.1) g1 g2
  | char => cases h
  | float => cases h
  | double => cases h
  | byte => cases h
  | short => cases h
  | long => cases h
set_option maxRecDepth 100000 in
theorem fk_by_ok {bs : List UInt8} {ins : Instr} (hb : code.data.toList.drop p = bs) (h : fk_by bs ins = true) : decode code p = .ok (ins, mj_ln ins) := by
  unfold fk_by at h
  split at h
  · rename_i b t
    obtain ⟨e0, ht⟩ := fk_dr hb
    have h0 := fk_at e0
    cases ins
    case aaload => exact fk_i_aaload h0 ht h
    case aastore => exact fk_i_aastore h0 ht h
    case iaload => exact fk_i_iaload h0 ht h
    case iastore => exact fk_i_iastore h0 ht h
    case baload => exact fk_i_baload h0 ht h
    case bastore => exact fk_i_bastore h0 ht h
    case iadd => exact fk_i_iadd h0 ht h
    case isub => exact fk_i_isub h0 ht h
    case imul => exact fk_i_imul h0 ht h
    case idiv => exact fk_i_idiv h0 ht h
    case irem => exact fk_i_irem h0 ht h
    case ineg => exact fk_i_ineg h0 ht h
    case ishl => exact fk_i_ishl h0 ht h
    case ishr => exact fk_i_ishr h0 ht h
    case iand => exact fk_i_iand h0 ht h
    case ior => exact fk_i_ior h0 ht h
    case dup => exact fk_i_dup h0 ht h
    case dup2 => exact fk_i_dup2 h0 ht h
    case pop => exact fk_i_pop h0 ht h
    case arraylength => exact fk_i_arraylength h0 ht h
    case ireturn => exact fk_i_ireturn h0 ht h
    case areturn => exact fk_i_areturn h0 ht h
    case return_ => exact fk_i_return_ h0 ht h
    case iload_n => exact fk_i_iload_n h0 ht h
    case aload_n => exact fk_i_aload_n h0 ht h
    case istore_n => exact fk_i_istore_n h0 ht h
    case astore_n => exact fk_i_astore_n h0 ht h
    case iconst => exact fk_i_iconst h0 ht h
    case iload => exact fk_i_iload h0 ht h
    case aload => exact fk_i_aload h0 ht h
    case istore => exact fk_i_istore h0 ht h
    case astore => exact fk_i_astore h0 ht h
    case ldc => exact fk_i_ldc h0 ht h
    case bipush => exact fk_i_bipush h0 ht h
    case sipush => exact fk_i_sipush h0 ht h
    case ldc_w => exact fk_i_ldc_w h0 ht h
    case getfield => exact fk_i_getfield h0 ht h
    case putfield => exact fk_i_putfield h0 ht h
    case getstatic => exact fk_i_getstatic h0 ht h
    case invokevirtual => exact fk_i_invokevirtual h0 ht h
    case invokespecial => exact fk_i_invokespecial h0 ht h
    case invokestatic => exact fk_i_invokestatic h0 ht h
    case new => exact fk_i_new h0 ht h
    case anewarray => exact fk_i_anewarray h0 ht h
    case goto => exact fk_i_goto h0 ht h
    case ifCond => exact fk_i_ifCond h0 ht h
    case if_icmp => exact fk_i_if_icmp h0 ht h
    case iinc => exact fk_i_iinc h0 ht h
    case newarray => exact fk_i_newarray h0 ht h
    all_goals cases h
  · cases h
end
def fk_dc (e : mj_e) (pc : Nat) (ins : Instr) (bs : List UInt8) : Bool := match ins with
  | .tableswitch d lo hi offs => (match decode e.2.1 pc with
    | .ok q => decide (q.1 = .tableswitch d lo hi offs)
    | .error _ => false)
  | i => fk_by bs i
def fk_dx (e : mj_e) (pc : Nat) (ins : Instr) : Bool := match ins with
  | .tableswitch d lo hi offs => (match decode e.2.1 pc with
    | .ok q => decide (q.1 = .tableswitch d lo hi offs)
    | .error _ => false)
  | i => decide (decode e.2.1 pc = .ok (i, mj_ln i))
theorem fk_dc_ok {e : mj_e} {pc : Nat} {ins : Instr} {bs : List UInt8} (hb : e.2.1.data.toList.drop pc = bs) : fk_dc e pc ins bs = true → fk_dx e pc ins = true := by
  intro h
  unfold fk_dc at h
  unfold fk_dx
  split
  · exact h
  · rename_i hne
    split at h
    · exact absurd rfl (hne _ _ _ _)
    · exact decide_eq_true (fk_by_ok hb h)
def fk_row (e : mj_e) (r : mj_r) (tl : List mj_r) (bs : List UInt8) : Bool := fk_dc e r.1 r.2.1 bs &&
  (match mj_falls r.2.1, tl with
  | false, _ => true
  | true, r2 :: _ => decide (r2.1 = r.1 + mj_ln r.2.1)
  | true, [] => false) && mj_ok1 e r.1 r.2.1 r.2.2.1 r.2.2.2
def fk_go (e : mj_e) : List mj_r → List UInt8 → Bool
  | [], _ => true
  | r :: tl, bs => fk_row e r tl bs && (match tl with
    | [] => true
    | r2 :: _ => Nat.ble r.1 r2.1) && fk_go e tl (match tl with
    | [] => []
    | r2 :: _ => bs.drop (r2.1 - r.1))
def fk_all (e : mj_e) : Bool := (match e.2.2.2.2.2.2.2 with
  | [] => true
  | r :: _ => Nat.beq r.1 0) && fk_go e e.2.2.2.2.2.2.2 e.2.1.data.toList
theorem fk_row_ok {e : mj_e} {r : mj_r} {tl : List mj_r} {bs : List UInt8} (hb : e.2.1.data.toList.drop r.1 = bs) (h : fk_row e r tl bs = true) : mj_okr e r tl = true := by
  unfold fk_row at h
  unfold mj_okr
  rw [Bool.and_eq_true, Bool.and_eq_true] at h ⊢
  obtain ⟨⟨h1, h2⟩, h3⟩ := h
  exact ⟨⟨fk_dc_ok hb h1, h2⟩, h3⟩
theorem fk_go_ok {e : mj_e} : ∀ (cd : List mj_r) (bs : List UInt8), (∀ r tl, cd = r :: tl → e.2.1.data.toList.drop r.1 = bs) → fk_go e cd bs = true → ∀ i r, cd[i]? = some r → mj_okr e r (cd.drop (i + 1)) = true := by
  intro cd
  induction cd with
  | nil =>
    intro bs _ _ i r hr
    simp at hr
  | cons r0 tl ih =>
    intro bs hbs h i r hr
    unfold fk_go at h
    rw [Bool.and_eq_true, Bool.and_eq_true] at h
    obtain ⟨⟨h1, h2⟩, h3⟩ := h
    cases i with
    | zero =>
      have hr : some r0 = some r := hr
      cases hr
      exact fk_row_ok (hbs r0 tl rfl) h1
    | succ i =>
      have hr : tl[i]? = some r := hr
      refine ih _ (fun r2 tl2 e2 => ?_) h3 i r hr
      subst e2
      have h2 : r0.1 ≤ r2.1 := Nat.le_of_ble_eq_true h2
      show _ = bs.drop (r2.1 - r0.1)
      rw [← hbs r0 _ rfl, List.drop_drop, Nat.add_sub_cancel' h2]
theorem fk_Rok {e : mj_e} (h : fk_all e = true) : mj_Rok e := by
  unfold fk_all at h
  rw [Bool.and_eq_true] at h
  obtain ⟨h1, h2⟩ := h
  refine fk_go_ok _ _ (fun r tl hc => ?_) h2
  rw [hc] at h1
  have h1 : r.1 = 0 := fk_beq h1
  rw [h1]
  rfl
