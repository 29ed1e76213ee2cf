/-! ===== the cells behind the two constructors ===== -/
def wt_H (L : Nat) : List wt_p := [.inl (0, L),
  .inl (0, 6),
  .inl (0, 6),
  .inl (0, 6),
  .inr (.inr (10, [some (some 11), some (some 69), some (some 71), some (some 40), some (some 73), some (some 75), none])),
  .inr (.inr (6, [some (some 6), some (some 7), some (some 8), some (some 9), some (some 10)])),
  .inl (0, 10),
  .inl (0, 10),
  .inl (0, 10),
  .inl (0, 640),
  .inl (0, 10),
  .inr (.inr (9, [some (some 5), some (some 12), some (some 25), some (some 13), some (some 21), some (some 22), some (some 24), some (some 27), none])),
  .inl (0, 6),
  .inr (.inr (5, [some (some 14), some (some 15), some (some 16), some (some 17), some (some 18), some (some 19), some (some 20), none, none, none])),
  .inl (0, 256),
  .inl (0, 256),
  .inl (0, 256),
  .inl (0, 256),
  .inl (0, 256),
  .inl (0, 256),
  .inl (0, 256),
  .inr (.inl (6, fun k => if k < 6 then some (11 + 17 + 2 * k) else none)),
  .inr (.inr (1, [some (some 23), none])),
  .inl (0, 160),
  .inl (0, 12),
  .inr (.inr (3, [some (some 26)])),
  .inl (0, 2048),
  .inr (.inr (8, [some (some 25), none, none, none])),
  .inr (.inr (7, [none, none, none, none, none, none, none, none, none, none, none, none, none, none, none, none, none, some (some 29)])),
  .inl (0, 12),
  .inr (.inr (7, [none, none, none, none, none, none, none, none, none, none, none, none, none, none, none, none, none, some (some 31)])),
  .inl (0, 12),
  .inr (.inr (7, [none, none, none, none, none, none, none, none, none, none, none, none, none, none, none, none, none, some (some 33)])),
  .inl (0, 12),
  .inr (.inr (7, [none, none, none, none, none, none, none, none, none, none, none, none, none, none, none, none, none, some (some 35)])),
  .inl (0, 12),
  .inr (.inr (7, [none, none, none, none, none, none, none, none, none, none, none, none, none, none, none, none, none, some (some 37)])),
  .inl (0, 12),
  .inr (.inr (7, [none, none, none, none, none, none, none, none, none, none, none, none, none, none, none, none, none, some (some 39)])),
  .inl (0, 12),
  .inr (.inr (9, [some (some 5), some (some 41), some (some 54), some (some 42), some (some 50), some (some 51), some (some 53), some (some 56), none])),
  .inl (0, 6),
  .inr (.inr (5, [some (some 43), some (some 44), some (some 45), some (some 46), some (some 47), some (some 48), some (some 49), none, none, none])),
  .inl (0, 256),
  .inl (0, 256),
  .inl (0, 256),
  .inl (0, 256),
  .inl (0, 256),
  .inl (0, 256),
  .inl (0, 256),
  .inr (.inl (6, fun k => if k < 6 then some (40 + 17 + 2 * k) else none)),
  .inr (.inr (1, [some (some 52), none])),
  .inl (0, 160),
  .inl (0, 12),
  .inr (.inr (3, [some (some 55)])),
  .inl (0, 10000),
  .inr (.inr (8, [some (some 54), none, none, none])),
  .inr (.inr (7, [none, none, none, none, none, none, none, none, none, none, none, none, none, none, none, none, none, some (some 58)])),
  .inl (0, 12),
  .inr (.inr (7, [none, none, none, none, none, none, none, none, none, none, none, none, none, none, none, none, none, some (some 60)])),
  .inl (0, 12),
  .inr (.inr (7, [none, none, none, none, none, none, none, none, none, none, none, none, none, none, none, none, none, some (some 62)])),
  .inl (0, 12),
  .inr (.inr (7, [none, none, none, none, none, none, none, none, none, none, none, none, none, none, none, none, none, some (some 64)])),
  .inl (0, 12),
  .inr (.inr (7, [none, none, none, none, none, none, none, none, none, none, none, none, none, none, none, none, none, some (some 66)])),
  .inl (0, 12),
  .inr (.inr (7, [none, none, none, none, none, none, none, none, none, none, none, none, none, none, none, none, none, some (some 68)])),
  .inl (0, 12),
  .inr (.inr (2, [some (some 11), some (some 70), some (some 5), some (some 13), some (some 25)])),
  .inr (.inr (4, [some (some 11), some (some 13), some (some 25)])),
  .inr (.inr (0, [some (some 11), some (some 72), none, none, none])),
  .inl (0, 2048),
  .inr (.inr (2, [some (some 40), some (some 74), some (some 5), some (some 42), some (some 54)])),
  .inr (.inr (4, [some (some 40), some (some 42), some (some 54)])),
  .inr (.inr (9, [some (some 76), some (some 82), some (some 95), some (some 83), some (some 91), some (some 92), some (some 94), some (some 97), none])),
  .inr (.inr (6, [some (some 77), some (some 78), some (some 79), some (some 80), some (some 81)])),
  .inl (0, 10),
  .inl (0, 10),
  .inl (0, 10),
  .inl (0, 640),
  .inl (0, 10),
  .inl (0, 6),
  .inr (.inr (5, [some (some 84), some (some 85), some (some 86), some (some 87), some (some 88), some (some 89), some (some 90), none, none, none])),
  .inl (0, 256),
  .inl (0, 256),
  .inl (0, 256),
  .inl (0, 256),
  .inl (0, 256),
  .inl (0, 256),
  .inl (0, 256),
  .inr (.inl (6, fun k => if k < 6 then some (81 + 17 + 2 * k) else none)),
  .inr (.inr (1, [some (some 93), none])),
  .inl (0, 160),
  .inl (0, 12),
  .inr (.inr (3, [some (some 96)])),
  .inl (0, 2048),
  .inr (.inr (8, [some (some 95), none, none, none])),
  .inr (.inr (7, [none, none, none, none, none, none, none, none, none, none, none, none, none, none, none, none, none, some (some 99)])),
  .inl (0, 12),
  .inr (.inr (7, [none, none, none, none, none, none, none, none, none, none, none, none, none, none, none, none, none, some (some 101)])),
  .inl (0, 12),
  .inr (.inr (7, [none, none, none, none, none, none, none, none, none, none, none, none, none, none, none, none, none, some (some 103)])),
  .inl (0, 12),
  .inr (.inr (7, [none, none, none, none, none, none, none, none, none, none, none, none, none, none, none, none, none, some (some 105)])),
  .inl (0, 12),
  .inr (.inr (7, [none, none, none, none, none, none, none, none, none, none, none, none, none, none, none, none, none, some (some 107)])),
  .inl (0, 12),
  .inr (.inr (7, [none, none, none, none, none, none, none, none, none, none, none, none, none, none, none, none, none, some (some 109)])),
  .inl (0, 12),
  .inr (.inr (11, [some (some 111), some (some 112), some (some 113), some (some 114), none, none, some (some 115), some (some 116), some (some 117), none, none, none, none, none, some (some 118)])),
  .inl (0, 4073),
  .inl (0, 4073),
  .inl (0, 4073),
  .inl (0, 20200),
  .inl (0, 256),
  .inl (0, 256),
  .inl (0, 256),
  .inl (1, 2048)]
def wt_B (b : Nat) : Prop := b = 11 ∨ b = 40
def wt_C (b : Nat) : Prop := b = 11 ∨ b = 40 ∨ b = 81
def wt_T (t : Nat) : Prop := ∃ b k, wt_C b ∧ k < 6 ∧ t = b + 17 + 2 * k
def wt_Q (q : Nat) : Prop := q = 5 ∨ q = 76
def wt_mc (b : Nat) : Nat := if b = 11 then 69 else 73
def wt_mv (b : Nat) : Nat := if b = 11 then 70 else 74
def wt_wo (b : Nat) : Nat := if b = 81 then 75 else b
def wt_mz (b : Nat) : Nat := if b = 40 then 10000 else 2048
def wt_N : Nat := 2100000000
theorem wt_BC {b : Nat} (h : wt_B b) : wt_C b := h.elim Or.inl (fun q => Or.inr (Or.inl q))
theorem wt_B11 : wt_B 11 := Or.inl rfl
theorem wt_B40 : wt_B 40 := Or.inr rfl
theorem wt_C11 : wt_C 11 := Or.inl rfl
theorem wt_C40 : wt_C 40 := Or.inr (Or.inl rfl)
theorem wt_C81 : wt_C 81 := Or.inr (Or.inr rfl)
theorem wt_Q5 : wt_Q 5 := Or.inl rfl
theorem wt_Q76 : wt_Q 76 := Or.inr rfl
theorem wt_Tk {b k : Nat} (hb : wt_C b) (hk : k < 6) : wt_T (b + 17 + 2 * k) := ⟨b, k, hb, hk, rfl⟩
theorem wt_sWorldB {L b : Nat} (h : wt_B b) : wt_at (wt_H L) (wt_wo b) (.inr (.inr (9, [some (some 5), some (some (b + 1)), some (some (b + 14)), some (some (b + 2)), some (some (b + 10)), some (some (b + 11)), some (some (b + 13)), some (some (b + 16)), none]))) := by
  rcases h with rfl | rfl <;> exact ⟨rfl, rfl⟩
theorem wt_sWorld {L b : Nat} (h : wt_C b) : wt_at (wt_H L) (wt_wo b) (.inr (.inr (9, [some (some (if b = 81 then 76 else 5)), some (some (b + 1)), some (some (b + 14)), some (some (b + 2)), some (some (b + 10)), some (some (b + 11)), some (some (b + 13)), some (some (b + 16)), none]))) := by
  rcases h with rfl | rfl | rfl <;> exact ⟨rfl, rfl⟩
theorem wt_sMachine {L b : Nat} (h : wt_B b) : wt_at (wt_H L) (wt_mc b) (.inr (.inr (2, [some (some (wt_wo b)), some (some (wt_mv b)), some (some 5), some (some (b + 2)), some (some (b + 14))]))) := by
  rcases h with rfl | rfl <;> exact ⟨rfl, rfl⟩
theorem wt_sMover {L b : Nat} (h : wt_B b) : wt_at (wt_H L) (wt_mv b) (.inr (.inr (4, [some (some (wt_wo b)), some (some (b + 2)), some (some (b + 14))]))) := by
  rcases h with rfl | rfl <;> exact ⟨rfl, rfl⟩
theorem wt_sPieces {L b : Nat} (h : wt_C b) : wt_at (wt_H L) (b + 2) (.inr (.inr (5, [some (some (b + 3)), some (some (b + 4)), some (some (b + 5)), some (some (b + 6)), some (some (b + 7)), some (some (b + 8)), some (some (b + 9)), none, none, none]))) := by
  rcases h with rfl | rfl | rfl <;> exact ⟨rfl, rfl⟩
theorem wt_sMemory {L b : Nat} (h : wt_C b) : wt_at (wt_H L) (b + 14) (.inr (.inr (3, [some (some (b + 15))]))) := by
  rcases h with rfl | rfl | rfl <;> exact ⟨rfl, rfl⟩
theorem wt_sLog {L b : Nat} (h : wt_C b) : wt_at (wt_H L) (b + 11) (.inr (.inr (1, [some (some (b + 12)), none]))) := by
  rcases h with rfl | rfl | rfl <;> exact ⟨rfl, rfl⟩
theorem wt_sWalk {L b : Nat} (h : wt_C b) : wt_at (wt_H L) (b + 16) (.inr (.inr (8, [some (some (b + 14)), none, none, none]))) := by
  rcases h with rfl | rfl | rfl <;> exact ⟨rfl, rfl⟩
theorem wt_r3 {L b : Nat} (h : wt_C b) : wt_at (wt_H L) (b + 3) (.inl (0, 256)) := by
  rcases h with rfl | rfl | rfl <;> exact ⟨rfl, rfl⟩
theorem wt_r4 {L b : Nat} (h : wt_C b) : wt_at (wt_H L) (b + 4) (.inl (0, 256)) := by
  rcases h with rfl | rfl | rfl <;> exact ⟨rfl, rfl⟩
theorem wt_r5 {L b : Nat} (h : wt_C b) : wt_at (wt_H L) (b + 5) (.inl (0, 256)) := by
  rcases h with rfl | rfl | rfl <;> exact ⟨rfl, rfl⟩
theorem wt_r6 {L b : Nat} (h : wt_C b) : wt_at (wt_H L) (b + 6) (.inl (0, 256)) := by
  rcases h with rfl | rfl | rfl <;> exact ⟨rfl, rfl⟩
theorem wt_r7 {L b : Nat} (h : wt_C b) : wt_at (wt_H L) (b + 7) (.inl (0, 256)) := by
  rcases h with rfl | rfl | rfl <;> exact ⟨rfl, rfl⟩
theorem wt_r8 {L b : Nat} (h : wt_C b) : wt_at (wt_H L) (b + 8) (.inl (0, 256)) := by
  rcases h with rfl | rfl | rfl <;> exact ⟨rfl, rfl⟩
theorem wt_r9 {L b : Nat} (h : wt_C b) : wt_at (wt_H L) (b + 9) (.inl (0, 256)) := by
  rcases h with rfl | rfl | rfl <;> exact ⟨rfl, rfl⟩
theorem wt_r1 {L b : Nat} (h : wt_C b) : wt_at (wt_H L) (b + 1) (.inl (0, 6)) := by
  rcases h with rfl | rfl | rfl <;> exact ⟨rfl, rfl⟩
theorem wt_r12 {L b : Nat} (h : wt_C b) : wt_at (wt_H L) (b + 12) (.inl (0, 160)) := by
  rcases h with rfl | rfl | rfl <;> exact ⟨rfl, rfl⟩
theorem wt_r13 {L b : Nat} (h : wt_C b) : wt_at (wt_H L) (b + 13) (.inl (0, 12)) := by
  rcases h with rfl | rfl | rfl <;> exact ⟨rfl, rfl⟩
theorem wt_r15 {L b : Nat} (h : wt_C b) : wt_at (wt_H L) (b + 15) (.inl (0, wt_mz b)) := by
  rcases h with rfl | rfl | rfl <;> exact ⟨rfl, rfl⟩
theorem wt_r10 {L b : Nat} (h : wt_C b) : wt_at (wt_H L) (b + 10) (.inr (.inl (6, fun k => if k < 6 then some (b + 17 + 2 * k) else none))) := by
  rcases h with rfl | rfl | rfl <;> exact ⟨rfl, rfl⟩
theorem wt_sQ {L b : Nat} (h : wt_Q b) : wt_at (wt_H L) b (.inr (.inr (6, [some (some (b + 1)), some (some (b + 2)), some (some (b + 3)), some (some (b + 4)), some (some (b + 5))]))) := by
  rcases h with rfl | rfl <;> exact ⟨rfl, rfl⟩
theorem wt_q1 {L b : Nat} (h : wt_Q b) : wt_at (wt_H L) (b + 1) (.inl (0, 10)) := by
  rcases h with rfl | rfl <;> exact ⟨rfl, rfl⟩
theorem wt_q2 {L b : Nat} (h : wt_Q b) : wt_at (wt_H L) (b + 2) (.inl (0, 10)) := by
  rcases h with rfl | rfl <;> exact ⟨rfl, rfl⟩
theorem wt_q3 {L b : Nat} (h : wt_Q b) : wt_at (wt_H L) (b + 3) (.inl (0, 10)) := by
  rcases h with rfl | rfl <;> exact ⟨rfl, rfl⟩
theorem wt_q4 {L b : Nat} (h : wt_Q b) : wt_at (wt_H L) (b + 4) (.inl (0, 640)) := by
  rcases h with rfl | rfl <;> exact ⟨rfl, rfl⟩
theorem wt_q5 {L b : Nat} (h : wt_Q b) : wt_at (wt_H L) (b + 5) (.inl (0, 10)) := by
  rcases h with rfl | rfl <;> exact ⟨rfl, rfl⟩
theorem wt_sT {L t : Nat} (h : wt_T t) : wt_at (wt_H L) t (.inr (.inr (7, [none, none, none, none, none, none, none, none, none, none, none, none, none, none, none, none, none, some (some (t + 1))]))) := by
  obtain ⟨b, k, hb, hk, rfl⟩ := h
  have : k = 0 ∨ k = 1 ∨ k = 2 ∨ k = 3 ∨ k = 4 ∨ k = 5 := by omega
  rcases hb with rfl | rfl | rfl <;> rcases this with rfl | rfl | rfl | rfl | rfl | rfl <;> exact ⟨rfl, rfl⟩
theorem wt_t1 {L t : Nat} (h : wt_T t) : wt_at (wt_H L) (t + 1) (.inl (0, 12)) := by
  obtain ⟨b, k, hb, hk, rfl⟩ := h
  have : k = 0 ∨ k = 1 ∨ k = 2 ∨ k = 3 ∨ k = 4 ∨ k = 5 := by omega
  rcases hb with rfl | rfl | rfl <;> rcases this with rfl | rfl | rfl | rfl | rfl | rfl <;> exact ⟨rfl, rfl⟩
theorem wt_sG {L : Nat} : wt_at (wt_H L) 71 (.inr (.inr (0, [some (some 11), some (some 72), none, none, none]))) := ⟨rfl, rfl⟩
theorem wt_r72 {L : Nat} : wt_at (wt_H L) 72 (.inl (0, 2048)) := ⟨rfl, rfl⟩
theorem wt_s4 {L : Nat} : wt_at (wt_H L) 4 (.inr (.inr (10, [some (some 11), some (some 69), some (some 71), some (some 40), some (some 73), some (some 75), none]))) := ⟨rfl, rfl⟩
theorem wt_s110 {L : Nat} : wt_at (wt_H L) 110 (.inr (.inr (11, [some (some 111), some (some 112), some (some 113), some (some 114), none, none, some (some 115), some (some 116), some (some 117), none, none, none, none, none, some (some 118)]))) := ⟨rfl, rfl⟩
theorem wt_m111 {L : Nat} : wt_at (wt_H L) 111 (.inl (0, 4073)) := ⟨rfl, rfl⟩
theorem wt_m112 {L : Nat} : wt_at (wt_H L) 112 (.inl (0, 4073)) := ⟨rfl, rfl⟩
theorem wt_m113 {L : Nat} : wt_at (wt_H L) 113 (.inl (0, 4073)) := ⟨rfl, rfl⟩
theorem wt_m114 {L : Nat} : wt_at (wt_H L) 114 (.inl (0, 20200)) := ⟨rfl, rfl⟩
theorem wt_m115 {L : Nat} : wt_at (wt_H L) 115 (.inl (0, 256)) := ⟨rfl, rfl⟩
theorem wt_m116 {L : Nat} : wt_at (wt_H L) 116 (.inl (0, 256)) := ⟨rfl, rfl⟩
theorem wt_m117 {L : Nat} : wt_at (wt_H L) 117 (.inl (0, 256)) := ⟨rfl, rfl⟩
theorem wt_m118 {L : Nat} : wt_at (wt_H L) 118 (.inl (1, 2048)) := ⟨rfl, rfl⟩
theorem wt_o1 {L : Nat} : mj_nth (wt_H L) 1 = some (.inl (0, 6)) := rfl
theorem wt_o2 {L : Nat} : mj_nth (wt_H L) 2 = some (.inl (0, 6)) := rfl
theorem wt_o3 {L : Nat} : mj_nth (wt_H L) 3 = some (.inl (0, 6)) := rfl
theorem wt_o0 {L : Nat} : mj_nth (wt_H L) 0 = some (.inl (0, L)) := rfl
theorem jX0_init : mj_cds[0]? = some kX0_init := by rw [← mj_nth_eq]; rfl
theorem jX0_mark : mj_cds[1]? = some kX0_mark := by rw [← mj_nth_eq]; rfl
theorem jX0_marksAt : mj_cds[2]? = some kX0_marksAt := by rw [← mj_nth_eq]; rfl
theorem jX0_goToLast : mj_cds[3]? = some kX0_goToLast := by rw [← mj_nth_eq]; rfl
theorem jX0_goToCaller : mj_cds[4]? = some kX0_goToCaller := by rw [← mj_nth_eq]; rfl
theorem jX0_wrongPlaces : mj_cds[5]? = some kX0_wrongPlaces := by rw [← mj_nth_eq]; rfl
theorem jX0_markNumbers : mj_cds[6]? = some kX0_markNumbers := by rw [← mj_nth_eq]; rfl
theorem jX0_wrongPointers : mj_cds[7]? = some kX0_wrongPointers := by rw [← mj_nth_eq]; rfl
theorem jX0_wrongFrames : mj_cds[8]? = some kX0_wrongFrames := by rw [← mj_nth_eq]; rfl
theorem jX0_markWords : mj_cds[9]? = some kX0_markWords := by rw [← mj_nth_eq]; rfl
theorem jX0_liesWell : mj_cds[10]? = some kX0_liesWell := by rw [← mj_nth_eq]; rfl
theorem jX1_init : mj_cds[11]? = some kX1_init := by rw [← mj_nth_eq]; rfl
theorem jX1_write : mj_cds[12]? = some kX1_write := by rw [← mj_nth_eq]; rfl
theorem jX1_read : mj_cds[13]? = some kX1_read := by rw [← mj_nth_eq]; rfl
theorem jX1_takeOver : mj_cds[14]? = some kX1_takeOver := by rw [← mj_nth_eq]; rfl
theorem jX2_init : mj_cds[15]? = some kX2_init := by rw [← mj_nth_eq]; rfl
theorem jX2_begin : mj_cds[16]? = some kX2_begin := by rw [← mj_nth_eq]; rfl
theorem jX2_makeStep : mj_cds[17]? = some kX2_makeStep := by rw [← mj_nth_eq]; rfl
theorem jX2_reckon : mj_cds[18]? = some kX2_reckon := by rw [← mj_nth_eq]; rfl
theorem jX2_callFunction : mj_cds[19]? = some kX2_callFunction := by rw [← mj_nth_eq]; rfl
theorem jX2_callForeign : mj_cds[20]? = some kX2_callForeign := by rw [← mj_nth_eq]; rfl
theorem jX2_endForeign : mj_cds[21]? = some kX2_endForeign := by rw [← mj_nth_eq]; rfl
theorem jX2_roomFor : mj_cds[22]? = some kX2_roomFor := by rw [← mj_nth_eq]; rfl
theorem jX2_enter : mj_cds[23]? = some kX2_enter := by rw [← mj_nth_eq]; rfl
theorem jX2_pushFrame : mj_cds[24]? = some kX2_pushFrame := by rw [← mj_nth_eq]; rfl
theorem jX2_leaveFrame : mj_cds[25]? = some kX2_leaveFrame := by rw [← mj_nth_eq]; rfl
theorem jX2_end : mj_cds[26]? = some kX2_end := by rw [← mj_nth_eq]; rfl
theorem jX3_init : mj_cds[27]? = some kX3_init := by rw [← mj_nth_eq]; rfl
theorem jX3_word : mj_cds[28]? = some kX3_word := by rw [← mj_nth_eq]; rfl
theorem jX3_put : mj_cds[29]? = some kX3_put := by rw [← mj_nth_eq]; rfl
theorem jX3_bring : mj_cds[30]? = some kX3_bring := by rw [← mj_nth_eq]; rfl
theorem jX3_takeOver : mj_cds[31]? = some kX3_takeOver := by rw [← mj_nth_eq]; rfl
theorem jX4_init : mj_cds[32]? = some kX4_init := by rw [← mj_nth_eq]; rfl
theorem jX4_moveInto : mj_cds[33]? = some kX4_moveInto := by rw [← mj_nth_eq]; rfl
theorem jX4_linkPiece : mj_cds[34]? = some kX4_linkPiece := by rw [← mj_nth_eq]; rfl
theorem jX4_leavePiece : mj_cds[35]? = some kX4_leavePiece := by rw [← mj_nth_eq]; rfl
theorem jX4_dropSpare : mj_cds[36]? = some kX4_dropSpare := by rw [← mj_nth_eq]; rfl
theorem jX4_keptWords : mj_cds[37]? = some kX4_keptWords := by rw [← mj_nth_eq]; rfl
theorem jX4_makeSmaller : mj_cds[38]? = some kX4_makeSmaller := by rw [← mj_nth_eq]; rfl
theorem jX4_joinPieces : mj_cds[39]? = some kX4_joinPieces := by rw [← mj_nth_eq]; rfl
theorem jX4_gather : mj_cds[40]? = some kX4_gather := by rw [← mj_nth_eq]; rfl
theorem jX4_bringOver : mj_cds[41]? = some kX4_bringOver := by rw [← mj_nth_eq]; rfl
theorem jX4_turnPlaces : mj_cds[42]? = some kX4_turnPlaces := by rw [← mj_nth_eq]; rfl
theorem jX4_doubled : mj_cds[43]? = some kX4_doubled := by rw [← mj_nth_eq]; rfl
theorem jX5_init : mj_cds[44]? = some kX5_init := by rw [← mj_nth_eq]; rfl
theorem jX5_clear : mj_cds[45]? = some kX5_clear := by rw [← mj_nth_eq]; rfl
theorem jX5_placeOf : mj_cds[46]? = some kX5_placeOf := by rw [← mj_nth_eq]; rfl
theorem jX5_wordsOf : mj_cds[47]? = some kX5_wordsOf := by rw [← mj_nth_eq]; rfl
theorem jX5_usedOf : mj_cds[48]? = some kX5_usedOf := by rw [← mj_nth_eq]; rfl
theorem jX5_belowOf : mj_cds[49]? = some kX5_belowOf := by rw [← mj_nth_eq]; rfl
theorem jX5_ownerOf : mj_cds[50]? = some kX5_ownerOf := by rw [← mj_nth_eq]; rfl
theorem jX5_shiftOf : mj_cds[51]? = some kX5_shiftOf := by rw [← mj_nth_eq]; rfl
theorem jX5_endOf : mj_cds[52]? = some kX5_endOf := by rw [← mj_nth_eq]; rfl
theorem jX5_topOf : mj_cds[53]? = some kX5_topOf := by rw [← mj_nth_eq]; rfl
theorem jX5_use : mj_cds[54]? = some kX5_use := by rw [← mj_nth_eq]; rfl
theorem jX5_putOver : mj_cds[55]? = some kX5_putOver := by rw [← mj_nth_eq]; rfl
theorem jX5_aimAt : mj_cds[56]? = some kX5_aimAt := by rw [← mj_nth_eq]; rfl
theorem jX5_settle : mj_cds[57]? = some kX5_settle := by rw [← mj_nth_eq]; rfl
theorem jX5_idAt : mj_cds[58]? = some kX5_idAt := by rw [← mj_nth_eq]; rfl
theorem jX5_gapFrom : mj_cds[59]? = some kX5_gapFrom := by rw [← mj_nth_eq]; rfl
theorem jX5_gapTo : mj_cds[60]? = some kX5_gapTo := by rw [← mj_nth_eq]; rfl
theorem jX5_take : mj_cds[61]? = some kX5_take := by rw [← mj_nth_eq]; rfl
theorem jX5_insert : mj_cds[62]? = some kX5_insert := by rw [← mj_nth_eq]; rfl
theorem jX5_giveBack : mj_cds[63]? = some kX5_giveBack := by rw [← mj_nth_eq]; rfl
theorem jX5_rankOf : mj_cds[64]? = some kX5_rankOf := by rw [← mj_nth_eq]; rfl
theorem jX5_holding : mj_cds[65]? = some kX5_holding := by rw [← mj_nth_eq]; rfl
theorem jX5_turned : mj_cds[66]? = some kX5_turned := by rw [← mj_nth_eq]; rfl
theorem jX5_indexOf : mj_cds[67]? = some kX5_indexOf := by rw [← mj_nth_eq]; rfl
theorem jX5_gaps : mj_cds[68]? = some kX5_gaps := by rw [← mj_nth_eq]; rfl
theorem jX5_gapFact : mj_cds[69]? = some kX5_gapFact := by rw [← mj_nth_eq]; rfl
theorem jX5_greatestGap : mj_cds[70]? = some kX5_greatestGap := by rw [← mj_nth_eq]; rfl
theorem jX5_takeOver : mj_cds[71]? = some kX5_takeOver := by rw [← mj_nth_eq]; rfl
theorem jX6_init : mj_cds[72]? = some kX6_init := by rw [← mj_nth_eq]; rfl
theorem jX6_told : mj_cds[73]? = some kX6_told := by rw [← mj_nth_eq]; rfl
theorem jX6_sizeOf : mj_cds[74]? = some kX6_sizeOf := by rw [← mj_nth_eq]; rfl
theorem jX6_linesOf : mj_cds[75]? = some kX6_linesOf := by rw [← mj_nth_eq]; rfl
theorem jX6_deepOf : mj_cds[76]? = some kX6_deepOf := by rw [← mj_nth_eq]; rfl
theorem jX6_frameWords : mj_cds[77]? = some kX6_frameWords := by rw [← mj_nth_eq]; rfl
theorem jX6_hasSlot : mj_cds[78]? = some kX6_hasSlot := by rw [← mj_nth_eq]; rfl
theorem jX6_isPointer : mj_cds[79]? = some kX6_isPointer := by rw [← mj_nth_eq]; rfl
theorem jX6_hasNumber : mj_cds[80]? = some kX6_hasNumber := by rw [← mj_nth_eq]; rfl
theorem jX6_hasPointer : mj_cds[81]? = some kX6_hasPointer := by rw [← mj_nth_eq]; rfl
theorem jX6_part : mj_cds[82]? = some kX6_part := by rw [← mj_nth_eq]; rfl
theorem jX6_tell : mj_cds[83]? = some kX6_tell := by rw [← mj_nth_eq]; rfl
theorem jX6_allows : mj_cds[84]? = some kX6_allows := by rw [← mj_nth_eq]; rfl
theorem jX6_append : mj_cds[85]? = some kX6_append := by rw [← mj_nth_eq]; rfl
theorem jX6_findDeeps : mj_cds[86]? = some kX6_findDeeps := by rw [← mj_nth_eq]; rfl
theorem jX6_deepByLines : mj_cds[87]? = some kX6_deepByLines := by rw [← mj_nth_eq]; rfl
theorem jX6_calledBy : mj_cds[88]? = some kX6_calledBy := by rw [← mj_nth_eq]; rfl
theorem jX6_toldFunctions : mj_cds[89]? = some kX6_toldFunctions := by rw [← mj_nth_eq]; rfl
theorem jX6_toldLines : mj_cds[90]? = some kX6_toldLines := by rw [← mj_nth_eq]; rfl
theorem jX6_takeOver : mj_cds[91]? = some kX6_takeOver := by rw [← mj_nth_eq]; rfl
theorem jX7_init : mj_cds[92]? = some kX7_init := by rw [← mj_nth_eq]; rfl
theorem jX7_on : mj_cds[93]? = some kX7_on := by rw [← mj_nth_eq]; rfl
theorem jX7_clear : mj_cds[94]? = some kX7_clear := by rw [← mj_nth_eq]; rfl
theorem jX7_dropStack : mj_cds[95]? = some kX7_dropStack := by rw [← mj_nth_eq]; rfl
theorem jX7_takeOver : mj_cds[96]? = some kX7_takeOver := by rw [← mj_nth_eq]; rfl
theorem jX8_init : mj_cds[97]? = some kX8_init := by rw [← mj_nth_eq]; rfl
theorem jX8_toLast : mj_cds[98]? = some kX8_toLast := by rw [← mj_nth_eq]; rfl
theorem jX8_toCaller : mj_cds[99]? = some kX8_toCaller := by rw [← mj_nth_eq]; rfl
theorem jX8_toFrame : mj_cds[100]? = some kX8_toFrame := by rw [← mj_nth_eq]; rfl
theorem jX8_toPlace : mj_cds[101]? = some kX8_toPlace := by rw [← mj_nth_eq]; rfl
theorem jX9_init : mj_cds[102]? = some kX9_init := by rw [← mj_nth_eq]; rfl
theorem jX9_clear : mj_cds[103]? = some kX9_clear := by rw [← mj_nth_eq]; rfl
theorem jX9_takeOver : mj_cds[104]? = some kX9_takeOver := by rw [← mj_nth_eq]; rfl
theorem jX9_add : mj_cds[105]? = some kX9_add := by rw [← mj_nth_eq]; rfl
theorem jX9_writeLog : mj_cds[106]? = some kX9_writeLog := by rw [← mj_nth_eq]; rfl
theorem jX9_busy : mj_cds[107]? = some kX9_busy := by rw [← mj_nth_eq]; rfl
theorem jX9_tasksThatAre : mj_cds[108]? = some kX9_tasksThatAre := by rw [← mj_nth_eq]; rfl
theorem jX9_sidesTaken : mj_cds[109]? = some kX9_sidesTaken := by rw [← mj_nth_eq]; rfl
theorem jX9_freeSide : mj_cds[110]? = some kX9_freeSide := by rw [← mj_nth_eq]; rfl
theorem jX9_covers : mj_cds[111]? = some kX9_covers := by rw [← mj_nth_eq]; rfl
theorem jX9_needOf : mj_cds[112]? = some kX9_needOf := by rw [← mj_nth_eq]; rfl
theorem jX9_lastCovered : mj_cds[113]? = some kX9_lastCovered := by rw [← mj_nth_eq]; rfl
theorem jX9_piecesOf : mj_cds[114]? = some kX9_piecesOf := by rw [← mj_nth_eq]; rfl
theorem jX9_wordsOf : mj_cds[115]? = some kX9_wordsOf := by rw [← mj_nth_eq]; rfl
theorem jX9_pieceOf : mj_cds[116]? = some kX9_pieceOf := by rw [← mj_nth_eq]; rfl
theorem jX9_releasePieces : mj_cds[117]? = some kX9_releasePieces := by rw [← mj_nth_eq]; rfl
theorem jX10_init : mj_cds[118]? = some kX10_init := by rw [← mj_nth_eq]; rfl
theorem jX10_set : mj_cds[119]? = some kX10_set := by rw [← mj_nth_eq]; rfl
theorem jX10_function : mj_cds[120]? = some kX10_function := by rw [← mj_nth_eq]; rfl
theorem jX10_line : mj_cds[121]? = some kX10_line := by rw [← mj_nth_eq]; rfl
theorem jX10_start : mj_cds[122]? = some kX10_start := by rw [← mj_nth_eq]; rfl
theorem jX10_step : mj_cds[123]? = some kX10_step := by rw [← mj_nth_eq]; rfl
theorem jX10_round : mj_cds[124]? = some kX10_round := by rw [← mj_nth_eq]; rfl
theorem jX10_stop : mj_cds[125]? = some kX10_stop := by rw [← mj_nth_eq]; rfl
theorem jX10_quiet : mj_cds[126]? = some kX10_quiet := by rw [← mj_nth_eq]; rfl
theorem jX10_join : mj_cds[127]? = some kX10_join := by rw [← mj_nth_eq]; rfl
theorem jX10_compact : mj_cds[128]? = some kX10_compact := by rw [← mj_nth_eq]; rfl
theorem jX10_deep : mj_cds[129]? = some kX10_deep := by rw [← mj_nth_eq]; rfl
theorem jX10_need : mj_cds[130]? = some kX10_need := by rw [← mj_nth_eq]; rfl
theorem jX10_task : mj_cds[131]? = some kX10_task := by rw [← mj_nth_eq]; rfl
theorem jX10_frame : mj_cds[132]? = some kX10_frame := by rw [← mj_nth_eq]; rfl
theorem jX10_slot : mj_cds[133]? = some kX10_slot := by rw [← mj_nth_eq]; rfl
theorem jX10_piece : mj_cds[134]? = some kX10_piece := by rw [← mj_nth_eq]; rfl
theorem jX10_gap : mj_cds[135]? = some kX10_gap := by rw [← mj_nth_eq]; rfl
theorem jX10_endless : mj_cds[136]? = some kX10_endless := by rw [← mj_nth_eq]; rfl
theorem jX10_land : mj_cds[137]? = some kX10_land := by rw [← mj_nth_eq]; rfl
theorem jX10_alone : mj_cds[138]? = some kX10_alone := by rw [← mj_nth_eq]; rfl
theorem jX10_log : mj_cds[139]? = some kX10_log := by rw [← mj_nth_eq]; rfl
theorem jX10_never : mj_cds[140]? = some kX10_never := by rw [← mj_nth_eq]; rfl
theorem jX10_count : mj_cds[141]? = some kX10_count := by rw [← mj_nth_eq]; rfl
theorem jX10_image : mj_cds[142]? = some kX10_image := by rw [← mj_nth_eq]; rfl
theorem jX10_look : mj_cds[143]? = some kX10_look := by rw [← mj_nth_eq]; rfl
theorem jX10_isTask : mj_cds[144]? = some kX10_isTask := by rw [← mj_nth_eq]; rfl
theorem jX10_isFunction : mj_cds[145]? = some kX10_isFunction := by rw [← mj_nth_eq]; rfl
theorem jX10_hasFrame : mj_cds[146]? = some kX10_hasFrame := by rw [← mj_nth_eq]; rfl
theorem jX10_compareResults : mj_cds[147]? = some kX10_compareResults := by rw [← mj_nth_eq]; rfl
theorem jX10_thinkEndless : mj_cds[148]? = some kX10_thinkEndless := by rw [← mj_nth_eq]; rfl
theorem jX10_thinkAlone : mj_cds[149]? = some kX10_thinkAlone := by rw [← mj_nth_eq]; rfl
theorem jX10_leastFirstFor : mj_cds[150]? = some kX10_leastFirstFor := by rw [← mj_nth_eq]; rfl
theorem jX11_isIn : mj_cds[151]? = some kX11_isIn := by rw [← mj_nth_eq]; rfl
theorem jX11_has : mj_cds[152]? = some kX11_has := by rw [← mj_nth_eq]; rfl
theorem jX11_copies : mj_cds[153]? = some kX11_copies := by rw [← mj_nth_eq]; rfl
theorem jX11_init : mj_cds[154]? = some kX11_init := by rw [← mj_nth_eq]; rfl
theorem jX11_clears : mj_cds[155]? = some kX11_clears := by rw [← mj_nth_eq]; rfl
theorem jX11_word : mj_cds[156]? = some kX11_word := by rw [← mj_nth_eq]; rfl
theorem jX11_lays : mj_cds[157]? = some kX11_lays := by rw [← mj_nth_eq]; rfl
theorem jX11_counts : mj_cds[158]? = some kX11_counts := by rw [← mj_nth_eq]; rfl
theorem jX11_logs : mj_cds[159]? = some kX11_logs := by rw [← mj_nth_eq]; rfl
theorem jX11_isBusy : mj_cds[160]? = some kX11_isBusy := by rw [← mj_nth_eq]; rfl
theorem jX11_isAnyBusy : mj_cds[161]? = some kX11_isAnyBusy := by rw [← mj_nth_eq]; rfl
theorem jX11_canBe : mj_cds[162]? = some kX11_canBe := by rw [← mj_nth_eq]; rfl
theorem jX11_set : mj_cds[163]? = some kX11_set := by rw [← mj_nth_eq]; rfl
theorem jX11_isFunction : mj_cds[164]? = some kX11_isFunction := by rw [← mj_nth_eq]; rfl
theorem jX11_isTold : mj_cds[165]? = some kX11_isTold := by rw [← mj_nth_eq]; rfl
theorem jX11_function : mj_cds[166]? = some kX11_function := by rw [← mj_nth_eq]; rfl
theorem jX11_isSlot : mj_cds[167]? = some kX11_isSlot := by rw [← mj_nth_eq]; rfl
theorem jX11_isPointer : mj_cds[168]? = some kX11_isPointer := by rw [← mj_nth_eq]; rfl
theorem jX11_isNumber : mj_cds[169]? = some kX11_isNumber := by rw [← mj_nth_eq]; rfl
theorem jX11_canLine : mj_cds[170]? = some kX11_canLine := by rw [← mj_nth_eq]; rfl
theorem jX11_codeAt : mj_cds[171]? = some kX11_codeAt := by rw [← mj_nth_eq]; rfl
theorem jX11_line : mj_cds[172]? = some kX11_line := by rw [← mj_nth_eq]; rfl
theorem jX11_calledBy : mj_cds[173]? = some kX11_calledBy := by rw [← mj_nth_eq]; rfl
theorem jX11_reachedBy : mj_cds[174]? = some kX11_reachedBy := by rw [← mj_nth_eq]; rfl
theorem jX11_isEndlessOne : mj_cds[175]? = some kX11_isEndlessOne := by rw [← mj_nth_eq]; rfl
theorem jX11_frameOf : mj_cds[176]? = some kX11_frameOf := by rw [← mj_nth_eq]; rfl
theorem jX11_depth : mj_cds[177]? = some kX11_depth := by rw [← mj_nth_eq]; rfl
theorem jX11_deepOf : mj_cds[178]? = some kX11_deepOf := by rw [← mj_nth_eq]; rfl
theorem jX11_isMerged : mj_cds[179]? = some kX11_isMerged := by rw [← mj_nth_eq]; rfl
theorem jX11_needOf : mj_cds[180]? = some kX11_needOf := by rw [← mj_nth_eq]; rfl
theorem jX11_deep : mj_cds[181]? = some kX11_deep := by rw [← mj_nth_eq]; rfl
theorem jX11_need : mj_cds[182]? = some kX11_need := by rw [← mj_nth_eq]; rfl
theorem jX11_gapFor : mj_cds[183]? = some kX11_gapFor := by rw [← mj_nth_eq]; rfl
theorem jX11_shifts : mj_cds[184]? = some kX11_shifts := by rw [← mj_nth_eq]; rfl
theorem jX11_takes : mj_cds[185]? = some kX11_takes := by rw [← mj_nth_eq]; rfl
theorem jX11_gives : mj_cds[186]? = some kX11_gives := by rw [← mj_nth_eq]; rfl
theorem jX11_pieceOf : mj_cds[187]? = some kX11_pieceOf := by rw [← mj_nth_eq]; rfl
theorem jX11_pieceAt : mj_cds[188]? = some kX11_pieceAt := by rw [← mj_nth_eq]; rfl
theorem jX11_lastPiece : mj_cds[189]? = some kX11_lastPiece := by rw [← mj_nth_eq]; rfl
theorem jX11_givesAll : mj_cds[190]? = some kX11_givesAll := by rw [← mj_nth_eq]; rfl
theorem jX11_givesSpare : mj_cds[191]? = some kX11_givesSpare := by rw [← mj_nth_eq]; rfl
theorem jX11_isOut : mj_cds[192]? = some kX11_isOut := by rw [← mj_nth_eq]; rfl
theorem jX11_part : mj_cds[193]? = some kX11_part := by rw [← mj_nth_eq]; rfl
theorem jX11_goalOf : mj_cds[194]? = some kX11_goalOf := by rw [← mj_nth_eq]; rfl
theorem jX11_carries : mj_cds[195]? = some kX11_carries := by rw [← mj_nth_eq]; rfl
theorem jX11_turns : mj_cds[196]? = some kX11_turns := by rw [← mj_nth_eq]; rfl
theorem jX11_moves : mj_cds[197]? = some kX11_moves := by rw [← mj_nth_eq]; rfl
theorem jX11_isCovered : mj_cds[198]? = some kX11_isCovered := by rw [← mj_nth_eq]; rfl
theorem jX11_keptOf : mj_cds[199]? = some kX11_keptOf := by rw [← mj_nth_eq]; rfl
theorem jX11_quiets : mj_cds[200]? = some kX11_quiets := by rw [← mj_nth_eq]; rfl
theorem jX11_grows : mj_cds[201]? = some kX11_grows := by rw [← mj_nth_eq]; rfl
theorem jX11_topOf : mj_cds[202]? = some kX11_topOf := by rw [← mj_nth_eq]; rfl
theorem jX11_roomFor : mj_cds[203]? = some kX11_roomFor := by rw [← mj_nth_eq]; rfl
theorem jX11_calls : mj_cds[204]? = some kX11_calls := by rw [← mj_nth_eq]; rfl
theorem jX11_returns : mj_cds[205]? = some kX11_returns := by rw [← mj_nth_eq]; rfl
theorem jX11_leaves : mj_cds[206]? = some kX11_leaves := by rw [← mj_nth_eq]; rfl
theorem jX11_isDone : mj_cds[207]? = some kX11_isDone := by rw [← mj_nth_eq]; rfl
theorem jX11_foreignOver : mj_cds[208]? = some kX11_foreignOver := by rw [← mj_nth_eq]; rfl
theorem jX11_freeSide : mj_cds[209]? = some kX11_freeSide := by rw [← mj_nth_eq]; rfl
theorem jX11_hasSide : mj_cds[210]? = some kX11_hasSide := by rw [← mj_nth_eq]; rfl
theorem jX11_foreign : mj_cds[211]? = some kX11_foreign := by rw [← mj_nth_eq]; rfl
theorem jX11_steps : mj_cds[212]? = some kX11_steps := by rw [← mj_nth_eq]; rfl
theorem jX11_begins : mj_cds[213]? = some kX11_begins := by rw [← mj_nth_eq]; rfl
theorem jX11_isTask : mj_cds[214]? = some kX11_isTask := by rw [← mj_nth_eq]; rfl
theorem jX11_start : mj_cds[215]? = some kX11_start := by rw [← mj_nth_eq]; rfl
theorem jX11_runs : mj_cds[216]? = some kX11_runs := by rw [← mj_nth_eq]; rfl
theorem jX11_step : mj_cds[217]? = some kX11_step := by rw [← mj_nth_eq]; rfl
theorem jX11_round : mj_cds[218]? = some kX11_round := by rw [← mj_nth_eq]; rfl
theorem jX11_stop : mj_cds[219]? = some kX11_stop := by rw [← mj_nth_eq]; rfl
theorem jX11_quiet : mj_cds[220]? = some kX11_quiet := by rw [← mj_nth_eq]; rfl
theorem jX11_usedIn : mj_cds[221]? = some kX11_usedIn := by rw [← mj_nth_eq]; rfl
theorem jX11_join : mj_cds[222]? = some kX11_join := by rw [← mj_nth_eq]; rfl
theorem jX11_compact : mj_cds[223]? = some kX11_compact := by rw [← mj_nth_eq]; rfl
theorem jX11_piecesOf : mj_cds[224]? = some kX11_piecesOf := by rw [← mj_nth_eq]; rfl
theorem jX11_wordsOf : mj_cds[225]? = some kX11_wordsOf := by rw [← mj_nth_eq]; rfl
theorem jX11_task : mj_cds[226]? = some kX11_task := by rw [← mj_nth_eq]; rfl
theorem jX11_looksAt : mj_cds[227]? = some kX11_looksAt := by rw [← mj_nth_eq]; rfl
theorem jX11_goesBack : mj_cds[228]? = some kX11_goesBack := by rw [← mj_nth_eq]; rfl
theorem jX11_isFrame : mj_cds[229]? = some kX11_isFrame := by rw [← mj_nth_eq]; rfl
theorem jX11_frame : mj_cds[230]? = some kX11_frame := by rw [← mj_nth_eq]; rfl
theorem jX11_pointed : mj_cds[231]? = some kX11_pointed := by rw [← mj_nth_eq]; rfl
theorem jX11_slot : mj_cds[232]? = some kX11_slot := by rw [← mj_nth_eq]; rfl
theorem jX11_piece : mj_cds[233]? = some kX11_piece := by rw [← mj_nth_eq]; rfl
theorem jX11_gap : mj_cds[234]? = some kX11_gap := by rw [← mj_nth_eq]; rfl
theorem jX11_runsEndless : mj_cds[235]? = some kX11_runsEndless := by rw [← mj_nth_eq]; rfl
theorem jX11_endless : mj_cds[236]? = some kX11_endless := by rw [← mj_nth_eq]; rfl
theorem jX11_land : mj_cds[237]? = some kX11_land := by rw [← mj_nth_eq]; rfl
theorem jX11_runsAlone : mj_cds[238]? = some kX11_runsAlone := by rw [← mj_nth_eq]; rfl
theorem jX11_alone : mj_cds[239]? = some kX11_alone := by rw [← mj_nth_eq]; rfl
theorem jX11_log : mj_cds[240]? = some kX11_log := by rw [← mj_nth_eq]; rfl
theorem jX11_wrongWords : mj_cds[241]? = some kX11_wrongWords := by rw [← mj_nth_eq]; rfl
theorem jX11_wrongFrames : mj_cds[242]? = some kX11_wrongFrames := by rw [← mj_nth_eq]; rfl
theorem jX11_never : mj_cds[243]? = some kX11_never := by rw [← mj_nth_eq]; rfl
theorem jX11_count : mj_cds[244]? = some kX11_count := by rw [← mj_nth_eq]; rfl
theorem jX11_image : mj_cds[245]? = some kX11_image := by rw [← mj_nth_eq]; rfl
theorem jX11_greatestGap : mj_cds[246]? = some kX11_greatestGap := by rw [← mj_nth_eq]; rfl
theorem jX11_statesOf : mj_cds[247]? = some kX11_statesOf := by rw [← mj_nth_eq]; rfl
theorem jX11_told : mj_cds[248]? = some kX11_told := by rw [← mj_nth_eq]; rfl
theorem jX11_look : mj_cds[249]? = some kX11_look := by rw [← mj_nth_eq]; rfl
theorem jJ9_max_7cf53 : mj_cds[250]? = some kJ9_max_7cf53 := by rw [← mj_nth_eq]; rfl
theorem jJ9_min_7cf53 : mj_cds[251]? = some kJ9_min_7cf53 := by rw [← mj_nth_eq]; rfl
theorem jJ7_fill_53178 : mj_cds[252]? = some kJ7_fill_53178 := by rw [← mj_nth_eq]; rfl
theorem jL_law : mj_cds[253]? = some kL_law := by rw [← mj_nth_eq]; rfl
