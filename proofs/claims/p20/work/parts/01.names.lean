-- ===== PART A: goes FIRST, ahead of the names: the tables' words, and 'selects' of the private methods out of them =====
/-- a private method of a class that the tables say can be made, by its rows of tables_1 -/
def lw_okq (q : MethodName × Nat) : Prop := (q.1.cls ≠ "java/lang/invoke/MethodHandle" ∧ q.1.cls ≠ "java/lang/invoke/VarHandle") ∧ Cond.instantiable q.1.cls q.2 ∈ tables_1 ∧ Cond.privateMethod q.1 ∈ tables_1 ∧ Cond.instanceMethod q.1 ∈ tables_1
theorem lw_p0 : lw_okq (⟨"GrowingStacks$Program", "findDeeps", "()V"⟩, 5) := ⟨⟨by decide +kernel, by decide +kernel⟩, List.mem_of_getElem? (i := 25) (by decide +kernel), List.mem_of_getElem? (i := 453) (by decide +kernel), List.mem_of_getElem? (i := 454) (by decide +kernel)⟩
theorem lw_p1 : lw_okq (⟨"GrowingStacks$Program", "deepByLines", "(I)I"⟩, 5) := ⟨⟨by decide +kernel, by decide +kernel⟩, List.mem_of_getElem? (i := 25) (by decide +kernel), List.mem_of_getElem? (i := 457) (by decide +kernel), List.mem_of_getElem? (i := 458) (by decide +kernel)⟩
theorem lw_p2 : lw_okq (⟨"GrowingStacks$Program", "calledBy", "(II)I"⟩, 5) := ⟨⟨by decide +kernel, by decide +kernel⟩, List.mem_of_getElem? (i := 25) (by decide +kernel), List.mem_of_getElem? (i := 465) (by decide +kernel), List.mem_of_getElem? (i := 466) (by decide +kernel)⟩
theorem lw_p3 : lw_okq (⟨"GrowingStacks$Pieces", "insert", "(I)I"⟩, 10) := ⟨⟨by decide +kernel, by decide +kernel⟩, List.mem_of_getElem? (i := 54) (by decide +kernel), List.mem_of_getElem? (i := 557) (by decide +kernel), List.mem_of_getElem? (i := 558) (by decide +kernel)⟩
theorem lw_p4 : lw_okq (⟨"GrowingStacks$Machine", "roomFor", "(LGrowingStacks$Task;I)I"⟩, 5) := ⟨⟨by decide +kernel, by decide +kernel⟩, List.mem_of_getElem? (i := 342) (by decide +kernel), List.mem_of_getElem? (i := 563) (by decide +kernel), List.mem_of_getElem? (i := 564) (by decide +kernel)⟩
theorem lw_p5 : lw_okq (⟨"GrowingStacks$Mover", "dropSpare", "(LGrowingStacks$Task;)Z"⟩, 3) := ⟨⟨by decide +kernel, by decide +kernel⟩, List.mem_of_getElem? (i := 348) (by decide +kernel), List.mem_of_getElem? (i := 622) (by decide +kernel), List.mem_of_getElem? (i := 623) (by decide +kernel)⟩
theorem lw_p6 : lw_okq (⟨"GrowingStacks$Pieces", "rankOf", "(I)I"⟩, 10) := ⟨⟨by decide +kernel, by decide +kernel⟩, List.mem_of_getElem? (i := 54) (by decide +kernel), List.mem_of_getElem? (i := 630) (by decide +kernel), List.mem_of_getElem? (i := 631) (by decide +kernel)⟩
theorem lw_p7 : lw_okq (⟨"GrowingStacks$Mover", "turnPlaces", "(LGrowingStacks$Task;)V"⟩, 3) := ⟨⟨by decide +kernel, by decide +kernel⟩, List.mem_of_getElem? (i := 348) (by decide +kernel), List.mem_of_getElem? (i := 649) (by decide +kernel), List.mem_of_getElem? (i := 650) (by decide +kernel)⟩
theorem lw_p8 : lw_okq (⟨"GrowingStacks$Mover", "bringOver", "(I)V"⟩, 3) := ⟨⟨by decide +kernel, by decide +kernel⟩, List.mem_of_getElem? (i := 348) (by decide +kernel), List.mem_of_getElem? (i := 677) (by decide +kernel), List.mem_of_getElem? (i := 678) (by decide +kernel)⟩
theorem lw_p9 : lw_okq (⟨"GrowingStacks$Machine", "end", "(LGrowingStacks$Task;I)V"⟩, 5) := ⟨⟨by decide +kernel, by decide +kernel⟩, List.mem_of_getElem? (i := 342) (by decide +kernel), List.mem_of_getElem? (i := 692) (by decide +kernel), List.mem_of_getElem? (i := 693) (by decide +kernel)⟩
theorem lw_p10 : lw_okq (⟨"GrowingStacks$Machine", "pushFrame", "(LGrowingStacks$Task;II)V"⟩, 5) := ⟨⟨by decide +kernel, by decide +kernel⟩, List.mem_of_getElem? (i := 342) (by decide +kernel), List.mem_of_getElem? (i := 708) (by decide +kernel), List.mem_of_getElem? (i := 709) (by decide +kernel)⟩
theorem lw_p11 : lw_okq (⟨"GrowingStacks$Machine", "leaveFrame", "(LGrowingStacks$Task;I)V"⟩, 5) := ⟨⟨by decide +kernel, by decide +kernel⟩, List.mem_of_getElem? (i := 342) (by decide +kernel), List.mem_of_getElem? (i := 729) (by decide +kernel), List.mem_of_getElem? (i := 730) (by decide +kernel)⟩
theorem lw_p12 : lw_okq (⟨"GrowingStacks$Machine", "endForeign", "(LGrowingStacks$Task;I)V"⟩, 5) := ⟨⟨by decide +kernel, by decide +kernel⟩, List.mem_of_getElem? (i := 342) (by decide +kernel), List.mem_of_getElem? (i := 741) (by decide +kernel), List.mem_of_getElem? (i := 742) (by decide +kernel)⟩
theorem lw_p13 : lw_okq (⟨"GrowingStacks$Machine", "callFunction", "(LGrowingStacks$Task;I)I"⟩, 5) := ⟨⟨by decide +kernel, by decide +kernel⟩, List.mem_of_getElem? (i := 342) (by decide +kernel), List.mem_of_getElem? (i := 745) (by decide +kernel), List.mem_of_getElem? (i := 746) (by decide +kernel)⟩
theorem lw_p14 : lw_okq (⟨"GrowingStacks$Machine", "callForeign", "(LGrowingStacks$Task;I)I"⟩, 5) := ⟨⟨by decide +kernel, by decide +kernel⟩, List.mem_of_getElem? (i := 342) (by decide +kernel), List.mem_of_getElem? (i := 750) (by decide +kernel), List.mem_of_getElem? (i := 751) (by decide +kernel)⟩
theorem lw_p15 : lw_okq (⟨"GrowingStacks$Mover", "keptWords", "(LGrowingStacks$Task;)I"⟩, 3) := ⟨⟨by decide +kernel, by decide +kernel⟩, List.mem_of_getElem? (i := 348) (by decide +kernel), List.mem_of_getElem? (i := 762) (by decide +kernel), List.mem_of_getElem? (i := 763) (by decide +kernel)⟩
def lw_privs_1 : List (MethodName × Nat) := [(⟨"GrowingStacks$Program", "findDeeps", "()V"⟩, 5), (⟨"GrowingStacks$Program", "deepByLines", "(I)I"⟩, 5), (⟨"GrowingStacks$Program", "calledBy", "(II)I"⟩, 5), (⟨"GrowingStacks$Pieces", "insert", "(I)I"⟩, 10), (⟨"GrowingStacks$Machine", "roomFor", "(LGrowingStacks$Task;I)I"⟩, 5), (⟨"GrowingStacks$Mover", "dropSpare", "(LGrowingStacks$Task;)Z"⟩, 3), (⟨"GrowingStacks$Pieces", "rankOf", "(I)I"⟩, 10), (⟨"GrowingStacks$Mover", "turnPlaces", "(LGrowingStacks$Task;)V"⟩, 3), (⟨"GrowingStacks$Mover", "bringOver", "(I)V"⟩, 3), (⟨"GrowingStacks$Machine", "end", "(LGrowingStacks$Task;I)V"⟩, 5), (⟨"GrowingStacks$Machine", "pushFrame", "(LGrowingStacks$Task;II)V"⟩, 5), (⟨"GrowingStacks$Machine", "leaveFrame", "(LGrowingStacks$Task;I)V"⟩, 5), (⟨"GrowingStacks$Machine", "endForeign", "(LGrowingStacks$Task;I)V"⟩, 5), (⟨"GrowingStacks$Machine", "callFunction", "(LGrowingStacks$Task;I)I"⟩, 5), (⟨"GrowingStacks$Machine", "callForeign", "(LGrowingStacks$Task;I)I"⟩, 5), (⟨"GrowingStacks$Mover", "keptWords", "(LGrowingStacks$Task;)I"⟩, 3)]
theorem lw_r1 : ∀ q ∈ lw_privs_1, lw_okq q := List.forall_mem_cons.mpr ⟨lw_p0, List.forall_mem_cons.mpr ⟨lw_p1, List.forall_mem_cons.mpr ⟨lw_p2, List.forall_mem_cons.mpr ⟨lw_p3, List.forall_mem_cons.mpr ⟨lw_p4, List.forall_mem_cons.mpr ⟨lw_p5, List.forall_mem_cons.mpr ⟨lw_p6, List.forall_mem_cons.mpr ⟨lw_p7, List.forall_mem_cons.mpr ⟨lw_p8, List.forall_mem_cons.mpr ⟨lw_p9, List.forall_mem_cons.mpr ⟨lw_p10, List.forall_mem_cons.mpr ⟨lw_p11, List.forall_mem_cons.mpr ⟨lw_p12, List.forall_mem_cons.mpr ⟨lw_p13, List.forall_mem_cons.mpr ⟨lw_p14, List.forall_mem_cons.mpr ⟨lw_p15, fun _ h => absurd h List.not_mem_nil⟩⟩⟩⟩⟩⟩⟩⟩⟩⟩⟩⟩⟩⟩⟩⟩
theorem lw_p16 : lw_okq (⟨"GrowingStacks$Machine", "reckon", "(LGrowingStacks$Task;II)V"⟩, 5) := ⟨⟨by decide +kernel, by decide +kernel⟩, List.mem_of_getElem? (i := 342) (by decide +kernel), List.mem_of_getElem? (i := 768) (by decide +kernel), List.mem_of_getElem? (i := 769) (by decide +kernel)⟩
theorem lw_p17 : lw_okq (⟨"GrowingStacks$Machine", "enter", "(LGrowingStacks$Task;II)V"⟩, 5) := ⟨⟨by decide +kernel, by decide +kernel⟩, List.mem_of_getElem? (i := 342) (by decide +kernel), List.mem_of_getElem? (i := 772) (by decide +kernel), List.mem_of_getElem? (i := 773) (by decide +kernel)⟩
theorem lw_p18 : lw_okq (⟨"GrowingStacks", "thinkEndless", "(II)LGrowingStacks$Task;"⟩, 7) := ⟨⟨by decide +kernel, by decide +kernel⟩, List.mem_of_getElem? (i := 17) (by decide +kernel), List.mem_of_getElem? (i := 776) (by decide +kernel), List.mem_of_getElem? (i := 777) (by decide +kernel)⟩
theorem lw_p19 : lw_okq (⟨"GrowingStacks", "compareResults", "(LGrowingStacks$Task;LGrowingStacks$Task;)V"⟩, 7) := ⟨⟨by decide +kernel, by decide +kernel⟩, List.mem_of_getElem? (i := 17) (by decide +kernel), List.mem_of_getElem? (i := 782) (by decide +kernel), List.mem_of_getElem? (i := 783) (by decide +kernel)⟩
theorem lw_p20 : lw_okq (⟨"GrowingStacks", "hasFrame", "(II)Z"⟩, 7) := ⟨⟨by decide +kernel, by decide +kernel⟩, List.mem_of_getElem? (i := 17) (by decide +kernel), List.mem_of_getElem? (i := 855) (by decide +kernel), List.mem_of_getElem? (i := 856) (by decide +kernel)⟩
theorem lw_p21 : lw_okq (⟨"GrowingStacks", "thinkAlone", "(IIII)I"⟩, 7) := ⟨⟨by decide +kernel, by decide +kernel⟩, List.mem_of_getElem? (i := 17) (by decide +kernel), List.mem_of_getElem? (i := 943) (by decide +kernel), List.mem_of_getElem? (i := 944) (by decide +kernel)⟩
theorem lw_p22 : lw_okq (⟨"GrowingStacks$Guard", "markNumbers", "(LGrowingStacks$Task;)V"⟩, 5) := ⟨⟨by decide +kernel, by decide +kernel⟩, List.mem_of_getElem? (i := 381) (by decide +kernel), List.mem_of_getElem? (i := 969) (by decide +kernel), List.mem_of_getElem? (i := 970) (by decide +kernel)⟩
theorem lw_p23 : lw_okq (⟨"GrowingStacks$Guard", "goToLast", "(LGrowingStacks$Task;)V"⟩, 5) := ⟨⟨by decide +kernel, by decide +kernel⟩, List.mem_of_getElem? (i := 381) (by decide +kernel), List.mem_of_getElem? (i := 973) (by decide +kernel), List.mem_of_getElem? (i := 974) (by decide +kernel)⟩
theorem lw_p24 : lw_okq (⟨"GrowingStacks$Guard", "mark", "(I)V"⟩, 5) := ⟨⟨by decide +kernel, by decide +kernel⟩, List.mem_of_getElem? (i := 381) (by decide +kernel), List.mem_of_getElem? (i := 979) (by decide +kernel), List.mem_of_getElem? (i := 980) (by decide +kernel)⟩
theorem lw_p25 : lw_okq (⟨"GrowingStacks$Guard", "goToCaller", "()V"⟩, 5) := ⟨⟨by decide +kernel, by decide +kernel⟩, List.mem_of_getElem? (i := 381) (by decide +kernel), List.mem_of_getElem? (i := 983) (by decide +kernel), List.mem_of_getElem? (i := 984) (by decide +kernel)⟩
theorem lw_p26 : lw_okq (⟨"GrowingStacks$Guard", "wrongPointers", "()I"⟩, 5) := ⟨⟨by decide +kernel, by decide +kernel⟩, List.mem_of_getElem? (i := 381) (by decide +kernel), List.mem_of_getElem? (i := 992) (by decide +kernel), List.mem_of_getElem? (i := 993) (by decide +kernel)⟩
theorem lw_p27 : lw_okq (⟨"GrowingStacks$Guard", "marksAt", "(I)I"⟩, 5) := ⟨⟨by decide +kernel, by decide +kernel⟩, List.mem_of_getElem? (i := 381) (by decide +kernel), List.mem_of_getElem? (i := 996) (by decide +kernel), List.mem_of_getElem? (i := 997) (by decide +kernel)⟩
theorem lw_p28 : lw_okq (⟨"GrowingStacks$Guard", "markWords", "(LGrowingStacks$Task;)V"⟩, 5) := ⟨⟨by decide +kernel, by decide +kernel⟩, List.mem_of_getElem? (i := 381) (by decide +kernel), List.mem_of_getElem? (i := 1004) (by decide +kernel), List.mem_of_getElem? (i := 1005) (by decide +kernel)⟩
theorem lw_p29 : lw_okq (⟨"GrowingStacks$Guard", "liesWell", "(LGrowingStacks$Task;)Z"⟩, 5) := ⟨⟨by decide +kernel, by decide +kernel⟩, List.mem_of_getElem? (i := 381) (by decide +kernel), List.mem_of_getElem? (i := 1010) (by decide +kernel), List.mem_of_getElem? (i := 1011) (by decide +kernel)⟩
theorem lw_p30 : lw_okq (⟨"GrowingStacksModel", "clears", "(I)V"⟩, 15) := ⟨⟨by decide +kernel, by decide +kernel⟩, List.mem_of_getElem? (i := 1052) (by decide +kernel), List.mem_of_getElem? (i := 1058) (by decide +kernel), List.mem_of_getElem? (i := 1059) (by decide +kernel)⟩
theorem lw_p31 : lw_okq (⟨"GrowingStacksModel", "isAnyBusy", "()Z"⟩, 15) := ⟨⟨by decide +kernel, by decide +kernel⟩, List.mem_of_getElem? (i := 1052) (by decide +kernel), List.mem_of_getElem? (i := 1119) (by decide +kernel), List.mem_of_getElem? (i := 1120) (by decide +kernel)⟩
def lw_privs_2 : List (MethodName × Nat) := [(⟨"GrowingStacks$Machine", "reckon", "(LGrowingStacks$Task;II)V"⟩, 5), (⟨"GrowingStacks$Machine", "enter", "(LGrowingStacks$Task;II)V"⟩, 5), (⟨"GrowingStacks", "thinkEndless", "(II)LGrowingStacks$Task;"⟩, 7), (⟨"GrowingStacks", "compareResults", "(LGrowingStacks$Task;LGrowingStacks$Task;)V"⟩, 7), (⟨"GrowingStacks", "hasFrame", "(II)Z"⟩, 7), (⟨"GrowingStacks", "thinkAlone", "(IIII)I"⟩, 7), (⟨"GrowingStacks$Guard", "markNumbers", "(LGrowingStacks$Task;)V"⟩, 5), (⟨"GrowingStacks$Guard", "goToLast", "(LGrowingStacks$Task;)V"⟩, 5), (⟨"GrowingStacks$Guard", "mark", "(I)V"⟩, 5), (⟨"GrowingStacks$Guard", "goToCaller", "()V"⟩, 5), (⟨"GrowingStacks$Guard", "wrongPointers", "()I"⟩, 5), (⟨"GrowingStacks$Guard", "marksAt", "(I)I"⟩, 5), (⟨"GrowingStacks$Guard", "markWords", "(LGrowingStacks$Task;)V"⟩, 5), (⟨"GrowingStacks$Guard", "liesWell", "(LGrowingStacks$Task;)Z"⟩, 5), (⟨"GrowingStacksModel", "clears", "(I)V"⟩, 15), (⟨"GrowingStacksModel", "isAnyBusy", "()Z"⟩, 15)]
theorem lw_r2 : ∀ q ∈ lw_privs_2, lw_okq q := List.forall_mem_cons.mpr ⟨lw_p16, List.forall_mem_cons.mpr ⟨lw_p17, List.forall_mem_cons.mpr ⟨lw_p18, List.forall_mem_cons.mpr ⟨lw_p19, List.forall_mem_cons.mpr ⟨lw_p20, List.forall_mem_cons.mpr ⟨lw_p21, List.forall_mem_cons.mpr ⟨lw_p22, List.forall_mem_cons.mpr ⟨lw_p23, List.forall_mem_cons.mpr ⟨lw_p24, List.forall_mem_cons.mpr ⟨lw_p25, List.forall_mem_cons.mpr ⟨lw_p26, List.forall_mem_cons.mpr ⟨lw_p27, List.forall_mem_cons.mpr ⟨lw_p28, List.forall_mem_cons.mpr ⟨lw_p29, List.forall_mem_cons.mpr ⟨lw_p30, List.forall_mem_cons.mpr ⟨lw_p31, fun _ h => absurd h List.not_mem_nil⟩⟩⟩⟩⟩⟩⟩⟩⟩⟩⟩⟩⟩⟩⟩⟩
theorem lw_p32 : lw_okq (⟨"GrowingStacksModel", "isBusy", "(I)Z"⟩, 15) := ⟨⟨by decide +kernel, by decide +kernel⟩, List.mem_of_getElem? (i := 1052) (by decide +kernel), List.mem_of_getElem? (i := 1123) (by decide +kernel), List.mem_of_getElem? (i := 1124) (by decide +kernel)⟩
theorem lw_p33 : lw_okq (⟨"GrowingStacksModel", "isTold", "(I)Z"⟩, 15) := ⟨⟨by decide +kernel, by decide +kernel⟩, List.mem_of_getElem? (i := 1052) (by decide +kernel), List.mem_of_getElem? (i := 1138) (by decide +kernel), List.mem_of_getElem? (i := 1139) (by decide +kernel)⟩
theorem lw_p34 : lw_okq (⟨"GrowingStacksModel", "canLine", "(IIIII)Z"⟩, 15) := ⟨⟨by decide +kernel, by decide +kernel⟩, List.mem_of_getElem? (i := 1052) (by decide +kernel), List.mem_of_getElem? (i := 1142) (by decide +kernel), List.mem_of_getElem? (i := 1143) (by decide +kernel)⟩
theorem lw_p35 : lw_okq (⟨"GrowingStacksModel", "isNumber", "(II)Z"⟩, 15) := ⟨⟨by decide +kernel, by decide +kernel⟩, List.mem_of_getElem? (i := 1052) (by decide +kernel), List.mem_of_getElem? (i := 1146) (by decide +kernel), List.mem_of_getElem? (i := 1147) (by decide +kernel)⟩
theorem lw_p36 : lw_okq (⟨"GrowingStacksModel", "isSlot", "(II)Z"⟩, 15) := ⟨⟨by decide +kernel, by decide +kernel⟩, List.mem_of_getElem? (i := 1052) (by decide +kernel), List.mem_of_getElem? (i := 1150) (by decide +kernel), List.mem_of_getElem? (i := 1151) (by decide +kernel)⟩
theorem lw_p37 : lw_okq (⟨"GrowingStacksModel", "isPointer", "(II)Z"⟩, 15) := ⟨⟨by decide +kernel, by decide +kernel⟩, List.mem_of_getElem? (i := 1052) (by decide +kernel), List.mem_of_getElem? (i := 1157) (by decide +kernel), List.mem_of_getElem? (i := 1158) (by decide +kernel)⟩
theorem lw_p38 : lw_okq (⟨"GrowingStacksModel", "codeAt", "(II)I"⟩, 15) := ⟨⟨by decide +kernel, by decide +kernel⟩, List.mem_of_getElem? (i := 1052) (by decide +kernel), List.mem_of_getElem? (i := 1161) (by decide +kernel), List.mem_of_getElem? (i := 1162) (by decide +kernel)⟩
theorem lw_p39 : lw_okq (⟨"GrowingStacksModel", "deepOf", "(I)I"⟩, 15) := ⟨⟨by decide +kernel, by decide +kernel⟩, List.mem_of_getElem? (i := 1052) (by decide +kernel), List.mem_of_getElem? (i := 1169) (by decide +kernel), List.mem_of_getElem? (i := 1170) (by decide +kernel)⟩
theorem lw_p40 : lw_okq (⟨"GrowingStacksModel", "isEndlessOne", "(I)Z"⟩, 15) := ⟨⟨by decide +kernel, by decide +kernel⟩, List.mem_of_getElem? (i := 1052) (by decide +kernel), List.mem_of_getElem? (i := 1173) (by decide +kernel), List.mem_of_getElem? (i := 1174) (by decide +kernel)⟩
theorem lw_p41 : lw_okq (⟨"GrowingStacksModel", "reachedBy", "(I)I"⟩, 15) := ⟨⟨by decide +kernel, by decide +kernel⟩, List.mem_of_getElem? (i := 1052) (by decide +kernel), List.mem_of_getElem? (i := 1177) (by decide +kernel), List.mem_of_getElem? (i := 1178) (by decide +kernel)⟩
theorem lw_p42 : lw_okq (⟨"GrowingStacksModel", "calledBy", "(I)I"⟩, 15) := ⟨⟨by decide +kernel, by decide +kernel⟩, List.mem_of_getElem? (i := 1052) (by decide +kernel), List.mem_of_getElem? (i := 1181) (by decide +kernel), List.mem_of_getElem? (i := 1182) (by decide +kernel)⟩
theorem lw_p43 : lw_okq (⟨"GrowingStacksModel", "depth", "(I)I"⟩, 15) := ⟨⟨by decide +kernel, by decide +kernel⟩, List.mem_of_getElem? (i := 1052) (by decide +kernel), List.mem_of_getElem? (i := 1185) (by decide +kernel), List.mem_of_getElem? (i := 1186) (by decide +kernel)⟩
theorem lw_p44 : lw_okq (⟨"GrowingStacksModel", "frameOf", "(I)I"⟩, 15) := ⟨⟨by decide +kernel, by decide +kernel⟩, List.mem_of_getElem? (i := 1052) (by decide +kernel), List.mem_of_getElem? (i := 1189) (by decide +kernel), List.mem_of_getElem? (i := 1190) (by decide +kernel)⟩
theorem lw_p45 : lw_okq (⟨"GrowingStacksModel", "needOf", "(I)I"⟩, 15) := ⟨⟨by decide +kernel, by decide +kernel⟩, List.mem_of_getElem? (i := 1052) (by decide +kernel), List.mem_of_getElem? (i := 1197) (by decide +kernel), List.mem_of_getElem? (i := 1198) (by decide +kernel)⟩
theorem lw_p46 : lw_okq (⟨"GrowingStacksModel", "isMerged", "(I)Z"⟩, 15) := ⟨⟨by decide +kernel, by decide +kernel⟩, List.mem_of_getElem? (i := 1052) (by decide +kernel), List.mem_of_getElem? (i := 1201) (by decide +kernel), List.mem_of_getElem? (i := 1202) (by decide +kernel)⟩
theorem lw_p47 : lw_okq (⟨"GrowingStacksModel", "begins", "(IIII)Z"⟩, 15) := ⟨⟨by decide +kernel, by decide +kernel⟩, List.mem_of_getElem? (i := 1052) (by decide +kernel), List.mem_of_getElem? (i := 1212) (by decide +kernel), List.mem_of_getElem? (i := 1213) (by decide +kernel)⟩
def lw_privs_3 : List (MethodName × Nat) := [(⟨"GrowingStacksModel", "isBusy", "(I)Z"⟩, 15), (⟨"GrowingStacksModel", "isTold", "(I)Z"⟩, 15), (⟨"GrowingStacksModel", "canLine", "(IIIII)Z"⟩, 15), (⟨"GrowingStacksModel", "isNumber", "(II)Z"⟩, 15), (⟨"GrowingStacksModel", "isSlot", "(II)Z"⟩, 15), (⟨"GrowingStacksModel", "isPointer", "(II)Z"⟩, 15), (⟨"GrowingStacksModel", "codeAt", "(II)I"⟩, 15), (⟨"GrowingStacksModel", "deepOf", "(I)I"⟩, 15), (⟨"GrowingStacksModel", "isEndlessOne", "(I)Z"⟩, 15), (⟨"GrowingStacksModel", "reachedBy", "(I)I"⟩, 15), (⟨"GrowingStacksModel", "calledBy", "(I)I"⟩, 15), (⟨"GrowingStacksModel", "depth", "(I)I"⟩, 15), (⟨"GrowingStacksModel", "frameOf", "(I)I"⟩, 15), (⟨"GrowingStacksModel", "needOf", "(I)I"⟩, 15), (⟨"GrowingStacksModel", "isMerged", "(I)Z"⟩, 15), (⟨"GrowingStacksModel", "begins", "(IIII)Z"⟩, 15)]
theorem lw_r3 : ∀ q ∈ lw_privs_3, lw_okq q := List.forall_mem_cons.mpr ⟨lw_p32, List.forall_mem_cons.mpr ⟨lw_p33, List.forall_mem_cons.mpr ⟨lw_p34, List.forall_mem_cons.mpr ⟨lw_p35, List.forall_mem_cons.mpr ⟨lw_p36, List.forall_mem_cons.mpr ⟨lw_p37, List.forall_mem_cons.mpr ⟨lw_p38, List.forall_mem_cons.mpr ⟨lw_p39, List.forall_mem_cons.mpr ⟨lw_p40, List.forall_mem_cons.mpr ⟨lw_p41, List.forall_mem_cons.mpr ⟨lw_p42, List.forall_mem_cons.mpr ⟨lw_p43, List.forall_mem_cons.mpr ⟨lw_p44, List.forall_mem_cons.mpr ⟨lw_p45, List.forall_mem_cons.mpr ⟨lw_p46, List.forall_mem_cons.mpr ⟨lw_p47, fun _ h => absurd h List.not_mem_nil⟩⟩⟩⟩⟩⟩⟩⟩⟩⟩⟩⟩⟩⟩⟩⟩
theorem lw_p48 : lw_okq (⟨"GrowingStacksModel", "gapFor", "(I)I"⟩, 15) := ⟨⟨by decide +kernel, by decide +kernel⟩, List.mem_of_getElem? (i := 1052) (by decide +kernel), List.mem_of_getElem? (i := 1216) (by decide +kernel), List.mem_of_getElem? (i := 1217) (by decide +kernel)⟩
theorem lw_p49 : lw_okq (⟨"GrowingStacksModel", "takes", "(IIII)V"⟩, 15) := ⟨⟨by decide +kernel, by decide +kernel⟩, List.mem_of_getElem? (i := 1052) (by decide +kernel), List.mem_of_getElem? (i := 1220) (by decide +kernel), List.mem_of_getElem? (i := 1221) (by decide +kernel)⟩
theorem lw_p50 : lw_okq (⟨"GrowingStacksModel", "shifts", "(II)V"⟩, 15) := ⟨⟨by decide +kernel, by decide +kernel⟩, List.mem_of_getElem? (i := 1052) (by decide +kernel), List.mem_of_getElem? (i := 1224) (by decide +kernel), List.mem_of_getElem? (i := 1225) (by decide +kernel)⟩
theorem lw_p51 : lw_okq (⟨"GrowingStacksModel", "calls", "(IIIII)V"⟩, 15) := ⟨⟨by decide +kernel, by decide +kernel⟩, List.mem_of_getElem? (i := 1052) (by decide +kernel), List.mem_of_getElem? (i := 1228) (by decide +kernel), List.mem_of_getElem? (i := 1229) (by decide +kernel)⟩
theorem lw_p52 : lw_okq (⟨"GrowingStacksModel", "isCovered", "(I)Z"⟩, 15) := ⟨⟨by decide +kernel, by decide +kernel⟩, List.mem_of_getElem? (i := 1052) (by decide +kernel), List.mem_of_getElem? (i := 1232) (by decide +kernel), List.mem_of_getElem? (i := 1233) (by decide +kernel)⟩
theorem lw_p53 : lw_okq (⟨"GrowingStacksModel", "word", "(I)I"⟩, 15) := ⟨⟨by decide +kernel, by decide +kernel⟩, List.mem_of_getElem? (i := 1052) (by decide +kernel), List.mem_of_getElem? (i := 1236) (by decide +kernel), List.mem_of_getElem? (i := 1237) (by decide +kernel)⟩
theorem lw_p54 : lw_okq (⟨"GrowingStacksModel", "topOf", "(I)I"⟩, 15) := ⟨⟨by decide +kernel, by decide +kernel⟩, List.mem_of_getElem? (i := 1052) (by decide +kernel), List.mem_of_getElem? (i := 1240) (by decide +kernel), List.mem_of_getElem? (i := 1241) (by decide +kernel)⟩
theorem lw_p55 : lw_okq (⟨"GrowingStacksModel", "pieceOf", "(II)I"⟩, 15) := ⟨⟨by decide +kernel, by decide +kernel⟩, List.mem_of_getElem? (i := 1052) (by decide +kernel), List.mem_of_getElem? (i := 1244) (by decide +kernel), List.mem_of_getElem? (i := 1245) (by decide +kernel)⟩
theorem lw_p56 : lw_okq (⟨"GrowingStacksModel", "roomFor", "(II)I"⟩, 15) := ⟨⟨by decide +kernel, by decide +kernel⟩, List.mem_of_getElem? (i := 1052) (by decide +kernel), List.mem_of_getElem? (i := 1248) (by decide +kernel), List.mem_of_getElem? (i := 1249) (by decide +kernel)⟩
theorem lw_p57 : lw_okq (⟨"GrowingStacksModel", "counts", "(II)V"⟩, 15) := ⟨⟨by decide +kernel, by decide +kernel⟩, List.mem_of_getElem? (i := 1052) (by decide +kernel), List.mem_of_getElem? (i := 1252) (by decide +kernel), List.mem_of_getElem? (i := 1253) (by decide +kernel)⟩
theorem lw_p58 : lw_okq (⟨"GrowingStacksModel", "lastPiece", "(I)I"⟩, 15) := ⟨⟨by decide +kernel, by decide +kernel⟩, List.mem_of_getElem? (i := 1052) (by decide +kernel), List.mem_of_getElem? (i := 1256) (by decide +kernel), List.mem_of_getElem? (i := 1257) (by decide +kernel)⟩
theorem lw_p59 : lw_okq (⟨"GrowingStacksModel", "grows", "(II)Z"⟩, 15) := ⟨⟨by decide +kernel, by decide +kernel⟩, List.mem_of_getElem? (i := 1052) (by decide +kernel), List.mem_of_getElem? (i := 1260) (by decide +kernel), List.mem_of_getElem? (i := 1261) (by decide +kernel)⟩
theorem lw_p60 : lw_okq (⟨"GrowingStacksModel", "moves", "(II)Z"⟩, 15) := ⟨⟨by decide +kernel, by decide +kernel⟩, List.mem_of_getElem? (i := 1052) (by decide +kernel), List.mem_of_getElem? (i := 1264) (by decide +kernel), List.mem_of_getElem? (i := 1265) (by decide +kernel)⟩
theorem lw_p61 : lw_okq (⟨"GrowingStacksModel", "part", "(III)V"⟩, 15) := ⟨⟨by decide +kernel, by decide +kernel⟩, List.mem_of_getElem? (i := 1052) (by decide +kernel), List.mem_of_getElem? (i := 1268) (by decide +kernel), List.mem_of_getElem? (i := 1269) (by decide +kernel)⟩
theorem lw_p62 : lw_okq (⟨"GrowingStacksModel", "carries", "()V"⟩, 15) := ⟨⟨by decide +kernel, by decide +kernel⟩, List.mem_of_getElem? (i := 1052) (by decide +kernel), List.mem_of_getElem? (i := 1272) (by decide +kernel), List.mem_of_getElem? (i := 1273) (by decide +kernel)⟩
theorem lw_p63 : lw_okq (⟨"GrowingStacksModel", "turns", "(I)V"⟩, 15) := ⟨⟨by decide +kernel, by decide +kernel⟩, List.mem_of_getElem? (i := 1052) (by decide +kernel), List.mem_of_getElem? (i := 1276) (by decide +kernel), List.mem_of_getElem? (i := 1277) (by decide +kernel)⟩
def lw_privs_4 : List (MethodName × Nat) := [(⟨"GrowingStacksModel", "gapFor", "(I)I"⟩, 15), (⟨"GrowingStacksModel", "takes", "(IIII)V"⟩, 15), (⟨"GrowingStacksModel", "shifts", "(II)V"⟩, 15), (⟨"GrowingStacksModel", "calls", "(IIIII)V"⟩, 15), (⟨"GrowingStacksModel", "isCovered", "(I)Z"⟩, 15), (⟨"GrowingStacksModel", "word", "(I)I"⟩, 15), (⟨"GrowingStacksModel", "topOf", "(I)I"⟩, 15), (⟨"GrowingStacksModel", "pieceOf", "(II)I"⟩, 15), (⟨"GrowingStacksModel", "roomFor", "(II)I"⟩, 15), (⟨"GrowingStacksModel", "counts", "(II)V"⟩, 15), (⟨"GrowingStacksModel", "lastPiece", "(I)I"⟩, 15), (⟨"GrowingStacksModel", "grows", "(II)Z"⟩, 15), (⟨"GrowingStacksModel", "moves", "(II)Z"⟩, 15), (⟨"GrowingStacksModel", "part", "(III)V"⟩, 15), (⟨"GrowingStacksModel", "carries", "()V"⟩, 15), (⟨"GrowingStacksModel", "turns", "(I)V"⟩, 15)]
theorem lw_r4 : ∀ q ∈ lw_privs_4, lw_okq q := List.forall_mem_cons.mpr ⟨lw_p48, List.forall_mem_cons.mpr ⟨lw_p49, List.forall_mem_cons.mpr ⟨lw_p50, List.forall_mem_cons.mpr ⟨lw_p51, List.forall_mem_cons.mpr ⟨lw_p52, List.forall_mem_cons.mpr ⟨lw_p53, List.forall_mem_cons.mpr ⟨lw_p54, List.forall_mem_cons.mpr ⟨lw_p55, List.forall_mem_cons.mpr ⟨lw_p56, List.forall_mem_cons.mpr ⟨lw_p57, List.forall_mem_cons.mpr ⟨lw_p58, List.forall_mem_cons.mpr ⟨lw_p59, List.forall_mem_cons.mpr ⟨lw_p60, List.forall_mem_cons.mpr ⟨lw_p61, List.forall_mem_cons.mpr ⟨lw_p62, List.forall_mem_cons.mpr ⟨lw_p63, fun _ h => absurd h List.not_mem_nil⟩⟩⟩⟩⟩⟩⟩⟩⟩⟩⟩⟩⟩⟩⟩⟩
theorem lw_p64 : lw_okq (⟨"GrowingStacksModel", "goalOf", "(I)I"⟩, 15) := ⟨⟨by decide +kernel, by decide +kernel⟩, List.mem_of_getElem? (i := 1052) (by decide +kernel), List.mem_of_getElem? (i := 1280) (by decide +kernel), List.mem_of_getElem? (i := 1281) (by decide +kernel)⟩
theorem lw_p65 : lw_okq (⟨"GrowingStacksModel", "gives", "(I)V"⟩, 15) := ⟨⟨by decide +kernel, by decide +kernel⟩, List.mem_of_getElem? (i := 1052) (by decide +kernel), List.mem_of_getElem? (i := 1284) (by decide +kernel), List.mem_of_getElem? (i := 1285) (by decide +kernel)⟩
theorem lw_p66 : lw_okq (⟨"GrowingStacksModel", "logs", "(IIII)V"⟩, 15) := ⟨⟨by decide +kernel, by decide +kernel⟩, List.mem_of_getElem? (i := 1052) (by decide +kernel), List.mem_of_getElem? (i := 1288) (by decide +kernel), List.mem_of_getElem? (i := 1289) (by decide +kernel)⟩
theorem lw_p67 : lw_okq (⟨"GrowingStacksModel", "givesSpare", "(I)Z"⟩, 15) := ⟨⟨by decide +kernel, by decide +kernel⟩, List.mem_of_getElem? (i := 1052) (by decide +kernel), List.mem_of_getElem? (i := 1292) (by decide +kernel), List.mem_of_getElem? (i := 1293) (by decide +kernel)⟩
theorem lw_p68 : lw_okq (⟨"GrowingStacksModel", "isOut", "(I)V"⟩, 15) := ⟨⟨by decide +kernel, by decide +kernel⟩, List.mem_of_getElem? (i := 1052) (by decide +kernel), List.mem_of_getElem? (i := 1296) (by decide +kernel), List.mem_of_getElem? (i := 1297) (by decide +kernel)⟩
theorem lw_p69 : lw_okq (⟨"GrowingStacksModel", "givesAll", "(I)V"⟩, 15) := ⟨⟨by decide +kernel, by decide +kernel⟩, List.mem_of_getElem? (i := 1052) (by decide +kernel), List.mem_of_getElem? (i := 1300) (by decide +kernel), List.mem_of_getElem? (i := 1301) (by decide +kernel)⟩
theorem lw_p70 : lw_okq (⟨"GrowingStacksModel", "lays", "(II)V"⟩, 15) := ⟨⟨by decide +kernel, by decide +kernel⟩, List.mem_of_getElem? (i := 1052) (by decide +kernel), List.mem_of_getElem? (i := 1304) (by decide +kernel), List.mem_of_getElem? (i := 1305) (by decide +kernel)⟩
theorem lw_p71 : lw_okq (⟨"GrowingStacksModel", "runs", "(II)I"⟩, 15) := ⟨⟨by decide +kernel, by decide +kernel⟩, List.mem_of_getElem? (i := 1052) (by decide +kernel), List.mem_of_getElem? (i := 1312) (by decide +kernel), List.mem_of_getElem? (i := 1313) (by decide +kernel)⟩
theorem lw_p72 : lw_okq (⟨"GrowingStacksModel", "steps", "(I)V"⟩, 15) := ⟨⟨by decide +kernel, by decide +kernel⟩, List.mem_of_getElem? (i := 1052) (by decide +kernel), List.mem_of_getElem? (i := 1316) (by decide +kernel), List.mem_of_getElem? (i := 1317) (by decide +kernel)⟩
theorem lw_p73 : lw_okq (⟨"GrowingStacksModel", "returns", "(II)V"⟩, 15) := ⟨⟨by decide +kernel, by decide +kernel⟩, List.mem_of_getElem? (i := 1052) (by decide +kernel), List.mem_of_getElem? (i := 1320) (by decide +kernel), List.mem_of_getElem? (i := 1321) (by decide +kernel)⟩
theorem lw_p74 : lw_okq (⟨"GrowingStacksModel", "isDone", "(II)V"⟩, 15) := ⟨⟨by decide +kernel, by decide +kernel⟩, List.mem_of_getElem? (i := 1052) (by decide +kernel), List.mem_of_getElem? (i := 1324) (by decide +kernel), List.mem_of_getElem? (i := 1325) (by decide +kernel)⟩
theorem lw_p75 : lw_okq (⟨"GrowingStacksModel", "runsEndless", "(II)Z"⟩, 15) := ⟨⟨by decide +kernel, by decide +kernel⟩, List.mem_of_getElem? (i := 1052) (by decide +kernel), List.mem_of_getElem? (i := 1328) (by decide +kernel), List.mem_of_getElem? (i := 1329) (by decide +kernel)⟩
theorem lw_p76 : lw_okq (⟨"GrowingStacksModel", "leaves", "(II)V"⟩, 15) := ⟨⟨by decide +kernel, by decide +kernel⟩, List.mem_of_getElem? (i := 1052) (by decide +kernel), List.mem_of_getElem? (i := 1332) (by decide +kernel), List.mem_of_getElem? (i := 1333) (by decide +kernel)⟩
theorem lw_p77 : lw_okq (⟨"GrowingStacksModel", "pieceAt", "(I)I"⟩, 15) := ⟨⟨by decide +kernel, by decide +kernel⟩, List.mem_of_getElem? (i := 1052) (by decide +kernel), List.mem_of_getElem? (i := 1336) (by decide +kernel), List.mem_of_getElem? (i := 1337) (by decide +kernel)⟩
theorem lw_p78 : lw_okq (⟨"GrowingStacksModel", "foreignOver", "(II)V"⟩, 15) := ⟨⟨by decide +kernel, by decide +kernel⟩, List.mem_of_getElem? (i := 1052) (by decide +kernel), List.mem_of_getElem? (i := 1340) (by decide +kernel), List.mem_of_getElem? (i := 1341) (by decide +kernel)⟩
theorem lw_p79 : lw_okq (⟨"GrowingStacksModel", "foreign", "(IIII)V"⟩, 15) := ⟨⟨by decide +kernel, by decide +kernel⟩, List.mem_of_getElem? (i := 1052) (by decide +kernel), List.mem_of_getElem? (i := 1344) (by decide +kernel), List.mem_of_getElem? (i := 1345) (by decide +kernel)⟩
def lw_privs_5 : List (MethodName × Nat) := [(⟨"GrowingStacksModel", "goalOf", "(I)I"⟩, 15), (⟨"GrowingStacksModel", "gives", "(I)V"⟩, 15), (⟨"GrowingStacksModel", "logs", "(IIII)V"⟩, 15), (⟨"GrowingStacksModel", "givesSpare", "(I)Z"⟩, 15), (⟨"GrowingStacksModel", "isOut", "(I)V"⟩, 15), (⟨"GrowingStacksModel", "givesAll", "(I)V"⟩, 15), (⟨"GrowingStacksModel", "lays", "(II)V"⟩, 15), (⟨"GrowingStacksModel", "runs", "(II)I"⟩, 15), (⟨"GrowingStacksModel", "steps", "(I)V"⟩, 15), (⟨"GrowingStacksModel", "returns", "(II)V"⟩, 15), (⟨"GrowingStacksModel", "isDone", "(II)V"⟩, 15), (⟨"GrowingStacksModel", "runsEndless", "(II)Z"⟩, 15), (⟨"GrowingStacksModel", "leaves", "(II)V"⟩, 15), (⟨"GrowingStacksModel", "pieceAt", "(I)I"⟩, 15), (⟨"GrowingStacksModel", "foreignOver", "(II)V"⟩, 15), (⟨"GrowingStacksModel", "foreign", "(IIII)V"⟩, 15)]
theorem lw_r5 : ∀ q ∈ lw_privs_5, lw_okq q := List.forall_mem_cons.mpr ⟨lw_p64, List.forall_mem_cons.mpr ⟨lw_p65, List.forall_mem_cons.mpr ⟨lw_p66, List.forall_mem_cons.mpr ⟨lw_p67, List.forall_mem_cons.mpr ⟨lw_p68, List.forall_mem_cons.mpr ⟨lw_p69, List.forall_mem_cons.mpr ⟨lw_p70, List.forall_mem_cons.mpr ⟨lw_p71, List.forall_mem_cons.mpr ⟨lw_p72, List.forall_mem_cons.mpr ⟨lw_p73, List.forall_mem_cons.mpr ⟨lw_p74, List.forall_mem_cons.mpr ⟨lw_p75, List.forall_mem_cons.mpr ⟨lw_p76, List.forall_mem_cons.mpr ⟨lw_p77, List.forall_mem_cons.mpr ⟨lw_p78, List.forall_mem_cons.mpr ⟨lw_p79, fun _ h => absurd h List.not_mem_nil⟩⟩⟩⟩⟩⟩⟩⟩⟩⟩⟩⟩⟩⟩⟩⟩
theorem lw_p80 : lw_okq (⟨"GrowingStacksModel", "hasSide", "(II)Z"⟩, 15) := ⟨⟨by decide +kernel, by decide +kernel⟩, List.mem_of_getElem? (i := 1052) (by decide +kernel), List.mem_of_getElem? (i := 1348) (by decide +kernel), List.mem_of_getElem? (i := 1349) (by decide +kernel)⟩
theorem lw_p81 : lw_okq (⟨"GrowingStacksModel", "freeSide", "()I"⟩, 15) := ⟨⟨by decide +kernel, by decide +kernel⟩, List.mem_of_getElem? (i := 1052) (by decide +kernel), List.mem_of_getElem? (i := 1352) (by decide +kernel), List.mem_of_getElem? (i := 1353) (by decide +kernel)⟩
theorem lw_p82 : lw_okq (⟨"GrowingStacksModel", "quiets", "(I)Z"⟩, 15) := ⟨⟨by decide +kernel, by decide +kernel⟩, List.mem_of_getElem? (i := 1052) (by decide +kernel), List.mem_of_getElem? (i := 1356) (by decide +kernel), List.mem_of_getElem? (i := 1357) (by decide +kernel)⟩
theorem lw_p83 : lw_okq (⟨"GrowingStacksModel", "keptOf", "(I)I"⟩, 15) := ⟨⟨by decide +kernel, by decide +kernel⟩, List.mem_of_getElem? (i := 1052) (by decide +kernel), List.mem_of_getElem? (i := 1360) (by decide +kernel), List.mem_of_getElem? (i := 1361) (by decide +kernel)⟩
theorem lw_p84 : lw_okq (⟨"GrowingStacksModel", "usedIn", "(II)I"⟩, 15) := ⟨⟨by decide +kernel, by decide +kernel⟩, List.mem_of_getElem? (i := 1052) (by decide +kernel), List.mem_of_getElem? (i := 1380) (by decide +kernel), List.mem_of_getElem? (i := 1381) (by decide +kernel)⟩
theorem lw_p85 : lw_okq (⟨"GrowingStacksModel", "piecesOf", "(I)I"⟩, 15) := ⟨⟨by decide +kernel, by decide +kernel⟩, List.mem_of_getElem? (i := 1052) (by decide +kernel), List.mem_of_getElem? (i := 1392) (by decide +kernel), List.mem_of_getElem? (i := 1393) (by decide +kernel)⟩
theorem lw_p86 : lw_okq (⟨"GrowingStacksModel", "wordsOf", "(I)I"⟩, 15) := ⟨⟨by decide +kernel, by decide +kernel⟩, List.mem_of_getElem? (i := 1052) (by decide +kernel), List.mem_of_getElem? (i := 1396) (by decide +kernel), List.mem_of_getElem? (i := 1397) (by decide +kernel)⟩
theorem lw_p87 : lw_okq (⟨"GrowingStacksModel", "isFrame", "(II)Z"⟩, 15) := ⟨⟨by decide +kernel, by decide +kernel⟩, List.mem_of_getElem? (i := 1052) (by decide +kernel), List.mem_of_getElem? (i := 1404) (by decide +kernel), List.mem_of_getElem? (i := 1405) (by decide +kernel)⟩
theorem lw_p88 : lw_okq (⟨"GrowingStacksModel", "looksAt", "(II)V"⟩, 15) := ⟨⟨by decide +kernel, by decide +kernel⟩, List.mem_of_getElem? (i := 1052) (by decide +kernel), List.mem_of_getElem? (i := 1408) (by decide +kernel), List.mem_of_getElem? (i := 1409) (by decide +kernel)⟩
theorem lw_p89 : lw_okq (⟨"GrowingStacksModel", "goesBack", "()V"⟩, 15) := ⟨⟨by decide +kernel, by decide +kernel⟩, List.mem_of_getElem? (i := 1052) (by decide +kernel), List.mem_of_getElem? (i := 1412) (by decide +kernel), List.mem_of_getElem? (i := 1413) (by decide +kernel)⟩
theorem lw_p90 : lw_okq (⟨"GrowingStacksModel", "pointed", "(II)I"⟩, 15) := ⟨⟨by decide +kernel, by decide +kernel⟩, List.mem_of_getElem? (i := 1052) (by decide +kernel), List.mem_of_getElem? (i := 1421) (by decide +kernel), List.mem_of_getElem? (i := 1422) (by decide +kernel)⟩
theorem lw_p91 : lw_okq (⟨"GrowingStacksModel", "runsAlone", "(III)I"⟩, 15) := ⟨⟨by decide +kernel, by decide +kernel⟩, List.mem_of_getElem? (i := 1052) (by decide +kernel), List.mem_of_getElem? (i := 1448) (by decide +kernel), List.mem_of_getElem? (i := 1449) (by decide +kernel)⟩
theorem lw_p92 : lw_okq (⟨"GrowingStacksModel", "wrongWords", "(I)I"⟩, 15) := ⟨⟨by decide +kernel, by decide +kernel⟩, List.mem_of_getElem? (i := 1052) (by decide +kernel), List.mem_of_getElem? (i := 1460) (by decide +kernel), List.mem_of_getElem? (i := 1461) (by decide +kernel)⟩
theorem lw_p93 : lw_okq (⟨"GrowingStacksModel", "wrongFrames", "(I)I"⟩, 15) := ⟨⟨by decide +kernel, by decide +kernel⟩, List.mem_of_getElem? (i := 1052) (by decide +kernel), List.mem_of_getElem? (i := 1464) (by decide +kernel), List.mem_of_getElem? (i := 1465) (by decide +kernel)⟩
theorem lw_p94 : lw_okq (⟨"GrowingStacksModel", "greatestGap", "()I"⟩, 15) := ⟨⟨by decide +kernel, by decide +kernel⟩, List.mem_of_getElem? (i := 1052) (by decide +kernel), List.mem_of_getElem? (i := 1480) (by decide +kernel), List.mem_of_getElem? (i := 1481) (by decide +kernel)⟩
theorem lw_p95 : lw_okq (⟨"GrowingStacksModel", "statesOf", "(I)I"⟩, 15) := ⟨⟨by decide +kernel, by decide +kernel⟩, List.mem_of_getElem? (i := 1052) (by decide +kernel), List.mem_of_getElem? (i := 1485) (by decide +kernel), List.mem_of_getElem? (i := 1486) (by decide +kernel)⟩
def lw_privs_6 : List (MethodName × Nat) := [(⟨"GrowingStacksModel", "hasSide", "(II)Z"⟩, 15), (⟨"GrowingStacksModel", "freeSide", "()I"⟩, 15), (⟨"GrowingStacksModel", "quiets", "(I)Z"⟩, 15), (⟨"GrowingStacksModel", "keptOf", "(I)I"⟩, 15), (⟨"GrowingStacksModel", "usedIn", "(II)I"⟩, 15), (⟨"GrowingStacksModel", "piecesOf", "(I)I"⟩, 15), (⟨"GrowingStacksModel", "wordsOf", "(I)I"⟩, 15), (⟨"GrowingStacksModel", "isFrame", "(II)Z"⟩, 15), (⟨"GrowingStacksModel", "looksAt", "(II)V"⟩, 15), (⟨"GrowingStacksModel", "goesBack", "()V"⟩, 15), (⟨"GrowingStacksModel", "pointed", "(II)I"⟩, 15), (⟨"GrowingStacksModel", "runsAlone", "(III)I"⟩, 15), (⟨"GrowingStacksModel", "wrongWords", "(I)I"⟩, 15), (⟨"GrowingStacksModel", "wrongFrames", "(I)I"⟩, 15), (⟨"GrowingStacksModel", "greatestGap", "()I"⟩, 15), (⟨"GrowingStacksModel", "statesOf", "(I)I"⟩, 15)]
theorem lw_r6 : ∀ q ∈ lw_privs_6, lw_okq q := List.forall_mem_cons.mpr ⟨lw_p80, List.forall_mem_cons.mpr ⟨lw_p81, List.forall_mem_cons.mpr ⟨lw_p82, List.forall_mem_cons.mpr ⟨lw_p83, List.forall_mem_cons.mpr ⟨lw_p84, List.forall_mem_cons.mpr ⟨lw_p85, List.forall_mem_cons.mpr ⟨lw_p86, List.forall_mem_cons.mpr ⟨lw_p87, List.forall_mem_cons.mpr ⟨lw_p88, List.forall_mem_cons.mpr ⟨lw_p89, List.forall_mem_cons.mpr ⟨lw_p90, List.forall_mem_cons.mpr ⟨lw_p91, List.forall_mem_cons.mpr ⟨lw_p92, List.forall_mem_cons.mpr ⟨lw_p93, List.forall_mem_cons.mpr ⟨lw_p94, List.forall_mem_cons.mpr ⟨lw_p95, fun _ h => absurd h List.not_mem_nil⟩⟩⟩⟩⟩⟩⟩⟩⟩⟩⟩⟩⟩⟩⟩⟩
theorem lw_p96 : lw_okq (⟨"GrowingStacksModel", "told", "(Z)I"⟩, 15) := ⟨⟨by decide +kernel, by decide +kernel⟩, List.mem_of_getElem? (i := 1052) (by decide +kernel), List.mem_of_getElem? (i := 1489) (by decide +kernel), List.mem_of_getElem? (i := 1490) (by decide +kernel)⟩
def lw_privs_7 : List (MethodName × Nat) := [(⟨"GrowingStacksModel", "told", "(Z)I"⟩, 15)]
theorem lw_r7 : ∀ q ∈ lw_privs_7, lw_okq q := List.forall_mem_cons.mpr ⟨lw_p96, fun _ h => absurd h List.not_mem_nil⟩
def lw_privs : List (MethodName × Nat) := lw_privs_1 ++ (lw_privs_2 ++ (lw_privs_3 ++ (lw_privs_4 ++ (lw_privs_5 ++ (lw_privs_6 ++ (lw_privs_7))))))
def lw_tbl : List Cond := k2_sels lw_privs ++ tables_1
theorem lw_privs_ok : ∀ q ∈ lw_privs, lw_okq q := by
  show ∀ q ∈ lw_privs_1 ++ (lw_privs_2 ++ (lw_privs_3 ++ (lw_privs_4 ++ (lw_privs_5 ++ (lw_privs_6 ++ (lw_privs_7)))))), lw_okq q
  exact List.forall_mem_append.mpr ⟨lw_r1, List.forall_mem_append.mpr ⟨lw_r2, List.forall_mem_append.mpr ⟨lw_r3, List.forall_mem_append.mpr ⟨lw_r4, List.forall_mem_append.mpr ⟨lw_r5, List.forall_mem_append.mpr ⟨lw_r6, lw_r7⟩⟩⟩⟩⟩⟩

def RX0 : String := "GrowingStacks$Guard"
def TX0 : u_T := fun k => match k with
  | 0 => ("GrowingStacks$Guard", "world", "LGrowingStacks$World;", true)
  | 1 => ("GrowingStacks$Guard", "marks", "[I", true)
  | 2 => ("GrowingStacks$Guard", "piece", "I", false)
  | 3 => ("GrowingStacks$Guard", "place", "I", false)
  | _ => ("GrowingStacks$Guard", "function", "I", false)
def tyX0 : Nat → FieldType := fun k => match k with
  | 0 => .object "GrowingStacks$World"
  | 1 => .array .int
  | 2 => .int
  | 3 => .int
  | _ => .int
theorem nmX0 : ∀ a, a < 5 → ∀ b, b < 5 → a ≠ b → (TX0 a).2.1 ≠ (TX0 b).2.1 := by decide +kernel
theorem tyX0_ok : ∀ k, k < 5 → parseFieldDescriptor (TX0 k).2.2.1 = some (tyX0 k) := by decide +kernel
abbrev cX0_init : ByteArray := prog_2_method_1_code
def yX0_init : MethodName := ⟨RX0, "<init>", "(LGrowingStacks$World;)V"⟩
abbrev cX0_mark : ByteArray := prog_2_method_2_code
def yX0_mark : MethodName := ⟨RX0, "mark", "(I)V"⟩
abbrev cX0_marksAt : ByteArray := prog_2_method_3_code
def yX0_marksAt : MethodName := ⟨RX0, "marksAt", "(I)I"⟩
abbrev cX0_goToLast : ByteArray := prog_2_method_4_code
def yX0_goToLast : MethodName := ⟨RX0, "goToLast", "(LGrowingStacks$Task;)V"⟩
abbrev cX0_goToCaller : ByteArray := prog_2_method_5_code
def yX0_goToCaller : MethodName := ⟨RX0, "goToCaller", "()V"⟩
abbrev cX0_wrongPlaces : ByteArray := prog_2_method_6_code
def yX0_wrongPlaces : MethodName := ⟨RX0, "wrongPlaces", "()I"⟩
abbrev cX0_markNumbers : ByteArray := prog_2_method_7_code
def yX0_markNumbers : MethodName := ⟨RX0, "markNumbers", "(LGrowingStacks$Task;)V"⟩
abbrev cX0_wrongPointers : ByteArray := prog_2_method_8_code
def yX0_wrongPointers : MethodName := ⟨RX0, "wrongPointers", "()I"⟩
abbrev cX0_wrongFrames : ByteArray := prog_2_method_9_code
def yX0_wrongFrames : MethodName := ⟨RX0, "wrongFrames", "()I"⟩
abbrev cX0_markWords : ByteArray := prog_2_method_10_code
def yX0_markWords : MethodName := ⟨RX0, "markWords", "(LGrowingStacks$Task;)V"⟩
abbrev cX0_liesWell : ByteArray := prog_2_method_11_code
def yX0_liesWell : MethodName := ⟨RX0, "liesWell", "(LGrowingStacks$Task;)Z"⟩
def RX1 : String := "GrowingStacks$Log"
def TX1 : u_T := fun k => match k with
  | 0 => ("GrowingStacks$Log", "facts", "[I", true)
  | _ => ("GrowingStacks$Log", "total", "I", false)
def tyX1 : Nat → FieldType := fun k => match k with
  | 0 => .array .int
  | _ => .int
theorem nmX1 : ∀ a, a < 2 → ∀ b, b < 2 → a ≠ b → (TX1 a).2.1 ≠ (TX1 b).2.1 := by decide +kernel
theorem tyX1_ok : ∀ k, k < 2 → parseFieldDescriptor (TX1 k).2.2.1 = some (tyX1 k) := by decide +kernel
abbrev cX1_init : ByteArray := prog_3_method_1_code
def yX1_init : MethodName := ⟨RX1, "<init>", "()V"⟩
abbrev cX1_write : ByteArray := prog_3_method_2_code
def yX1_write : MethodName := ⟨RX1, "write", "(IIII)V"⟩
abbrev cX1_read : ByteArray := prog_3_method_3_code
def yX1_read : MethodName := ⟨RX1, "read", "(II)I"⟩
abbrev cX1_takeOver : ByteArray := prog_3_method_4_code
def yX1_takeOver : MethodName := ⟨RX1, "takeOver", "(LGrowingStacks$Log;)V"⟩
def RX2 : String := "GrowingStacks$Machine"
def TX2 : u_T := fun k => match k with
  | 0 => ("GrowingStacks$Machine", "world", "LGrowingStacks$World;", true)
  | 1 => ("GrowingStacks$Machine", "mover", "LGrowingStacks$Mover;", true)
  | 2 => ("GrowingStacks$Machine", "program", "LGrowingStacks$Program;", true)
  | 3 => ("GrowingStacks$Machine", "pieces", "LGrowingStacks$Pieces;", true)
  | _ => ("GrowingStacks$Machine", "memory", "LGrowingStacks$Memory;", true)
def tyX2 : Nat → FieldType := fun k => match k with
  | 0 => .object "GrowingStacks$World"
  | 1 => .object "GrowingStacks$Mover"
  | 2 => .object "GrowingStacks$Program"
  | 3 => .object "GrowingStacks$Pieces"
  | _ => .object "GrowingStacks$Memory"
theorem nmX2 : ∀ a, a < 5 → ∀ b, b < 5 → a ≠ b → (TX2 a).2.1 ≠ (TX2 b).2.1 := by decide +kernel
theorem tyX2_ok : ∀ k, k < 5 → parseFieldDescriptor (TX2 k).2.2.1 = some (tyX2 k) := by decide +kernel
abbrev cX2_init : ByteArray := prog_4_method_1_code
def yX2_init : MethodName := ⟨RX2, "<init>", "(LGrowingStacks$World;)V"⟩
abbrev cX2_begin : ByteArray := prog_4_method_2_code
def yX2_begin : MethodName := ⟨RX2, "begin", "(LGrowingStacks$Task;III)Z"⟩
abbrev cX2_makeStep : ByteArray := prog_4_method_3_code
def yX2_makeStep : MethodName := ⟨RX2, "makeStep", "(LGrowingStacks$Task;)V"⟩
abbrev cX2_reckon : ByteArray := prog_4_method_4_code
def yX2_reckon : MethodName := ⟨RX2, "reckon", "(LGrowingStacks$Task;II)V"⟩
abbrev cX2_callFunction : ByteArray := prog_4_method_5_code
def yX2_callFunction : MethodName := ⟨RX2, "callFunction", "(LGrowingStacks$Task;I)I"⟩
abbrev cX2_callForeign : ByteArray := prog_4_method_6_code
def yX2_callForeign : MethodName := ⟨RX2, "callForeign", "(LGrowingStacks$Task;I)I"⟩
abbrev cX2_endForeign : ByteArray := prog_4_method_7_code
def yX2_endForeign : MethodName := ⟨RX2, "endForeign", "(LGrowingStacks$Task;I)V"⟩
abbrev cX2_roomFor : ByteArray := prog_4_method_8_code
def yX2_roomFor : MethodName := ⟨RX2, "roomFor", "(LGrowingStacks$Task;I)I"⟩
abbrev cX2_enter : ByteArray := prog_4_method_9_code
def yX2_enter : MethodName := ⟨RX2, "enter", "(LGrowingStacks$Task;II)V"⟩
abbrev cX2_pushFrame : ByteArray := prog_4_method_10_code
def yX2_pushFrame : MethodName := ⟨RX2, "pushFrame", "(LGrowingStacks$Task;II)V"⟩
abbrev cX2_leaveFrame : ByteArray := prog_4_method_11_code
def yX2_leaveFrame : MethodName := ⟨RX2, "leaveFrame", "(LGrowingStacks$Task;I)V"⟩
abbrev cX2_end : ByteArray := prog_4_method_12_code
def yX2_end : MethodName := ⟨RX2, "end", "(LGrowingStacks$Task;I)V"⟩
def RX3 : String := "GrowingStacks$Memory"
def TX3 : u_T := fun k => match k with
  | _ => ("GrowingStacks$Memory", "words", "[I", true)
def tyX3 : Nat → FieldType := fun k => match k with
  | _ => .array .int
theorem nmX3 : ∀ a, a < 1 → ∀ b, b < 1 → a ≠ b → (TX3 a).2.1 ≠ (TX3 b).2.1 := by decide +kernel
theorem tyX3_ok : ∀ k, k < 1 → parseFieldDescriptor (TX3 k).2.2.1 = some (tyX3 k) := by decide +kernel
abbrev cX3_init : ByteArray := prog_5_method_1_code
def yX3_init : MethodName := ⟨RX3, "<init>", "(I)V"⟩
abbrev cX3_word : ByteArray := prog_5_method_2_code
def yX3_word : MethodName := ⟨RX3, "word", "(I)I"⟩
abbrev cX3_put : ByteArray := prog_5_method_3_code
def yX3_put : MethodName := ⟨RX3, "put", "(II)V"⟩
abbrev cX3_bring : ByteArray := prog_5_method_4_code
def yX3_bring : MethodName := ⟨RX3, "bring", "(III)V"⟩
abbrev cX3_takeOver : ByteArray := prog_5_method_5_code
def yX3_takeOver : MethodName := ⟨RX3, "takeOver", "(LGrowingStacks$Memory;)V"⟩
def RX4 : String := "GrowingStacks$Mover"
def TX4 : u_T := fun k => match k with
  | 0 => ("GrowingStacks$Mover", "world", "LGrowingStacks$World;", true)
  | 1 => ("GrowingStacks$Mover", "pieces", "LGrowingStacks$Pieces;", true)
  | _ => ("GrowingStacks$Mover", "memory", "LGrowingStacks$Memory;", true)
def tyX4 : Nat → FieldType := fun k => match k with
  | 0 => .object "GrowingStacks$World"
  | 1 => .object "GrowingStacks$Pieces"
  | _ => .object "GrowingStacks$Memory"
theorem nmX4 : ∀ a, a < 3 → ∀ b, b < 3 → a ≠ b → (TX4 a).2.1 ≠ (TX4 b).2.1 := by decide +kernel
theorem tyX4_ok : ∀ k, k < 3 → parseFieldDescriptor (TX4 k).2.2.1 = some (tyX4 k) := by decide +kernel
abbrev cX4_init : ByteArray := prog_6_method_1_code
def yX4_init : MethodName := ⟨RX4, "<init>", "(LGrowingStacks$World;)V"⟩
abbrev cX4_moveInto : ByteArray := prog_6_method_2_code
def yX4_moveInto : MethodName := ⟨RX4, "moveInto", "(LGrowingStacks$Task;II)Z"⟩
abbrev cX4_linkPiece : ByteArray := prog_6_method_3_code
def yX4_linkPiece : MethodName := ⟨RX4, "linkPiece", "(LGrowingStacks$Task;I)Z"⟩
abbrev cX4_leavePiece : ByteArray := prog_6_method_4_code
def yX4_leavePiece : MethodName := ⟨RX4, "leavePiece", "(LGrowingStacks$Task;)V"⟩
abbrev cX4_dropSpare : ByteArray := prog_6_method_5_code
def yX4_dropSpare : MethodName := ⟨RX4, "dropSpare", "(LGrowingStacks$Task;)Z"⟩
abbrev cX4_keptWords : ByteArray := prog_6_method_6_code
def yX4_keptWords : MethodName := ⟨RX4, "keptWords", "(LGrowingStacks$Task;)I"⟩
abbrev cX4_makeSmaller : ByteArray := prog_6_method_7_code
def yX4_makeSmaller : MethodName := ⟨RX4, "makeSmaller", "(LGrowingStacks$Task;)Z"⟩
abbrev cX4_joinPieces : ByteArray := prog_6_method_8_code
def yX4_joinPieces : MethodName := ⟨RX4, "joinPieces", "(LGrowingStacks$Task;)Z"⟩
abbrev cX4_gather : ByteArray := prog_6_method_9_code
def yX4_gather : MethodName := ⟨RX4, "gather", "()I"⟩
abbrev cX4_bringOver : ByteArray := prog_6_method_10_code
def yX4_bringOver : MethodName := ⟨RX4, "bringOver", "(I)V"⟩
abbrev cX4_turnPlaces : ByteArray := prog_6_method_11_code
def yX4_turnPlaces : MethodName := ⟨RX4, "turnPlaces", "(LGrowingStacks$Task;)V"⟩
abbrev cX4_doubled : ByteArray := prog_6_method_12_code
def yX4_doubled : MethodName := ⟨RX4, "doubled", "(II)I"⟩
def RX5 : String := "GrowingStacks$Pieces"
def TX5 : u_T := fun k => match k with
  | 0 => ("GrowingStacks$Pieces", "place", "[I", true)
  | 1 => ("GrowingStacks$Pieces", "words", "[I", true)
  | 2 => ("GrowingStacks$Pieces", "used", "[I", true)
  | 3 => ("GrowingStacks$Pieces", "below", "[I", true)
  | 4 => ("GrowingStacks$Pieces", "owner", "[I", true)
  | 5 => ("GrowingStacks$Pieces", "order", "[I", true)
  | 6 => ("GrowingStacks$Pieces", "shift", "[I", true)
  | 7 => ("GrowingStacks$Pieces", "number", "I", false)
  | 8 => ("GrowingStacks$Pieces", "taken", "I", false)
  | _ => ("GrowingStacks$Pieces", "limit", "I", false)
def tyX5 : Nat → FieldType := fun k => match k with
  | 0 => .array .int
  | 1 => .array .int
  | 2 => .array .int
  | 3 => .array .int
  | 4 => .array .int
  | 5 => .array .int
  | 6 => .array .int
  | 7 => .int
  | 8 => .int
  | _ => .int
theorem nmX5 : ∀ a, a < 10 → ∀ b, b < 10 → a ≠ b → (TX5 a).2.1 ≠ (TX5 b).2.1 := by decide +kernel
theorem tyX5_ok : ∀ k, k < 10 → parseFieldDescriptor (TX5 k).2.2.1 = some (tyX5 k) := by decide +kernel
abbrev cX5_init : ByteArray := prog_7_method_1_code
def yX5_init : MethodName := ⟨RX5, "<init>", "()V"⟩
abbrev cX5_clear : ByteArray := prog_7_method_2_code
def yX5_clear : MethodName := ⟨RX5, "clear", "(I)V"⟩
abbrev cX5_placeOf : ByteArray := prog_7_method_3_code
def yX5_placeOf : MethodName := ⟨RX5, "placeOf", "(I)I"⟩
abbrev cX5_wordsOf : ByteArray := prog_7_method_4_code
def yX5_wordsOf : MethodName := ⟨RX5, "wordsOf", "(I)I"⟩
abbrev cX5_usedOf : ByteArray := prog_7_method_5_code
def yX5_usedOf : MethodName := ⟨RX5, "usedOf", "(I)I"⟩
abbrev cX5_belowOf : ByteArray := prog_7_method_6_code
def yX5_belowOf : MethodName := ⟨RX5, "belowOf", "(I)I"⟩
abbrev cX5_ownerOf : ByteArray := prog_7_method_7_code
def yX5_ownerOf : MethodName := ⟨RX5, "ownerOf", "(I)I"⟩
abbrev cX5_shiftOf : ByteArray := prog_7_method_8_code
def yX5_shiftOf : MethodName := ⟨RX5, "shiftOf", "(I)I"⟩
abbrev cX5_endOf : ByteArray := prog_7_method_9_code
def yX5_endOf : MethodName := ⟨RX5, "endOf", "(I)I"⟩
abbrev cX5_topOf : ByteArray := prog_7_method_10_code
def yX5_topOf : MethodName := ⟨RX5, "topOf", "(I)I"⟩
abbrev cX5_use : ByteArray := prog_7_method_11_code
def yX5_use : MethodName := ⟨RX5, "use", "(II)V"⟩
abbrev cX5_putOver : ByteArray := prog_7_method_12_code
def yX5_putOver : MethodName := ⟨RX5, "putOver", "(II)V"⟩
abbrev cX5_aimAt : ByteArray := prog_7_method_13_code
def yX5_aimAt : MethodName := ⟨RX5, "aimAt", "(II)V"⟩
abbrev cX5_settle : ByteArray := prog_7_method_14_code
def yX5_settle : MethodName := ⟨RX5, "settle", "(I)Z"⟩
abbrev cX5_idAt : ByteArray := prog_7_method_15_code
def yX5_idAt : MethodName := ⟨RX5, "idAt", "(I)I"⟩
abbrev cX5_gapFrom : ByteArray := prog_7_method_16_code
def yX5_gapFrom : MethodName := ⟨RX5, "gapFrom", "(I)I"⟩
abbrev cX5_gapTo : ByteArray := prog_7_method_17_code
def yX5_gapTo : MethodName := ⟨RX5, "gapTo", "(I)I"⟩
abbrev cX5_take : ByteArray := prog_7_method_18_code
def yX5_take : MethodName := ⟨RX5, "take", "(III)I"⟩
abbrev cX5_insert : ByteArray := prog_7_method_19_code
def yX5_insert : MethodName := ⟨RX5, "insert", "(I)I"⟩
abbrev cX5_giveBack : ByteArray := prog_7_method_20_code
def yX5_giveBack : MethodName := ⟨RX5, "giveBack", "(I)V"⟩
abbrev cX5_rankOf : ByteArray := prog_7_method_21_code
def yX5_rankOf : MethodName := ⟨RX5, "rankOf", "(I)I"⟩
abbrev cX5_holding : ByteArray := prog_7_method_22_code
def yX5_holding : MethodName := ⟨RX5, "holding", "(I)I"⟩
abbrev cX5_turned : ByteArray := prog_7_method_23_code
def yX5_turned : MethodName := ⟨RX5, "turned", "(I)I"⟩
abbrev cX5_indexOf : ByteArray := prog_7_method_24_code
def yX5_indexOf : MethodName := ⟨RX5, "indexOf", "(I)I"⟩
abbrev cX5_gaps : ByteArray := prog_7_method_25_code
def yX5_gaps : MethodName := ⟨RX5, "gaps", "()I"⟩
abbrev cX5_gapFact : ByteArray := prog_7_method_26_code
def yX5_gapFact : MethodName := ⟨RX5, "gapFact", "(II)I"⟩
abbrev cX5_greatestGap : ByteArray := prog_7_method_27_code
def yX5_greatestGap : MethodName := ⟨RX5, "greatestGap", "()I"⟩
abbrev cX5_takeOver : ByteArray := prog_7_method_28_code
def yX5_takeOver : MethodName := ⟨RX5, "takeOver", "(LGrowingStacks$Pieces;)V"⟩
def RX6 : String := "GrowingStacks$Program"
def TX6 : u_T := fun k => match k with
  | 0 => ("GrowingStacks$Program", "sizes", "[I", true)
  | 1 => ("GrowingStacks$Program", "pointers", "[I", true)
  | 2 => ("GrowingStacks$Program", "lines", "[I", true)
  | 3 => ("GrowingStacks$Program", "code", "[I", true)
  | _ => ("GrowingStacks$Program", "deeps", "[I", true)
def tyX6 : Nat → FieldType := fun k => match k with
  | 0 => .array .int
  | 1 => .array .int
  | 2 => .array .int
  | 3 => .array .int
  | _ => .array .int
theorem nmX6 : ∀ a, a < 5 → ∀ b, b < 5 → a ≠ b → (TX6 a).2.1 ≠ (TX6 b).2.1 := by decide +kernel
theorem tyX6_ok : ∀ k, k < 5 → parseFieldDescriptor (TX6 k).2.2.1 = some (tyX6 k) := by decide +kernel
abbrev cX6_init : ByteArray := prog_8_method_1_code
def yX6_init : MethodName := ⟨RX6, "<init>", "()V"⟩
abbrev cX6_told : ByteArray := prog_8_method_2_code
def yX6_told : MethodName := ⟨RX6, "told", "(I)Z"⟩
abbrev cX6_sizeOf : ByteArray := prog_8_method_3_code
def yX6_sizeOf : MethodName := ⟨RX6, "sizeOf", "(I)I"⟩
abbrev cX6_linesOf : ByteArray := prog_8_method_4_code
def yX6_linesOf : MethodName := ⟨RX6, "linesOf", "(I)I"⟩
abbrev cX6_deepOf : ByteArray := prog_8_method_5_code
def yX6_deepOf : MethodName := ⟨RX6, "deepOf", "(I)I"⟩
abbrev cX6_frameWords : ByteArray := prog_8_method_6_code
def yX6_frameWords : MethodName := ⟨RX6, "frameWords", "(I)I"⟩
abbrev cX6_hasSlot : ByteArray := prog_8_method_7_code
def yX6_hasSlot : MethodName := ⟨RX6, "hasSlot", "(II)Z"⟩
abbrev cX6_isPointer : ByteArray := prog_8_method_8_code
def yX6_isPointer : MethodName := ⟨RX6, "isPointer", "(II)Z"⟩
abbrev cX6_hasNumber : ByteArray := prog_8_method_9_code
def yX6_hasNumber : MethodName := ⟨RX6, "hasNumber", "(II)Z"⟩
abbrev cX6_hasPointer : ByteArray := prog_8_method_10_code
def yX6_hasPointer : MethodName := ⟨RX6, "hasPointer", "(II)Z"⟩
abbrev cX6_part : ByteArray := prog_8_method_11_code
def yX6_part : MethodName := ⟨RX6, "part", "(III)I"⟩
abbrev cX6_tell : ByteArray := prog_8_method_12_code
def yX6_tell : MethodName := ⟨RX6, "tell", "(III)V"⟩
abbrev cX6_allows : ByteArray := prog_8_method_13_code
def yX6_allows : MethodName := ⟨RX6, "allows", "(IIIII)Z"⟩
abbrev cX6_append : ByteArray := prog_8_method_14_code
def yX6_append : MethodName := ⟨RX6, "append", "(IIIII)I"⟩
abbrev cX6_findDeeps : ByteArray := prog_8_method_15_code
def yX6_findDeeps : MethodName := ⟨RX6, "findDeeps", "()V"⟩
abbrev cX6_deepByLines : ByteArray := prog_8_method_16_code
def yX6_deepByLines : MethodName := ⟨RX6, "deepByLines", "(I)I"⟩
abbrev cX6_calledBy : ByteArray := prog_8_method_17_code
def yX6_calledBy : MethodName := ⟨RX6, "calledBy", "(II)I"⟩
abbrev cX6_toldFunctions : ByteArray := prog_8_method_18_code
def yX6_toldFunctions : MethodName := ⟨RX6, "toldFunctions", "()I"⟩
abbrev cX6_toldLines : ByteArray := prog_8_method_19_code
def yX6_toldLines : MethodName := ⟨RX6, "toldLines", "()I"⟩
abbrev cX6_takeOver : ByteArray := prog_8_method_20_code
def yX6_takeOver : MethodName := ⟨RX6, "takeOver", "(LGrowingStacks$Program;)V"⟩
def RX7 : String := "GrowingStacks$Task"
def TX7 : u_T := fun k => match k with
  | 0 => ("GrowingStacks$Task", "number", "I", true)
  | 1 => ("GrowingStacks$Task", "state", "I", false)
  | 2 => ("GrowingStacks$Task", "mode", "I", false)
  | 3 => ("GrowingStacks$Task", "result", "I", false)
  | 4 => ("GrowingStacks$Task", "frames", "I", false)
  | 5 => ("GrowingStacks$Task", "used", "I", false)
  | 6 => ("GrowingStacks$Task", "most", "I", false)
  | 7 => ("GrowingStacks$Task", "side", "I", false)
  | 8 => ("GrowingStacks$Task", "sideUsed", "I", false)
  | 9 => ("GrowingStacks$Task", "function", "I", false)
  | 10 => ("GrowingStacks$Task", "line", "I", false)
  | 11 => ("GrowingStacks$Task", "place", "I", false)
  | 12 => ("GrowingStacks$Task", "last", "I", false)
  | 13 => ("GrowingStacks$Task", "spare", "I", false)
  | 14 => ("GrowingStacks$Task", "reach", "I", false)
  | 15 => ("GrowingStacks$Task", "startFunction", "I", false)
  | 16 => ("GrowingStacks$Task", "startNumber", "I", false)
  | _ => ("GrowingStacks$Task", "sums", "[I", true)
def tyX7 : Nat → FieldType := fun k => match k with
  | 0 => .int
  | 1 => .int
  | 2 => .int
  | 3 => .int
  | 4 => .int
  | 5 => .int
  | 6 => .int
  | 7 => .int
  | 8 => .int
  | 9 => .int
  | 10 => .int
  | 11 => .int
  | 12 => .int
  | 13 => .int
  | 14 => .int
  | 15 => .int
  | 16 => .int
  | _ => .array .int
theorem nmX7 : ∀ a, a < 18 → ∀ b, b < 18 → a ≠ b → (TX7 a).2.1 ≠ (TX7 b).2.1 := by decide +kernel
theorem tyX7_ok : ∀ k, k < 18 → parseFieldDescriptor (TX7 k).2.2.1 = some (tyX7 k) := by decide +kernel
abbrev cX7_init : ByteArray := prog_9_method_1_code
def yX7_init : MethodName := ⟨RX7, "<init>", "(I)V"⟩
abbrev cX7_on : ByteArray := prog_9_method_2_code
def yX7_on : MethodName := ⟨RX7, "on", "()Z"⟩
abbrev cX7_clear : ByteArray := prog_9_method_3_code
def yX7_clear : MethodName := ⟨RX7, "clear", "()V"⟩
abbrev cX7_dropStack : ByteArray := prog_9_method_4_code
def yX7_dropStack : MethodName := ⟨RX7, "dropStack", "()V"⟩
abbrev cX7_takeOver : ByteArray := prog_9_method_5_code
def yX7_takeOver : MethodName := ⟨RX7, "takeOver", "(LGrowingStacks$Task;)V"⟩
def RX8 : String := "GrowingStacks$Walk"
def TX8 : u_T := fun k => match k with
  | 0 => ("GrowingStacks$Walk", "memory", "LGrowingStacks$Memory;", true)
  | 1 => ("GrowingStacks$Walk", "place", "I", false)
  | 2 => ("GrowingStacks$Walk", "function", "I", false)
  | _ => ("GrowingStacks$Walk", "line", "I", false)
def tyX8 : Nat → FieldType := fun k => match k with
  | 0 => .object "GrowingStacks$Memory"
  | 1 => .int
  | 2 => .int
  | _ => .int
theorem nmX8 : ∀ a, a < 4 → ∀ b, b < 4 → a ≠ b → (TX8 a).2.1 ≠ (TX8 b).2.1 := by decide +kernel
theorem tyX8_ok : ∀ k, k < 4 → parseFieldDescriptor (TX8 k).2.2.1 = some (tyX8 k) := by decide +kernel
abbrev cX8_init : ByteArray := prog_10_method_1_code
def yX8_init : MethodName := ⟨RX8, "<init>", "(LGrowingStacks$Memory;)V"⟩
abbrev cX8_toLast : ByteArray := prog_10_method_2_code
def yX8_toLast : MethodName := ⟨RX8, "toLast", "(LGrowingStacks$Task;)V"⟩
abbrev cX8_toCaller : ByteArray := prog_10_method_3_code
def yX8_toCaller : MethodName := ⟨RX8, "toCaller", "()V"⟩
abbrev cX8_toFrame : ByteArray := prog_10_method_4_code
def yX8_toFrame : MethodName := ⟨RX8, "toFrame", "(LGrowingStacks$Task;I)V"⟩
abbrev cX8_toPlace : ByteArray := prog_10_method_5_code
def yX8_toPlace : MethodName := ⟨RX8, "toPlace", "(LGrowingStacks$Task;ILGrowingStacks$Program;)I"⟩
def RX9 : String := "GrowingStacks$World"
def TX9 : u_T := fun k => match k with
  | 0 => ("GrowingStacks$World", "program", "LGrowingStacks$Program;", true)
  | 1 => ("GrowingStacks$World", "settings", "[I", true)
  | 2 => ("GrowingStacks$World", "memory", "LGrowingStacks$Memory;", true)
  | 3 => ("GrowingStacks$World", "pieces", "LGrowingStacks$Pieces;", true)
  | 4 => ("GrowingStacks$World", "tasks", "[LGrowingStacks$Task;", true)
  | 5 => ("GrowingStacks$World", "log", "LGrowingStacks$Log;", true)
  | 6 => ("GrowingStacks$World", "sums", "[I", true)
  | 7 => ("GrowingStacks$World", "walk", "LGrowingStacks$Walk;", true)
  | _ => ("GrowingStacks$World", "otherResults", "I", false)
def tyX9 : Nat → FieldType := fun k => match k with
  | 0 => .object "GrowingStacks$Program"
  | 1 => .array .int
  | 2 => .object "GrowingStacks$Memory"
  | 3 => .object "GrowingStacks$Pieces"
  | 4 => .array (.object "GrowingStacks$Task")
  | 5 => .object "GrowingStacks$Log"
  | 6 => .array .int
  | 7 => .object "GrowingStacks$Walk"
  | _ => .int
theorem nmX9 : ∀ a, a < 9 → ∀ b, b < 9 → a ≠ b → (TX9 a).2.1 ≠ (TX9 b).2.1 := by decide +kernel
theorem tyX9_ok : ∀ k, k < 9 → parseFieldDescriptor (TX9 k).2.2.1 = some (tyX9 k) := by decide +kernel
abbrev cX9_init : ByteArray := prog_11_method_1_code
def yX9_init : MethodName := ⟨RX9, "<init>", "(ILGrowingStacks$Program;)V"⟩
abbrev cX9_clear : ByteArray := prog_11_method_2_code
def yX9_clear : MethodName := ⟨RX9, "clear", "(I)V"⟩
abbrev cX9_takeOver : ByteArray := prog_11_method_3_code
def yX9_takeOver : MethodName := ⟨RX9, "takeOver", "(LGrowingStacks$World;)V"⟩
abbrev cX9_add : ByteArray := prog_11_method_4_code
def yX9_add : MethodName := ⟨RX9, "add", "(LGrowingStacks$Task;II)V"⟩
abbrev cX9_writeLog : ByteArray := prog_11_method_5_code
def yX9_writeLog : MethodName := ⟨RX9, "writeLog", "(II)V"⟩
abbrev cX9_busy : ByteArray := prog_11_method_6_code
def yX9_busy : MethodName := ⟨RX9, "busy", "()Z"⟩
abbrev cX9_tasksThatAre : ByteArray := prog_11_method_7_code
def yX9_tasksThatAre : MethodName := ⟨RX9, "tasksThatAre", "(I)I"⟩
abbrev cX9_sidesTaken : ByteArray := prog_11_method_8_code
def yX9_sidesTaken : MethodName := ⟨RX9, "sidesTaken", "()I"⟩
abbrev cX9_freeSide : ByteArray := prog_11_method_9_code
def yX9_freeSide : MethodName := ⟨RX9, "freeSide", "()I"⟩
abbrev cX9_covers : ByteArray := prog_11_method_10_code
def yX9_covers : MethodName := ⟨RX9, "covers", "(I)Z"⟩
abbrev cX9_needOf : ByteArray := prog_11_method_11_code
def yX9_needOf : MethodName := ⟨RX9, "needOf", "(I)I"⟩
abbrev cX9_lastCovered : ByteArray := prog_11_method_12_code
def yX9_lastCovered : MethodName := ⟨RX9, "lastCovered", "(LGrowingStacks$Task;)Z"⟩
abbrev cX9_piecesOf : ByteArray := prog_11_method_13_code
def yX9_piecesOf : MethodName := ⟨RX9, "piecesOf", "(LGrowingStacks$Task;)I"⟩
abbrev cX9_wordsOf : ByteArray := prog_11_method_14_code
def yX9_wordsOf : MethodName := ⟨RX9, "wordsOf", "(LGrowingStacks$Task;)I"⟩
abbrev cX9_pieceOf : ByteArray := prog_11_method_15_code
def yX9_pieceOf : MethodName := ⟨RX9, "pieceOf", "(LGrowingStacks$Task;I)I"⟩
abbrev cX9_releasePieces : ByteArray := prog_11_method_16_code
def yX9_releasePieces : MethodName := ⟨RX9, "releasePieces", "(LGrowingStacks$Task;)V"⟩
def RX10 : String := "GrowingStacks"
def TX10 : u_T := fun k => match k with
  | 0 => ("GrowingStacks", "now", "LGrowingStacks$World;", true)
  | 1 => ("GrowingStacks", "machine", "LGrowingStacks$Machine;", true)
  | 2 => ("GrowingStacks", "guard", "LGrowingStacks$Guard;", true)
  | 3 => ("GrowingStacks", "thought", "LGrowingStacks$World;", true)
  | 4 => ("GrowingStacks", "thinker", "LGrowingStacks$Machine;", true)
  | 5 => ("GrowingStacks", "kept", "LGrowingStacks$World;", true)
  | _ => ("GrowingStacks", "imageTaken", "Z", false)
def tyX10 : Nat → FieldType := fun k => match k with
  | 0 => .object "GrowingStacks$World"
  | 1 => .object "GrowingStacks$Machine"
  | 2 => .object "GrowingStacks$Guard"
  | 3 => .object "GrowingStacks$World"
  | 4 => .object "GrowingStacks$Machine"
  | 5 => .object "GrowingStacks$World"
  | _ => .boolean
theorem nmX10 : ∀ a, a < 7 → ∀ b, b < 7 → a ≠ b → (TX10 a).2.1 ≠ (TX10 b).2.1 := by decide +kernel
theorem tyX10_ok : ∀ k, k < 7 → parseFieldDescriptor (TX10 k).2.2.1 = some (tyX10 k) := by decide +kernel
abbrev cX10_init : ByteArray := prog_1_method_1_code
def yX10_init : MethodName := ⟨RX10, "<init>", "()V"⟩
abbrev cX10_set : ByteArray := prog_1_method_2_code
def yX10_set : MethodName := ⟨RX10, "set", "(II)Z"⟩
abbrev cX10_function : ByteArray := prog_1_method_3_code
def yX10_function : MethodName := ⟨RX10, "function", "(III)Z"⟩
abbrev cX10_line : ByteArray := prog_1_method_4_code
def yX10_line : MethodName := ⟨RX10, "line", "(IIIII)I"⟩
abbrev cX10_start : ByteArray := prog_1_method_5_code
def yX10_start : MethodName := ⟨RX10, "start", "(IIII)Z"⟩
abbrev cX10_step : ByteArray := prog_1_method_6_code
def yX10_step : MethodName := ⟨RX10, "step", "(II)I"⟩
abbrev cX10_round : ByteArray := prog_1_method_7_code
def yX10_round : MethodName := ⟨RX10, "round", "(I)I"⟩
abbrev cX10_stop : ByteArray := prog_1_method_8_code
def yX10_stop : MethodName := ⟨RX10, "stop", "(I)Z"⟩
abbrev cX10_quiet : ByteArray := prog_1_method_9_code
def yX10_quiet : MethodName := ⟨RX10, "quiet", "(I)Z"⟩
abbrev cX10_join : ByteArray := prog_1_method_10_code
def yX10_join : MethodName := ⟨RX10, "join", "(I)Z"⟩
abbrev cX10_compact : ByteArray := prog_1_method_11_code
def yX10_compact : MethodName := ⟨RX10, "compact", "()I"⟩
abbrev cX10_deep : ByteArray := prog_1_method_12_code
def yX10_deep : MethodName := ⟨RX10, "deep", "(I)I"⟩
abbrev cX10_need : ByteArray := prog_1_method_13_code
def yX10_need : MethodName := ⟨RX10, "need", "(I)I"⟩
abbrev cX10_task : ByteArray := prog_1_method_14_code
def yX10_task : MethodName := ⟨RX10, "task", "(II)I"⟩
abbrev cX10_frame : ByteArray := prog_1_method_15_code
def yX10_frame : MethodName := ⟨RX10, "frame", "(III)I"⟩
abbrev cX10_slot : ByteArray := prog_1_method_16_code
def yX10_slot : MethodName := ⟨RX10, "slot", "(IIII)I"⟩
abbrev cX10_piece : ByteArray := prog_1_method_17_code
def yX10_piece : MethodName := ⟨RX10, "piece", "(III)I"⟩
abbrev cX10_gap : ByteArray := prog_1_method_18_code
def yX10_gap : MethodName := ⟨RX10, "gap", "(II)I"⟩
abbrev cX10_endless : ByteArray := prog_1_method_19_code
def yX10_endless : MethodName := ⟨RX10, "endless", "(III)I"⟩
abbrev cX10_land : ByteArray := prog_1_method_20_code
def yX10_land : MethodName := ⟨RX10, "land", "(III)I"⟩
abbrev cX10_alone : ByteArray := prog_1_method_21_code
def yX10_alone : MethodName := ⟨RX10, "alone", "(IIII)I"⟩
abbrev cX10_log : ByteArray := prog_1_method_22_code
def yX10_log : MethodName := ⟨RX10, "log", "(II)I"⟩
abbrev cX10_never : ByteArray := prog_1_method_23_code
def yX10_never : MethodName := ⟨RX10, "never", "(I)I"⟩
abbrev cX10_count : ByteArray := prog_1_method_24_code
def yX10_count : MethodName := ⟨RX10, "count", "(I)I"⟩
abbrev cX10_image : ByteArray := prog_1_method_25_code
def yX10_image : MethodName := ⟨RX10, "image", "(Z)Z"⟩
abbrev cX10_look : ByteArray := prog_1_method_26_code
def yX10_look : MethodName := ⟨RX10, "look", "(I)I"⟩
abbrev cX10_isTask : ByteArray := prog_1_method_27_code
def yX10_isTask : MethodName := ⟨RX10, "isTask", "(I)Z"⟩
abbrev cX10_isFunction : ByteArray := prog_1_method_28_code
def yX10_isFunction : MethodName := ⟨RX10, "isFunction", "(I)Z"⟩
abbrev cX10_hasFrame : ByteArray := prog_1_method_29_code
def yX10_hasFrame : MethodName := ⟨RX10, "hasFrame", "(II)Z"⟩
abbrev cX10_compareResults : ByteArray := prog_1_method_30_code
def yX10_compareResults : MethodName := ⟨RX10, "compareResults", "(LGrowingStacks$Task;LGrowingStacks$Task;)V"⟩
abbrev cX10_thinkEndless : ByteArray := prog_1_method_31_code
def yX10_thinkEndless : MethodName := ⟨RX10, "thinkEndless", "(II)LGrowingStacks$Task;"⟩
abbrev cX10_thinkAlone : ByteArray := prog_1_method_32_code
def yX10_thinkAlone : MethodName := ⟨RX10, "thinkAlone", "(IIII)I"⟩
abbrev cX10_leastFirstFor : ByteArray := prog_1_method_33_code
def yX10_leastFirstFor : MethodName := ⟨RX10, "leastFirstFor", "(I)I"⟩
def RX11 : String := "GrowingStacksModel"
def TX11 : u_T := fun k => match k with
  | 0 => ("GrowingStacksModel", "w", "[I", true)
  | 1 => ("GrowingStacksModel", "aside", "[I", true)
  | 2 => ("GrowingStacksModel", "kept", "[I", true)
  | 3 => ("GrowingStacksModel", "endless", "[I", true)
  | 4 => ("GrowingStacksModel", "hasImage", "Z", false)
  | 5 => ("GrowingStacksModel", "isEndless", "Z", false)
  | 6 => ("GrowingStacksModel", "from", "[I", true)
  | 7 => ("GrowingStacksModel", "size", "[I", true)
  | 8 => ("GrowingStacksModel", "to", "[I", true)
  | 9 => ("GrowingStacksModel", "parts", "I", false)
  | 10 => ("GrowingStacksModel", "grew", "Z", false)
  | 11 => ("GrowingStacksModel", "itsPlace", "I", false)
  | 12 => ("GrowingStacksModel", "itsFunction", "I", false)
  | 13 => ("GrowingStacksModel", "itsLine", "I", false)
  | _ => ("GrowingStacksModel", "isTaken", "[Z", true)
def tyX11 : Nat → FieldType := fun k => match k with
  | 0 => .array .int
  | 1 => .array .int
  | 2 => .array .int
  | 3 => .array .int
  | 4 => .boolean
  | 5 => .boolean
  | 6 => .array .int
  | 7 => .array .int
  | 8 => .array .int
  | 9 => .int
  | 10 => .boolean
  | 11 => .int
  | 12 => .int
  | 13 => .int
  | _ => .array .boolean
theorem nmX11 : ∀ a, a < 15 → ∀ b, b < 15 → a ≠ b → (TX11 a).2.1 ≠ (TX11 b).2.1 := by decide +kernel
theorem tyX11_ok : ∀ k, k < 15 → parseFieldDescriptor (TX11 k).2.2.1 = some (tyX11 k) := by decide +kernel
abbrev cX11_isIn : ByteArray := prog_13_method_1_code
def yX11_isIn : MethodName := ⟨RX11, "isIn", "(III)Z"⟩
abbrev cX11_has : ByteArray := prog_13_method_2_code
def yX11_has : MethodName := ⟨RX11, "has", "(II)Z"⟩
abbrev cX11_copies : ByteArray := prog_13_method_3_code
def yX11_copies : MethodName := ⟨RX11, "copies", "([I[I)V"⟩
abbrev cX11_init : ByteArray := prog_13_method_4_code
def yX11_init : MethodName := ⟨RX11, "<init>", "()V"⟩
abbrev cX11_clears : ByteArray := prog_13_method_5_code
def yX11_clears : MethodName := ⟨RX11, "clears", "(I)V"⟩
abbrev cX11_word : ByteArray := prog_13_method_6_code
def yX11_word : MethodName := ⟨RX11, "word", "(I)I"⟩
abbrev cX11_lays : ByteArray := prog_13_method_7_code
def yX11_lays : MethodName := ⟨RX11, "lays", "(II)V"⟩
abbrev cX11_counts : ByteArray := prog_13_method_8_code
def yX11_counts : MethodName := ⟨RX11, "counts", "(II)V"⟩
abbrev cX11_logs : ByteArray := prog_13_method_9_code
def yX11_logs : MethodName := ⟨RX11, "logs", "(IIII)V"⟩
abbrev cX11_isBusy : ByteArray := prog_13_method_10_code
def yX11_isBusy : MethodName := ⟨RX11, "isBusy", "(I)Z"⟩
abbrev cX11_isAnyBusy : ByteArray := prog_13_method_11_code
def yX11_isAnyBusy : MethodName := ⟨RX11, "isAnyBusy", "()Z"⟩
abbrev cX11_canBe : ByteArray := prog_13_method_12_code
def yX11_canBe : MethodName := ⟨RX11, "canBe", "(II)Z"⟩
abbrev cX11_set : ByteArray := prog_13_method_13_code
def yX11_set : MethodName := ⟨RX11, "set", "(II)Z"⟩
abbrev cX11_isFunction : ByteArray := prog_13_method_14_code
def yX11_isFunction : MethodName := ⟨RX11, "isFunction", "(I)Z"⟩
abbrev cX11_isTold : ByteArray := prog_13_method_15_code
def yX11_isTold : MethodName := ⟨RX11, "isTold", "(I)Z"⟩
abbrev cX11_function : ByteArray := prog_13_method_16_code
def yX11_function : MethodName := ⟨RX11, "function", "(III)Z"⟩
abbrev cX11_isSlot : ByteArray := prog_13_method_17_code
def yX11_isSlot : MethodName := ⟨RX11, "isSlot", "(II)Z"⟩
abbrev cX11_isPointer : ByteArray := prog_13_method_18_code
def yX11_isPointer : MethodName := ⟨RX11, "isPointer", "(II)Z"⟩
abbrev cX11_isNumber : ByteArray := prog_13_method_19_code
def yX11_isNumber : MethodName := ⟨RX11, "isNumber", "(II)Z"⟩
abbrev cX11_canLine : ByteArray := prog_13_method_20_code
def yX11_canLine : MethodName := ⟨RX11, "canLine", "(IIIII)Z"⟩
abbrev cX11_codeAt : ByteArray := prog_13_method_21_code
def yX11_codeAt : MethodName := ⟨RX11, "codeAt", "(II)I"⟩
abbrev cX11_line : ByteArray := prog_13_method_22_code
def yX11_line : MethodName := ⟨RX11, "line", "(IIIII)I"⟩
abbrev cX11_calledBy : ByteArray := prog_13_method_23_code
def yX11_calledBy : MethodName := ⟨RX11, "calledBy", "(I)I"⟩
abbrev cX11_reachedBy : ByteArray := prog_13_method_24_code
def yX11_reachedBy : MethodName := ⟨RX11, "reachedBy", "(I)I"⟩
abbrev cX11_isEndlessOne : ByteArray := prog_13_method_25_code
def yX11_isEndlessOne : MethodName := ⟨RX11, "isEndlessOne", "(I)Z"⟩
abbrev cX11_frameOf : ByteArray := prog_13_method_26_code
def yX11_frameOf : MethodName := ⟨RX11, "frameOf", "(I)I"⟩
abbrev cX11_depth : ByteArray := prog_13_method_27_code
def yX11_depth : MethodName := ⟨RX11, "depth", "(I)I"⟩
abbrev cX11_deepOf : ByteArray := prog_13_method_28_code
def yX11_deepOf : MethodName := ⟨RX11, "deepOf", "(I)I"⟩
abbrev cX11_isMerged : ByteArray := prog_13_method_29_code
def yX11_isMerged : MethodName := ⟨RX11, "isMerged", "(I)Z"⟩
abbrev cX11_needOf : ByteArray := prog_13_method_30_code
def yX11_needOf : MethodName := ⟨RX11, "needOf", "(I)I"⟩
abbrev cX11_deep : ByteArray := prog_13_method_31_code
def yX11_deep : MethodName := ⟨RX11, "deep", "(I)I"⟩
abbrev cX11_need : ByteArray := prog_13_method_32_code
def yX11_need : MethodName := ⟨RX11, "need", "(I)I"⟩
abbrev cX11_gapFor : ByteArray := prog_13_method_33_code
def yX11_gapFor : MethodName := ⟨RX11, "gapFor", "(I)I"⟩
abbrev cX11_shifts : ByteArray := prog_13_method_34_code
def yX11_shifts : MethodName := ⟨RX11, "shifts", "(II)V"⟩
abbrev cX11_takes : ByteArray := prog_13_method_35_code
def yX11_takes : MethodName := ⟨RX11, "takes", "(IIII)V"⟩
abbrev cX11_gives : ByteArray := prog_13_method_36_code
def yX11_gives : MethodName := ⟨RX11, "gives", "(I)V"⟩
abbrev cX11_pieceOf : ByteArray := prog_13_method_37_code
def yX11_pieceOf : MethodName := ⟨RX11, "pieceOf", "(II)I"⟩
abbrev cX11_pieceAt : ByteArray := prog_13_method_38_code
def yX11_pieceAt : MethodName := ⟨RX11, "pieceAt", "(I)I"⟩
abbrev cX11_lastPiece : ByteArray := prog_13_method_39_code
def yX11_lastPiece : MethodName := ⟨RX11, "lastPiece", "(I)I"⟩
abbrev cX11_givesAll : ByteArray := prog_13_method_40_code
def yX11_givesAll : MethodName := ⟨RX11, "givesAll", "(I)V"⟩
abbrev cX11_givesSpare : ByteArray := prog_13_method_41_code
def yX11_givesSpare : MethodName := ⟨RX11, "givesSpare", "(I)Z"⟩
abbrev cX11_isOut : ByteArray := prog_13_method_42_code
def yX11_isOut : MethodName := ⟨RX11, "isOut", "(I)V"⟩
abbrev cX11_part : ByteArray := prog_13_method_43_code
def yX11_part : MethodName := ⟨RX11, "part", "(III)V"⟩
abbrev cX11_goalOf : ByteArray := prog_13_method_44_code
def yX11_goalOf : MethodName := ⟨RX11, "goalOf", "(I)I"⟩
abbrev cX11_carries : ByteArray := prog_13_method_45_code
def yX11_carries : MethodName := ⟨RX11, "carries", "()V"⟩
abbrev cX11_turns : ByteArray := prog_13_method_46_code
def yX11_turns : MethodName := ⟨RX11, "turns", "(I)V"⟩
abbrev cX11_moves : ByteArray := prog_13_method_47_code
def yX11_moves : MethodName := ⟨RX11, "moves", "(II)Z"⟩
abbrev cX11_isCovered : ByteArray := prog_13_method_48_code
def yX11_isCovered : MethodName := ⟨RX11, "isCovered", "(I)Z"⟩
abbrev cX11_keptOf : ByteArray := prog_13_method_49_code
def yX11_keptOf : MethodName := ⟨RX11, "keptOf", "(I)I"⟩
abbrev cX11_quiets : ByteArray := prog_13_method_50_code
def yX11_quiets : MethodName := ⟨RX11, "quiets", "(I)Z"⟩
abbrev cX11_grows : ByteArray := prog_13_method_51_code
def yX11_grows : MethodName := ⟨RX11, "grows", "(II)Z"⟩
abbrev cX11_topOf : ByteArray := prog_13_method_52_code
def yX11_topOf : MethodName := ⟨RX11, "topOf", "(I)I"⟩
abbrev cX11_roomFor : ByteArray := prog_13_method_53_code
def yX11_roomFor : MethodName := ⟨RX11, "roomFor", "(II)I"⟩
abbrev cX11_calls : ByteArray := prog_13_method_54_code
def yX11_calls : MethodName := ⟨RX11, "calls", "(IIIII)V"⟩
abbrev cX11_returns : ByteArray := prog_13_method_55_code
def yX11_returns : MethodName := ⟨RX11, "returns", "(II)V"⟩
abbrev cX11_leaves : ByteArray := prog_13_method_56_code
def yX11_leaves : MethodName := ⟨RX11, "leaves", "(II)V"⟩
abbrev cX11_isDone : ByteArray := prog_13_method_57_code
def yX11_isDone : MethodName := ⟨RX11, "isDone", "(II)V"⟩
abbrev cX11_foreignOver : ByteArray := prog_13_method_58_code
def yX11_foreignOver : MethodName := ⟨RX11, "foreignOver", "(II)V"⟩
abbrev cX11_freeSide : ByteArray := prog_13_method_59_code
def yX11_freeSide : MethodName := ⟨RX11, "freeSide", "()I"⟩
abbrev cX11_hasSide : ByteArray := prog_13_method_60_code
def yX11_hasSide : MethodName := ⟨RX11, "hasSide", "(II)Z"⟩
abbrev cX11_foreign : ByteArray := prog_13_method_61_code
def yX11_foreign : MethodName := ⟨RX11, "foreign", "(IIII)V"⟩
abbrev cX11_steps : ByteArray := prog_13_method_62_code
def yX11_steps : MethodName := ⟨RX11, "steps", "(I)V"⟩
abbrev cX11_begins : ByteArray := prog_13_method_63_code
def yX11_begins : MethodName := ⟨RX11, "begins", "(IIII)Z"⟩
abbrev cX11_isTask : ByteArray := prog_13_method_64_code
def yX11_isTask : MethodName := ⟨RX11, "isTask", "(I)Z"⟩
abbrev cX11_start : ByteArray := prog_13_method_65_code
def yX11_start : MethodName := ⟨RX11, "start", "(IIII)Z"⟩
abbrev cX11_runs : ByteArray := prog_13_method_66_code
def yX11_runs : MethodName := ⟨RX11, "runs", "(II)I"⟩
abbrev cX11_step : ByteArray := prog_13_method_67_code
def yX11_step : MethodName := ⟨RX11, "step", "(II)I"⟩
abbrev cX11_round : ByteArray := prog_13_method_68_code
def yX11_round : MethodName := ⟨RX11, "round", "(I)I"⟩
abbrev cX11_stop : ByteArray := prog_13_method_69_code
def yX11_stop : MethodName := ⟨RX11, "stop", "(I)Z"⟩
abbrev cX11_quiet : ByteArray := prog_13_method_70_code
def yX11_quiet : MethodName := ⟨RX11, "quiet", "(I)Z"⟩
abbrev cX11_usedIn : ByteArray := prog_13_method_71_code
def yX11_usedIn : MethodName := ⟨RX11, "usedIn", "(II)I"⟩
abbrev cX11_join : ByteArray := prog_13_method_72_code
def yX11_join : MethodName := ⟨RX11, "join", "(I)Z"⟩
abbrev cX11_compact : ByteArray := prog_13_method_73_code
def yX11_compact : MethodName := ⟨RX11, "compact", "()I"⟩
abbrev cX11_piecesOf : ByteArray := prog_13_method_74_code
def yX11_piecesOf : MethodName := ⟨RX11, "piecesOf", "(I)I"⟩
abbrev cX11_wordsOf : ByteArray := prog_13_method_75_code
def yX11_wordsOf : MethodName := ⟨RX11, "wordsOf", "(I)I"⟩
abbrev cX11_task : ByteArray := prog_13_method_76_code
def yX11_task : MethodName := ⟨RX11, "task", "(II)I"⟩
abbrev cX11_looksAt : ByteArray := prog_13_method_77_code
def yX11_looksAt : MethodName := ⟨RX11, "looksAt", "(II)V"⟩
abbrev cX11_goesBack : ByteArray := prog_13_method_78_code
def yX11_goesBack : MethodName := ⟨RX11, "goesBack", "()V"⟩
abbrev cX11_isFrame : ByteArray := prog_13_method_79_code
def yX11_isFrame : MethodName := ⟨RX11, "isFrame", "(II)Z"⟩
abbrev cX11_frame : ByteArray := prog_13_method_80_code
def yX11_frame : MethodName := ⟨RX11, "frame", "(III)I"⟩
abbrev cX11_pointed : ByteArray := prog_13_method_81_code
def yX11_pointed : MethodName := ⟨RX11, "pointed", "(II)I"⟩
abbrev cX11_slot : ByteArray := prog_13_method_82_code
def yX11_slot : MethodName := ⟨RX11, "slot", "(IIII)I"⟩
abbrev cX11_piece : ByteArray := prog_13_method_83_code
def yX11_piece : MethodName := ⟨RX11, "piece", "(III)I"⟩
abbrev cX11_gap : ByteArray := prog_13_method_84_code
def yX11_gap : MethodName := ⟨RX11, "gap", "(II)I"⟩
abbrev cX11_runsEndless : ByteArray := prog_13_method_85_code
def yX11_runsEndless : MethodName := ⟨RX11, "runsEndless", "(II)Z"⟩
abbrev cX11_endless : ByteArray := prog_13_method_86_code
def yX11_endless : MethodName := ⟨RX11, "endless", "(III)I"⟩
abbrev cX11_land : ByteArray := prog_13_method_87_code
def yX11_land : MethodName := ⟨RX11, "land", "(III)I"⟩
abbrev cX11_runsAlone : ByteArray := prog_13_method_88_code
def yX11_runsAlone : MethodName := ⟨RX11, "runsAlone", "(III)I"⟩
abbrev cX11_alone : ByteArray := prog_13_method_89_code
def yX11_alone : MethodName := ⟨RX11, "alone", "(IIII)I"⟩
abbrev cX11_log : ByteArray := prog_13_method_90_code
def yX11_log : MethodName := ⟨RX11, "log", "(II)I"⟩
abbrev cX11_wrongWords : ByteArray := prog_13_method_91_code
def yX11_wrongWords : MethodName := ⟨RX11, "wrongWords", "(I)I"⟩
abbrev cX11_wrongFrames : ByteArray := prog_13_method_92_code
def yX11_wrongFrames : MethodName := ⟨RX11, "wrongFrames", "(I)I"⟩
abbrev cX11_never : ByteArray := prog_13_method_93_code
def yX11_never : MethodName := ⟨RX11, "never", "(I)I"⟩
abbrev cX11_count : ByteArray := prog_13_method_94_code
def yX11_count : MethodName := ⟨RX11, "count", "(I)I"⟩
abbrev cX11_image : ByteArray := prog_13_method_95_code
def yX11_image : MethodName := ⟨RX11, "image", "(Z)Z"⟩
abbrev cX11_greatestGap : ByteArray := prog_13_method_96_code
def yX11_greatestGap : MethodName := ⟨RX11, "greatestGap", "()I"⟩
abbrev cX11_statesOf : ByteArray := prog_13_method_97_code
def yX11_statesOf : MethodName := ⟨RX11, "statesOf", "(I)I"⟩
abbrev cX11_told : ByteArray := prog_13_method_98_code
def yX11_told : MethodName := ⟨RX11, "told", "(Z)I"⟩
abbrev cX11_look : ByteArray := prog_13_method_99_code
def yX11_look : MethodName := ⟨RX11, "look", "(I)I"⟩
def RJ9 : String := "java/lang/Math"
def TJ9 : u_T := fun k => match k with
  | _ => ("", "", "", false)
def tyJ9 : Nat → FieldType := fun k => match k with
  | _ => .int
theorem nmJ9 : ∀ a, a < 0 → ∀ b, b < 0 → a ≠ b → (TJ9 a).2.1 ≠ (TJ9 b).2.1 := by decide +kernel
theorem tyJ9_ok : ∀ k, k < 0 → parseFieldDescriptor (TJ9 k).2.2.1 = some (tyJ9 k) := by decide +kernel
abbrev cJ9_max_7cf53 : ByteArray := prog_14_method_65_code
def yJ9_max_7cf53 : MethodName := ⟨RJ9, "max", "(II)I"⟩
abbrev cJ9_min_7cf53 : ByteArray := prog_14_method_69_code
def yJ9_min_7cf53 : MethodName := ⟨RJ9, "min", "(II)I"⟩
def RJ10 : String := "java/lang/System"
def TJ10 : u_T := fun k => match k with
  | _ => ("", "", "", false)
def tyJ10 : Nat → FieldType := fun k => match k with
  | _ => .int
theorem nmJ10 : ∀ a, a < 0 → ∀ b, b < 0 → a ≠ b → (TJ10 a).2.1 ≠ (TJ10 b).2.1 := by decide +kernel
theorem tyJ10_ok : ∀ k, k < 0 → parseFieldDescriptor (TJ10 k).2.2.1 = some (tyJ10 k) := by decide +kernel
def RJ7 : String := "java/util/Arrays"
def TJ7 : u_T := fun k => match k with
  | _ => ("", "", "", false)
def tyJ7 : Nat → FieldType := fun k => match k with
  | _ => .int
theorem nmJ7 : ∀ a, a < 0 → ∀ b, b < 0 → a ≠ b → (TJ7 a).2.1 ≠ (TJ7 b).2.1 := by decide +kernel
theorem tyJ7_ok : ∀ k, k < 0 → parseFieldDescriptor (TJ7 k).2.2.1 = some (tyJ7 k) := by decide +kernel
abbrev cJ7_fill_53178 : ByteArray := prog_16_method_103_code
def yJ7_fill_53178 : MethodName := ⟨RJ7, "fill", "([II)V"⟩
def RL : String := "GrowingStacksLaw"
abbrev cL_law : ByteArray := code
def yL_law : MethodName := ⟨RL, "law", "([I)Z"⟩
abbrev vwCl : List vw_C := [(RX0, TX0, 5), (RX1, TX1, 2), (RX2, TX2, 5), (RX3, TX3, 1), (RX4, TX4, 3), (RX5, TX5, 10), (RX6, TX6, 5), (RX7, TX7, 18), (RX8, TX8, 4), (RX9, TX9, 9), (RX10, TX10, 7), (RX11, TX11, 15)]
