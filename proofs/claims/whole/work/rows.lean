section
-- ===== PART A: goes FIRST, ahead of the names: the tables' words, and 'selects' of the private methods out of them =====
/-- a private method of a class that the tables say can be made, by its rows of tables_1 -/
def lw_okq (q : MethodName × Nat) : Prop := (q.1.cls ≠ "java/lang/invoke/MethodHandle" ∧ q.1.cls ≠ "java/lang/invoke/VarHandle") ∧ Cond.instantiable q.1.cls q.2 ∈ tables_1 ∧ Cond.privateMethod q.1 ∈ tables_1 ∧ Cond.instanceMethod q.1 ∈ tables_1
theorem lw_p0 : lw_okq (⟨"FieldTower$Tape", "skipBlanks", "()V"⟩, 6) := ⟨⟨by decide +kernel, by decide +kernel⟩, List.mem_of_getElem? (i := 26) (by decide +kernel), List.mem_of_getElem? (i := 353) (by decide +kernel), List.mem_of_getElem? (i := 354) (by decide +kernel)⟩
theorem lw_p1 : lw_okq (⟨"FieldTower$Tape", "isLetter", "(I)Z"⟩, 6) := ⟨⟨by decide +kernel, by decide +kernel⟩, List.mem_of_getElem? (i := 26) (by decide +kernel), List.mem_of_getElem? (i := 360) (by decide +kernel), List.mem_of_getElem? (i := 361) (by decide +kernel)⟩
theorem lw_p2 : lw_okq (⟨"FieldTower$Tape", "scanWord", "()V"⟩, 6) := ⟨⟨by decide +kernel, by decide +kernel⟩, List.mem_of_getElem? (i := 26) (by decide +kernel), List.mem_of_getElem? (i := 364) (by decide +kernel), List.mem_of_getElem? (i := 365) (by decide +kernel)⟩
theorem lw_p3 : lw_okq (⟨"FieldTower$Tape", "isDigit", "(I)Z"⟩, 6) := ⟨⟨by decide +kernel, by decide +kernel⟩, List.mem_of_getElem? (i := 26) (by decide +kernel), List.mem_of_getElem? (i := 371) (by decide +kernel), List.mem_of_getElem? (i := 372) (by decide +kernel)⟩
theorem lw_p4 : lw_okq (⟨"FieldTower$Tape", "scanRow", "()V"⟩, 6) := ⟨⟨by decide +kernel, by decide +kernel⟩, List.mem_of_getElem? (i := 26) (by decide +kernel), List.mem_of_getElem? (i := 375) (by decide +kernel), List.mem_of_getElem? (i := 376) (by decide +kernel)⟩
theorem lw_p5 : lw_okq (⟨"FieldTower$Script", "keep", "(LFieldTower$Tape;I)V"⟩, 13) := ⟨⟨by decide +kernel, by decide +kernel⟩, List.mem_of_getElem? (i := 228) (by decide +kernel), List.mem_of_getElem? (i := 392) (by decide +kernel), List.mem_of_getElem? (i := 393) (by decide +kernel)⟩
theorem lw_p6 : lw_okq (⟨"FieldTower$Script", "checkToken", "(I)I"⟩, 13) := ⟨⟨by decide +kernel, by decide +kernel⟩, List.mem_of_getElem? (i := 228) (by decide +kernel), List.mem_of_getElem? (i := 404) (by decide +kernel), List.mem_of_getElem? (i := 405) (by decide +kernel)⟩
theorem lw_p7 : lw_okq (⟨"FieldTower$Script", "checkField", "(I)I"⟩, 13) := ⟨⟨by decide +kernel, by decide +kernel⟩, List.mem_of_getElem? (i := 228) (by decide +kernel), List.mem_of_getElem? (i := 408) (by decide +kernel), List.mem_of_getElem? (i := 409) (by decide +kernel)⟩
theorem lw_p8 : lw_okq (⟨"FieldTower$Script", "checkModulus", "(I)I"⟩, 13) := ⟨⟨by decide +kernel, by decide +kernel⟩, List.mem_of_getElem? (i := 228) (by decide +kernel), List.mem_of_getElem? (i := 413) (by decide +kernel), List.mem_of_getElem? (i := 414) (by decide +kernel)⟩
theorem lw_p9 : lw_okq (⟨"FieldTower$Script", "checkNewName", "(I)I"⟩, 13) := ⟨⟨by decide +kernel, by decide +kernel⟩, List.mem_of_getElem? (i := 228) (by decide +kernel), List.mem_of_getElem? (i := 436) (by decide +kernel), List.mem_of_getElem? (i := 437) (by decide +kernel)⟩
theorem lw_p10 : lw_okq (⟨"FieldTower$Script", "indexOf", "(J)I"⟩, 13) := ⟨⟨by decide +kernel, by decide +kernel⟩, List.mem_of_getElem? (i := 228) (by decide +kernel), List.mem_of_getElem? (i := 440) (by decide +kernel), List.mem_of_getElem? (i := 441) (by decide +kernel)⟩
theorem lw_p11 : lw_okq (⟨"FieldTower$Script", "checkAtom", "(I)I"⟩, 13) := ⟨⟨by decide +kernel, by decide +kernel⟩, List.mem_of_getElem? (i := 228) (by decide +kernel), List.mem_of_getElem? (i := 444) (by decide +kernel), List.mem_of_getElem? (i := 445) (by decide +kernel)⟩
theorem lw_p12 : lw_okq (⟨"FieldTower$Tower", "settle", "(I)V"⟩, 7) := ⟨⟨by decide +kernel, by decide +kernel⟩, List.mem_of_getElem? (i := 56) (by decide +kernel), List.mem_of_getElem? (i := 483) (by decide +kernel), List.mem_of_getElem? (i := 484) (by decide +kernel)⟩
theorem lw_p13 : lw_okq (⟨"FieldTower$Tower", "leastImage", "(III)I"⟩, 7) := ⟨⟨by decide +kernel, by decide +kernel⟩, List.mem_of_getElem? (i := 56) (by decide +kernel), List.mem_of_getElem? (i := 515) (by decide +kernel), List.mem_of_getElem? (i := 516) (by decide +kernel)⟩
theorem lw_p14 : lw_okq (⟨"FieldTower$Tower", "agrees", "(III)Z"⟩, 7) := ⟨⟨by decide +kernel, by decide +kernel⟩, List.mem_of_getElem? (i := 56) (by decide +kernel), List.mem_of_getElem? (i := 520) (by decide +kernel), List.mem_of_getElem? (i := 521) (by decide +kernel)⟩
theorem lw_p15 : lw_okq (⟨"FieldTower$Worker", "workLine", "(LFieldTower$Script;LFieldTower$Tower;I)Z"⟩, 7) := ⟨⟨by decide +kernel, by decide +kernel⟩, List.mem_of_getElem? (i := 180) (by decide +kernel), List.mem_of_getElem? (i := 528) (by decide +kernel), List.mem_of_getElem? (i := 529) (by decide +kernel)⟩
def lw_privs_1 : List (MethodName × Nat) := [(⟨"FieldTower$Tape", "skipBlanks", "()V"⟩, 6), (⟨"FieldTower$Tape", "isLetter", "(I)Z"⟩, 6), (⟨"FieldTower$Tape", "scanWord", "()V"⟩, 6), (⟨"FieldTower$Tape", "isDigit", "(I)Z"⟩, 6), (⟨"FieldTower$Tape", "scanRow", "()V"⟩, 6), (⟨"FieldTower$Script", "keep", "(LFieldTower$Tape;I)V"⟩, 13), (⟨"FieldTower$Script", "checkToken", "(I)I"⟩, 13), (⟨"FieldTower$Script", "checkField", "(I)I"⟩, 13), (⟨"FieldTower$Script", "checkModulus", "(I)I"⟩, 13), (⟨"FieldTower$Script", "checkNewName", "(I)I"⟩, 13), (⟨"FieldTower$Script", "indexOf", "(J)I"⟩, 13), (⟨"FieldTower$Script", "checkAtom", "(I)I"⟩, 13), (⟨"FieldTower$Tower", "settle", "(I)V"⟩, 7), (⟨"FieldTower$Tower", "leastImage", "(III)I"⟩, 7), (⟨"FieldTower$Tower", "agrees", "(III)Z"⟩, 7), (⟨"FieldTower$Worker", "workLine", "(LFieldTower$Script;LFieldTower$Tower;I)Z"⟩, 7)]
theorem lw_r1 : ∀ q ∈ lw_privs_1, lw_okq q := List.forall_mem_cons.mpr ⟨lw_p0, List.forall_mem_cons.mpr ⟨lw_p1, List.forall_mem_cons.mpr ⟨lw_p2, List.forall_mem_cons.mpr ⟨lw_p3, List.forall_mem_cons.mpr ⟨lw_p4, List.forall_mem_cons.mpr ⟨lw_p5, List.forall_mem_cons.mpr ⟨lw_p6, List.forall_mem_cons.mpr ⟨lw_p7, List.forall_mem_cons.mpr ⟨lw_p8, List.forall_mem_cons.mpr ⟨lw_p9, List.forall_mem_cons.mpr ⟨lw_p10, List.forall_mem_cons.mpr ⟨lw_p11, List.forall_mem_cons.mpr ⟨lw_p12, List.forall_mem_cons.mpr ⟨lw_p13, List.forall_mem_cons.mpr ⟨lw_p14, List.forall_mem_cons.mpr ⟨lw_p15, fun _ h => absurd h List.not_mem_nil⟩⟩⟩⟩⟩⟩⟩⟩⟩⟩⟩⟩⟩⟩⟩⟩
theorem lw_p16 : lw_okq (⟨"FieldTower$Worker", "begin", "(I)V"⟩, 7) := ⟨⟨by decide +kernel, by decide +kernel⟩, List.mem_of_getElem? (i := 180) (by decide +kernel), List.mem_of_getElem? (i := 533) (by decide +kernel), List.mem_of_getElem? (i := 534) (by decide +kernel)⟩
theorem lw_p17 : lw_okq (⟨"FieldTower$Worker", "atomAt", "(LFieldTower$Script;LFieldTower$Tower;II)I"⟩, 7) := ⟨⟨by decide +kernel, by decide +kernel⟩, List.mem_of_getElem? (i := 180) (by decide +kernel), List.mem_of_getElem? (i := 537) (by decide +kernel), List.mem_of_getElem? (i := 538) (by decide +kernel)⟩
theorem lw_p18 : lw_okq (⟨"FieldTower$Worker", "join", "(LFieldTower$Field;I)Z"⟩, 7) := ⟨⟨by decide +kernel, by decide +kernel⟩, List.mem_of_getElem? (i := 180) (by decide +kernel), List.mem_of_getElem? (i := 548) (by decide +kernel), List.mem_of_getElem? (i := 549) (by decide +kernel)⟩
theorem lw_p19 : lw_okq (⟨"FieldTower$Worker", "goOn", "(III)I"⟩, 7) := ⟨⟨by decide +kernel, by decide +kernel⟩, List.mem_of_getElem? (i := 180) (by decide +kernel), List.mem_of_getElem? (i := 558) (by decide +kernel), List.mem_of_getElem? (i := 559) (by decide +kernel)⟩
theorem lw_p20 : lw_okq (⟨"FieldTower", "keepNameValues", "()V"⟩, 12) := ⟨⟨by decide +kernel, by decide +kernel⟩, List.mem_of_getElem? (i := 18) (by decide +kernel), List.mem_of_getElem? (i := 565) (by decide +kernel), List.mem_of_getElem? (i := 566) (by decide +kernel)⟩
theorem lw_p21 : lw_okq (⟨"FieldTower", "emptySlots", "()V"⟩, 12) := ⟨⟨by decide +kernel, by decide +kernel⟩, List.mem_of_getElem? (i := 18) (by decide +kernel), List.mem_of_getElem? (i := 570) (by decide +kernel), List.mem_of_getElem? (i := 571) (by decide +kernel)⟩
theorem lw_p22 : lw_okq (⟨"FieldTower$Field", "expandLeast", "(II)I"⟩, 4) := ⟨⟨by decide +kernel, by decide +kernel⟩, List.mem_of_getElem? (i := 86) (by decide +kernel), List.mem_of_getElem? (i := 671) (by decide +kernel), List.mem_of_getElem? (i := 672) (by decide +kernel)⟩
theorem lw_p23 : lw_okq (⟨"FieldTower$Tower", "isNewPart", "(I)Z"⟩, 7) := ⟨⟨by decide +kernel, by decide +kernel⟩, List.mem_of_getElem? (i := 56) (by decide +kernel), List.mem_of_getElem? (i := 686) (by decide +kernel), List.mem_of_getElem? (i := 687) (by decide +kernel)⟩
theorem lw_p24 : lw_okq (⟨"FieldTower$Cycle", "listLogarithms", "()V"⟩, 5) := ⟨⟨by decide +kernel, by decide +kernel⟩, List.mem_of_getElem? (i := 114) (by decide +kernel), List.mem_of_getElem? (i := 714) (by decide +kernel), List.mem_of_getElem? (i := 715) (by decide +kernel)⟩
theorem lw_p25 : lw_okq (⟨"FieldTower$Space", "traceOf", "(I)I"⟩, 4) := ⟨⟨by decide +kernel, by decide +kernel⟩, List.mem_of_getElem? (i := 135) (by decide +kernel), List.mem_of_getElem? (i := 736) (by decide +kernel), List.mem_of_getElem? (i := 737) (by decide +kernel)⟩
theorem lw_p26 : lw_okq (⟨"FieldTower$Space", "spanConjugates", "(I)Z"⟩, 4) := ⟨⟨by decide +kernel, by decide +kernel⟩, List.mem_of_getElem? (i := 135) (by decide +kernel), List.mem_of_getElem? (i := 750) (by decide +kernel), List.mem_of_getElem? (i := 751) (by decide +kernel)⟩
theorem lw_p27 : lw_okq (⟨"FieldTower$Space", "tracesWith", "(II)I"⟩, 4) := ⟨⟨by decide +kernel, by decide +kernel⟩, List.mem_of_getElem? (i := 135) (by decide +kernel), List.mem_of_getElem? (i := 780) (by decide +kernel), List.mem_of_getElem? (i := 781) (by decide +kernel)⟩
theorem lw_p28 : lw_okq (⟨"FieldTower$Cycle", "rootLogarithm", "(II)I"⟩, 5) := ⟨⟨by decide +kernel, by decide +kernel⟩, List.mem_of_getElem? (i := 114) (by decide +kernel), List.mem_of_getElem? (i := 808) (by decide +kernel), List.mem_of_getElem? (i := 809) (by decide +kernel)⟩
theorem lw_p29 : lw_okq (⟨"FieldTower", "writeOut", "(II)I"⟩, 12) := ⟨⟨by decide +kernel, by decide +kernel⟩, List.mem_of_getElem? (i := 18) (by decide +kernel), List.mem_of_getElem? (i := 875) (by decide +kernel), List.mem_of_getElem? (i := 876) (by decide +kernel)⟩
theorem lw_p30 : lw_okq (⟨"FieldTower", "writePower", "(III)I"⟩, 12) := ⟨⟨by decide +kernel, by decide +kernel⟩, List.mem_of_getElem? (i := 18) (by decide +kernel), List.mem_of_getElem? (i := 879) (by decide +kernel), List.mem_of_getElem? (i := 880) (by decide +kernel)⟩
theorem lw_p31 : lw_okq (⟨"FieldTower", "writeByte", "(II)I"⟩, 12) := ⟨⟨by decide +kernel, by decide +kernel⟩, List.mem_of_getElem? (i := 18) (by decide +kernel), List.mem_of_getElem? (i := 883) (by decide +kernel), List.mem_of_getElem? (i := 884) (by decide +kernel)⟩
def lw_privs_2 : List (MethodName × Nat) := [(⟨"FieldTower$Worker", "begin", "(I)V"⟩, 7), (⟨"FieldTower$Worker", "atomAt", "(LFieldTower$Script;LFieldTower$Tower;II)I"⟩, 7), (⟨"FieldTower$Worker", "join", "(LFieldTower$Field;I)Z"⟩, 7), (⟨"FieldTower$Worker", "goOn", "(III)I"⟩, 7), (⟨"FieldTower", "keepNameValues", "()V"⟩, 12), (⟨"FieldTower", "emptySlots", "()V"⟩, 12), (⟨"FieldTower$Field", "expandLeast", "(II)I"⟩, 4), (⟨"FieldTower$Tower", "isNewPart", "(I)Z"⟩, 7), (⟨"FieldTower$Cycle", "listLogarithms", "()V"⟩, 5), (⟨"FieldTower$Space", "traceOf", "(I)I"⟩, 4), (⟨"FieldTower$Space", "spanConjugates", "(I)Z"⟩, 4), (⟨"FieldTower$Space", "tracesWith", "(II)I"⟩, 4), (⟨"FieldTower$Cycle", "rootLogarithm", "(II)I"⟩, 5), (⟨"FieldTower", "writeOut", "(II)I"⟩, 12), (⟨"FieldTower", "writePower", "(III)I"⟩, 12), (⟨"FieldTower", "writeByte", "(II)I"⟩, 12)]
theorem lw_r2 : ∀ q ∈ lw_privs_2, lw_okq q := List.forall_mem_cons.mpr ⟨lw_p16, List.forall_mem_cons.mpr ⟨lw_p17, List.forall_mem_cons.mpr ⟨lw_p18, List.forall_mem_cons.mpr ⟨lw_p19, List.forall_mem_cons.mpr ⟨lw_p20, List.forall_mem_cons.mpr ⟨lw_p21, List.forall_mem_cons.mpr ⟨lw_p22, List.forall_mem_cons.mpr ⟨lw_p23, List.forall_mem_cons.mpr ⟨lw_p24, List.forall_mem_cons.mpr ⟨lw_p25, List.forall_mem_cons.mpr ⟨lw_p26, List.forall_mem_cons.mpr ⟨lw_p27, List.forall_mem_cons.mpr ⟨lw_p28, List.forall_mem_cons.mpr ⟨lw_p29, List.forall_mem_cons.mpr ⟨lw_p30, List.forall_mem_cons.mpr ⟨lw_p31, fun _ h => absurd h List.not_mem_nil⟩⟩⟩⟩⟩⟩⟩⟩⟩⟩⟩⟩⟩⟩⟩⟩
theorem lw_p32 : lw_okq (⟨"FieldTower", "heldSlots", "()I"⟩, 12) := ⟨⟨by decide +kernel, by decide +kernel⟩, List.mem_of_getElem? (i := 18) (by decide +kernel), List.mem_of_getElem? (i := 895) (by decide +kernel), List.mem_of_getElem? (i := 896) (by decide +kernel)⟩
theorem lw_p33 : lw_okq (⟨"FieldTowerModel", "leastWhole", "(I)I"⟩, 50) := ⟨⟨by decide +kernel, by decide +kernel⟩, List.mem_of_getElem? (i := 904) (by decide +kernel), List.mem_of_getElem? (i := 926) (by decide +kernel), List.mem_of_getElem? (i := 927) (by decide +kernel)⟩
theorem lw_p34 : lw_okq (⟨"FieldTowerModel", "laysTower", "()V"⟩, 50) := ⟨⟨by decide +kernel, by decide +kernel⟩, List.mem_of_getElem? (i := 904) (by decide +kernel), List.mem_of_getElem? (i := 930) (by decide +kernel), List.mem_of_getElem? (i := 931) (by decide +kernel)⟩
theorem lw_p35 : lw_okq (⟨"FieldTowerModel", "laysUp", "(II)V"⟩, 50) := ⟨⟨by decide +kernel, by decide +kernel⟩, List.mem_of_getElem? (i := 904) (by decide +kernel), List.mem_of_getElem? (i := 937) (by decide +kernel), List.mem_of_getElem? (i := 938) (by decide +kernel)⟩
theorem lw_p36 : lw_okq (⟨"FieldTowerModel", "up", "(III)I"⟩, 50) := ⟨⟨by decide +kernel, by decide +kernel⟩, List.mem_of_getElem? (i := 904) (by decide +kernel), List.mem_of_getElem? (i := 941) (by decide +kernel), List.mem_of_getElem? (i := 942) (by decide +kernel)⟩
theorem lw_p37 : lw_okq (⟨"FieldTowerModel", "product", "(III)I"⟩, 50) := ⟨⟨by decide +kernel, by decide +kernel⟩, List.mem_of_getElem? (i := 904) (by decide +kernel), List.mem_of_getElem? (i := 945) (by decide +kernel), List.mem_of_getElem? (i := 946) (by decide +kernel)⟩
theorem lw_p38 : lw_okq (⟨"FieldTowerModel", "agrees", "(III)Z"⟩, 50) := ⟨⟨by decide +kernel, by decide +kernel⟩, List.mem_of_getElem? (i := 904) (by decide +kernel), List.mem_of_getElem? (i := 949) (by decide +kernel), List.mem_of_getElem? (i := 950) (by decide +kernel)⟩
theorem lw_p39 : lw_okq (⟨"FieldTowerModel", "valueAt", "(III)I"⟩, 50) := ⟨⟨by decide +kernel, by decide +kernel⟩, List.mem_of_getElem? (i := 904) (by decide +kernel), List.mem_of_getElem? (i := 953) (by decide +kernel), List.mem_of_getElem? (i := 954) (by decide +kernel)⟩
theorem lw_p40 : lw_okq (⟨"FieldTowerModel", "lays", "(I)V"⟩, 50) := ⟨⟨by decide +kernel, by decide +kernel⟩, List.mem_of_getElem? (i := 904) (by decide +kernel), List.mem_of_getElem? (i := 1114) (by decide +kernel), List.mem_of_getElem? (i := 1115) (by decide +kernel)⟩
theorem lw_p41 : lw_okq (⟨"FieldTowerModel", "cutsText", "()V"⟩, 50) := ⟨⟨by decide +kernel, by decide +kernel⟩, List.mem_of_getElem? (i := 904) (by decide +kernel), List.mem_of_getElem? (i := 1126) (by decide +kernel), List.mem_of_getElem? (i := 1127) (by decide +kernel)⟩
theorem lw_p42 : lw_okq (⟨"FieldTowerModel", "byteAt", "(I)I"⟩, 50) := ⟨⟨by decide +kernel, by decide +kernel⟩, List.mem_of_getElem? (i := 904) (by decide +kernel), List.mem_of_getElem? (i := 1130) (by decide +kernel), List.mem_of_getElem? (i := 1131) (by decide +kernel)⟩
theorem lw_p43 : lw_okq (⟨"FieldTowerModel", "token", "(IIIJ)V"⟩, 50) := ⟨⟨by decide +kernel, by decide +kernel⟩, List.mem_of_getElem? (i := 904) (by decide +kernel), List.mem_of_getElem? (i := 1134) (by decide +kernel), List.mem_of_getElem? (i := 1135) (by decide +kernel)⟩
theorem lw_p44 : lw_okq (⟨"FieldTowerModel", "sign", "(II)I"⟩, 50) := ⟨⟨by decide +kernel, by decide +kernel⟩, List.mem_of_getElem? (i := 904) (by decide +kernel), List.mem_of_getElem? (i := 1145) (by decide +kernel), List.mem_of_getElem? (i := 1146) (by decide +kernel)⟩
theorem lw_p45 : lw_okq (⟨"FieldTowerModel", "is", "(I)Z"⟩, 50) := ⟨⟨by decide +kernel, by decide +kernel⟩, List.mem_of_getElem? (i := 904) (by decide +kernel), List.mem_of_getElem? (i := 1149) (by decide +kernel), List.mem_of_getElem? (i := 1150) (by decide +kernel)⟩
theorem lw_p46 : lw_okq (⟨"FieldTowerModel", "tell", "()V"⟩, 50) := ⟨⟨by decide +kernel, by decide +kernel⟩, List.mem_of_getElem? (i := 904) (by decide +kernel), List.mem_of_getElem? (i := 1153) (by decide +kernel), List.mem_of_getElem? (i := 1154) (by decide +kernel)⟩
theorem lw_p47 : lw_okq (⟨"FieldTowerModel", "fail", "(I)V"⟩, 50) := ⟨⟨by decide +kernel, by decide +kernel⟩, List.mem_of_getElem? (i := 904) (by decide +kernel), List.mem_of_getElem? (i := 1157) (by decide +kernel), List.mem_of_getElem? (i := 1158) (by decide +kernel)⟩
def lw_privs_3 : List (MethodName × Nat) := [(⟨"FieldTower", "heldSlots", "()I"⟩, 12), (⟨"FieldTowerModel", "leastWhole", "(I)I"⟩, 50), (⟨"FieldTowerModel", "laysTower", "()V"⟩, 50), (⟨"FieldTowerModel", "laysUp", "(II)V"⟩, 50), (⟨"FieldTowerModel", "up", "(III)I"⟩, 50), (⟨"FieldTowerModel", "product", "(III)I"⟩, 50), (⟨"FieldTowerModel", "agrees", "(III)Z"⟩, 50), (⟨"FieldTowerModel", "valueAt", "(III)I"⟩, 50), (⟨"FieldTowerModel", "lays", "(I)V"⟩, 50), (⟨"FieldTowerModel", "cutsText", "()V"⟩, 50), (⟨"FieldTowerModel", "byteAt", "(I)I"⟩, 50), (⟨"FieldTowerModel", "token", "(IIIJ)V"⟩, 50), (⟨"FieldTowerModel", "sign", "(II)I"⟩, 50), (⟨"FieldTowerModel", "is", "(I)Z"⟩, 50), (⟨"FieldTowerModel", "tell", "()V"⟩, 50), (⟨"FieldTowerModel", "fail", "(I)V"⟩, 50)]
theorem lw_r3 : ∀ q ∈ lw_privs_3, lw_okq q := List.forall_mem_cons.mpr ⟨lw_p32, List.forall_mem_cons.mpr ⟨lw_p33, List.forall_mem_cons.mpr ⟨lw_p34, List.forall_mem_cons.mpr ⟨lw_p35, List.forall_mem_cons.mpr ⟨lw_p36, List.forall_mem_cons.mpr ⟨lw_p37, List.forall_mem_cons.mpr ⟨lw_p38, List.forall_mem_cons.mpr ⟨lw_p39, List.forall_mem_cons.mpr ⟨lw_p40, List.forall_mem_cons.mpr ⟨lw_p41, List.forall_mem_cons.mpr ⟨lw_p42, List.forall_mem_cons.mpr ⟨lw_p43, List.forall_mem_cons.mpr ⟨lw_p44, List.forall_mem_cons.mpr ⟨lw_p45, List.forall_mem_cons.mpr ⟨lw_p46, List.forall_mem_cons.mpr ⟨lw_p47, fun _ h => absurd h List.not_mem_nil⟩⟩⟩⟩⟩⟩⟩⟩⟩⟩⟩⟩⟩⟩⟩⟩
theorem lw_p48 : lw_okq (⟨"FieldTowerModel", "passes", "()V"⟩, 50) := ⟨⟨by decide +kernel, by decide +kernel⟩, List.mem_of_getElem? (i := 904) (by decide +kernel), List.mem_of_getElem? (i := 1161) (by decide +kernel), List.mem_of_getElem? (i := 1162) (by decide +kernel)⟩
theorem lw_p49 : lw_okq (⟨"FieldTowerModel", "must", "(I)V"⟩, 50) := ⟨⟨by decide +kernel, by decide +kernel⟩, List.mem_of_getElem? (i := 904) (by decide +kernel), List.mem_of_getElem? (i := 1165) (by decide +kernel), List.mem_of_getElem? (i := 1166) (by decide +kernel)⟩
theorem lw_p50 : lw_okq (⟨"FieldTowerModel", "expression", "()V"⟩, 50) := ⟨⟨by decide +kernel, by decide +kernel⟩, List.mem_of_getElem? (i := 904) (by decide +kernel), List.mem_of_getElem? (i := 1169) (by decide +kernel), List.mem_of_getElem? (i := 1170) (by decide +kernel)⟩
theorem lw_p51 : lw_okq (⟨"FieldTowerModel", "maybePower", "()V"⟩, 50) := ⟨⟨by decide +kernel, by decide +kernel⟩, List.mem_of_getElem? (i := 904) (by decide +kernel), List.mem_of_getElem? (i := 1173) (by decide +kernel), List.mem_of_getElem? (i := 1174) (by decide +kernel)⟩
theorem lw_p52 : lw_okq (⟨"FieldTowerModel", "puts", "()V"⟩, 50) := ⟨⟨by decide +kernel, by decide +kernel⟩, List.mem_of_getElem? (i := 904) (by decide +kernel), List.mem_of_getElem? (i := 1177) (by decide +kernel), List.mem_of_getElem? (i := 1178) (by decide +kernel)⟩
theorem lw_p53 : lw_okq (⟨"FieldTowerModel", "means", "()V"⟩, 50) := ⟨⟨by decide +kernel, by decide +kernel⟩, List.mem_of_getElem? (i := 904) (by decide +kernel), List.mem_of_getElem? (i := 1181) (by decide +kernel), List.mem_of_getElem? (i := 1182) (by decide +kernel)⟩
theorem lw_p54 : lw_okq (⟨"FieldTowerModel", "meansModulus", "(I)V"⟩, 50) := ⟨⟨by decide +kernel, by decide +kernel⟩, List.mem_of_getElem? (i := 904) (by decide +kernel), List.mem_of_getElem? (i := 1185) (by decide +kernel), List.mem_of_getElem? (i := 1186) (by decide +kernel)⟩
theorem lw_p55 : lw_okq (⟨"FieldTowerModel", "wrong", "(II)V"⟩, 50) := ⟨⟨by decide +kernel, by decide +kernel⟩, List.mem_of_getElem? (i := 904) (by decide +kernel), List.mem_of_getElem? (i := 1195) (by decide +kernel), List.mem_of_getElem? (i := 1196) (by decide +kernel)⟩
theorem lw_p56 : lw_okq (⟨"FieldTowerModel", "rowAt", "(I)I"⟩, 50) := ⟨⟨by decide +kernel, by decide +kernel⟩, List.mem_of_getElem? (i := 904) (by decide +kernel), List.mem_of_getElem? (i := 1199) (by decide +kernel), List.mem_of_getElem? (i := 1200) (by decide +kernel)⟩
theorem lw_p57 : lw_okq (⟨"FieldTowerModel", "isWhole", "(I)Z"⟩, 50) := ⟨⟨by decide +kernel, by decide +kernel⟩, List.mem_of_getElem? (i := 904) (by decide +kernel), List.mem_of_getElem? (i := 1203) (by decide +kernel), List.mem_of_getElem? (i := 1204) (by decide +kernel)⟩
theorem lw_p58 : lw_okq (⟨"FieldTowerModel", "meansLet", "(I)V"⟩, 50) := ⟨⟨by decide +kernel, by decide +kernel⟩, List.mem_of_getElem? (i := 904) (by decide +kernel), List.mem_of_getElem? (i := 1207) (by decide +kernel), List.mem_of_getElem? (i := 1208) (by decide +kernel)⟩
theorem lw_p59 : lw_okq (⟨"FieldTowerModel", "named", "(J)I"⟩, 50) := ⟨⟨by decide +kernel, by decide +kernel⟩, List.mem_of_getElem? (i := 904) (by decide +kernel), List.mem_of_getElem? (i := 1211) (by decide +kernel), List.mem_of_getElem? (i := 1212) (by decide +kernel)⟩
theorem lw_p60 : lw_okq (⟨"FieldTowerModel", "meansToken", "(II)V"⟩, 50) := ⟨⟨by decide +kernel, by decide +kernel⟩, List.mem_of_getElem? (i := 904) (by decide +kernel), List.mem_of_getElem? (i := 1215) (by decide +kernel), List.mem_of_getElem? (i := 1216) (by decide +kernel)⟩
theorem lw_p61 : lw_okq (⟨"FieldTowerModel", "step", "(III)V"⟩, 50) := ⟨⟨by decide +kernel, by decide +kernel⟩, List.mem_of_getElem? (i := 904) (by decide +kernel), List.mem_of_getElem? (i := 1219) (by decide +kernel), List.mem_of_getElem? (i := 1220) (by decide +kernel)⟩
theorem lw_p62 : lw_okq (⟨"FieldTowerModel", "settles", "(I)V"⟩, 50) := ⟨⟨by decide +kernel, by decide +kernel⟩, List.mem_of_getElem? (i := 904) (by decide +kernel), List.mem_of_getElem? (i := 1223) (by decide +kernel), List.mem_of_getElem? (i := 1224) (by decide +kernel)⟩
theorem lw_p63 : lw_okq (⟨"FieldTowerModel", "works", "()I"⟩, 50) := ⟨⟨by decide +kernel, by decide +kernel⟩, List.mem_of_getElem? (i := 904) (by decide +kernel), List.mem_of_getElem? (i := 1230) (by decide +kernel), List.mem_of_getElem? (i := 1231) (by decide +kernel)⟩
def lw_privs_4 : List (MethodName × Nat) := [(⟨"FieldTowerModel", "passes", "()V"⟩, 50), (⟨"FieldTowerModel", "must", "(I)V"⟩, 50), (⟨"FieldTowerModel", "expression", "()V"⟩, 50), (⟨"FieldTowerModel", "maybePower", "()V"⟩, 50), (⟨"FieldTowerModel", "puts", "()V"⟩, 50), (⟨"FieldTowerModel", "means", "()V"⟩, 50), (⟨"FieldTowerModel", "meansModulus", "(I)V"⟩, 50), (⟨"FieldTowerModel", "wrong", "(II)V"⟩, 50), (⟨"FieldTowerModel", "rowAt", "(I)I"⟩, 50), (⟨"FieldTowerModel", "isWhole", "(I)Z"⟩, 50), (⟨"FieldTowerModel", "meansLet", "(I)V"⟩, 50), (⟨"FieldTowerModel", "named", "(J)I"⟩, 50), (⟨"FieldTowerModel", "meansToken", "(II)V"⟩, 50), (⟨"FieldTowerModel", "step", "(III)V"⟩, 50), (⟨"FieldTowerModel", "settles", "(I)V"⟩, 50), (⟨"FieldTowerModel", "works", "()I"⟩, 50)]
theorem lw_r4 : ∀ q ∈ lw_privs_4, lw_okq q := List.forall_mem_cons.mpr ⟨lw_p48, List.forall_mem_cons.mpr ⟨lw_p49, List.forall_mem_cons.mpr ⟨lw_p50, List.forall_mem_cons.mpr ⟨lw_p51, List.forall_mem_cons.mpr ⟨lw_p52, List.forall_mem_cons.mpr ⟨lw_p53, List.forall_mem_cons.mpr ⟨lw_p54, List.forall_mem_cons.mpr ⟨lw_p55, List.forall_mem_cons.mpr ⟨lw_p56, List.forall_mem_cons.mpr ⟨lw_p57, List.forall_mem_cons.mpr ⟨lw_p58, List.forall_mem_cons.mpr ⟨lw_p59, List.forall_mem_cons.mpr ⟨lw_p60, List.forall_mem_cons.mpr ⟨lw_p61, List.forall_mem_cons.mpr ⟨lw_p62, List.forall_mem_cons.mpr ⟨lw_p63, fun _ h => absurd h List.not_mem_nil⟩⟩⟩⟩⟩⟩⟩⟩⟩⟩⟩⟩⟩⟩⟩⟩
theorem lw_p64 : lw_okq (⟨"FieldTowerModel", "worksOne", "(I)I"⟩, 50) := ⟨⟨by decide +kernel, by decide +kernel⟩, List.mem_of_getElem? (i := 904) (by decide +kernel), List.mem_of_getElem? (i := 1234) (by decide +kernel), List.mem_of_getElem? (i := 1235) (by decide +kernel)⟩
theorem lw_p65 : lw_okq (⟨"FieldTowerModel", "powered", "(III)I"⟩, 50) := ⟨⟨by decide +kernel, by decide +kernel⟩, List.mem_of_getElem? (i := 904) (by decide +kernel), List.mem_of_getElem? (i := 1238) (by decide +kernel), List.mem_of_getElem? (i := 1239) (by decide +kernel)⟩
theorem lw_p66 : lw_okq (⟨"FieldTowerModel", "inverse", "(II)I"⟩, 50) := ⟨⟨by decide +kernel, by decide +kernel⟩, List.mem_of_getElem? (i := 904) (by decide +kernel), List.mem_of_getElem? (i := 1242) (by decide +kernel), List.mem_of_getElem? (i := 1243) (by decide +kernel)⟩
theorem lw_p67 : lw_okq (⟨"FieldTowerModel", "takes", "()V"⟩, 50) := ⟨⟨by decide +kernel, by decide +kernel⟩, List.mem_of_getElem? (i := 904) (by decide +kernel), List.mem_of_getElem? (i := 1246) (by decide +kernel), List.mem_of_getElem? (i := 1247) (by decide +kernel)⟩
theorem lw_p68 : lw_okq (⟨"FieldTowerModel", "lays", "([II)V"⟩, 50) := ⟨⟨by decide +kernel, by decide +kernel⟩, List.mem_of_getElem? (i := 904) (by decide +kernel), List.mem_of_getElem? (i := 1262) (by decide +kernel), List.mem_of_getElem? (i := 1263) (by decide +kernel)⟩
theorem lw_p69 : lw_okq (⟨"FieldTowerModel", "squared", "(III)I"⟩, 50) := ⟨⟨by decide +kernel, by decide +kernel⟩, List.mem_of_getElem? (i := 904) (by decide +kernel), List.mem_of_getElem? (i := 1320) (by decide +kernel), List.mem_of_getElem? (i := 1321) (by decide +kernel)⟩
theorem lw_p70 : lw_okq (⟨"FieldTowerModel", "orderOf", "(II)I"⟩, 50) := ⟨⟨by decide +kernel, by decide +kernel⟩, List.mem_of_getElem? (i := 904) (by decide +kernel), List.mem_of_getElem? (i := 1324) (by decide +kernel), List.mem_of_getElem? (i := 1325) (by decide +kernel)⟩
theorem lw_p71 : lw_okq (⟨"FieldTowerModel", "logarithm", "(II)I"⟩, 50) := ⟨⟨by decide +kernel, by decide +kernel⟩, List.mem_of_getElem? (i := 904) (by decide +kernel), List.mem_of_getElem? (i := 1328) (by decide +kernel), List.mem_of_getElem? (i := 1329) (by decide +kernel)⟩
theorem lw_p72 : lw_okq (⟨"FieldTowerModel", "leastPrimitive", "(I)I"⟩, 50) := ⟨⟨by decide +kernel, by decide +kernel⟩, List.mem_of_getElem? (i := 904) (by decide +kernel), List.mem_of_getElem? (i := 1332) (by decide +kernel), List.mem_of_getElem? (i := 1333) (by decide +kernel)⟩
theorem lw_p73 : lw_okq (⟨"FieldTowerModel", "isPrimitive", "(II)Z"⟩, 50) := ⟨⟨by decide +kernel, by decide +kernel⟩, List.mem_of_getElem? (i := 904) (by decide +kernel), List.mem_of_getElem? (i := 1336) (by decide +kernel), List.mem_of_getElem? (i := 1337) (by decide +kernel)⟩
theorem lw_p74 : lw_okq (⟨"FieldTowerModel", "degreeOf", "(II)I"⟩, 50) := ⟨⟨by decide +kernel, by decide +kernel⟩, List.mem_of_getElem? (i := 904) (by decide +kernel), List.mem_of_getElem? (i := 1340) (by decide +kernel), List.mem_of_getElem? (i := 1341) (by decide +kernel)⟩
theorem lw_p75 : lw_okq (⟨"FieldTowerModel", "leastConjugate", "(II)I"⟩, 50) := ⟨⟨by decide +kernel, by decide +kernel⟩, List.mem_of_getElem? (i := 904) (by decide +kernel), List.mem_of_getElem? (i := 1344) (by decide +kernel), List.mem_of_getElem? (i := 1345) (by decide +kernel)⟩
theorem lw_p76 : lw_okq (⟨"FieldTowerModel", "isNormal", "(II)Z"⟩, 50) := ⟨⟨by decide +kernel, by decide +kernel⟩, List.mem_of_getElem? (i := 904) (by decide +kernel), List.mem_of_getElem? (i := 1348) (by decide +kernel), List.mem_of_getElem? (i := 1349) (by decide +kernel)⟩
theorem lw_p77 : lw_okq (⟨"FieldTowerModel", "coordinates", "(II)I"⟩, 50) := ⟨⟨by decide +kernel, by decide +kernel⟩, List.mem_of_getElem? (i := 904) (by decide +kernel), List.mem_of_getElem? (i := 1352) (by decide +kernel), List.mem_of_getElem? (i := 1353) (by decide +kernel)⟩
theorem lw_p78 : lw_okq (⟨"FieldTowerModel", "leastNormal", "(I)I"⟩, 50) := ⟨⟨by decide +kernel, by decide +kernel⟩, List.mem_of_getElem? (i := 904) (by decide +kernel), List.mem_of_getElem? (i := 1356) (by decide +kernel), List.mem_of_getElem? (i := 1357) (by decide +kernel)⟩
theorem lw_p79 : lw_okq (⟨"FieldTowerModel", "dualOf", "(II)I"⟩, 50) := ⟨⟨by decide +kernel, by decide +kernel⟩, List.mem_of_getElem? (i := 904) (by decide +kernel), List.mem_of_getElem? (i := 1360) (by decide +kernel), List.mem_of_getElem? (i := 1361) (by decide +kernel)⟩
def lw_privs_5 : List (MethodName × Nat) := [(⟨"FieldTowerModel", "worksOne", "(I)I"⟩, 50), (⟨"FieldTowerModel", "powered", "(III)I"⟩, 50), (⟨"FieldTowerModel", "inverse", "(II)I"⟩, 50), (⟨"FieldTowerModel", "takes", "()V"⟩, 50), (⟨"FieldTowerModel", "lays", "([II)V"⟩, 50), (⟨"FieldTowerModel", "squared", "(III)I"⟩, 50), (⟨"FieldTowerModel", "orderOf", "(II)I"⟩, 50), (⟨"FieldTowerModel", "logarithm", "(II)I"⟩, 50), (⟨"FieldTowerModel", "leastPrimitive", "(I)I"⟩, 50), (⟨"FieldTowerModel", "isPrimitive", "(II)Z"⟩, 50), (⟨"FieldTowerModel", "degreeOf", "(II)I"⟩, 50), (⟨"FieldTowerModel", "leastConjugate", "(II)I"⟩, 50), (⟨"FieldTowerModel", "isNormal", "(II)Z"⟩, 50), (⟨"FieldTowerModel", "coordinates", "(II)I"⟩, 50), (⟨"FieldTowerModel", "leastNormal", "(I)I"⟩, 50), (⟨"FieldTowerModel", "dualOf", "(II)I"⟩, 50)]
theorem lw_r5 : ∀ q ∈ lw_privs_5, lw_okq q := List.forall_mem_cons.mpr ⟨lw_p64, List.forall_mem_cons.mpr ⟨lw_p65, List.forall_mem_cons.mpr ⟨lw_p66, List.forall_mem_cons.mpr ⟨lw_p67, List.forall_mem_cons.mpr ⟨lw_p68, List.forall_mem_cons.mpr ⟨lw_p69, List.forall_mem_cons.mpr ⟨lw_p70, List.forall_mem_cons.mpr ⟨lw_p71, List.forall_mem_cons.mpr ⟨lw_p72, List.forall_mem_cons.mpr ⟨lw_p73, List.forall_mem_cons.mpr ⟨lw_p74, List.forall_mem_cons.mpr ⟨lw_p75, List.forall_mem_cons.mpr ⟨lw_p76, List.forall_mem_cons.mpr ⟨lw_p77, List.forall_mem_cons.mpr ⟨lw_p78, List.forall_mem_cons.mpr ⟨lw_p79, fun _ h => absurd h List.not_mem_nil⟩⟩⟩⟩⟩⟩⟩⟩⟩⟩⟩⟩⟩⟩⟩⟩
theorem lw_p80 : lw_okq (⟨"FieldTowerModel", "isDual", "(III)Z"⟩, 50) := ⟨⟨by decide +kernel, by decide +kernel⟩, List.mem_of_getElem? (i := 904) (by decide +kernel), List.mem_of_getElem? (i := 1364) (by decide +kernel), List.mem_of_getElem? (i := 1365) (by decide +kernel)⟩
theorem lw_p81 : lw_okq (⟨"FieldTowerModel", "traceDown", "(II)I"⟩, 50) := ⟨⟨by decide +kernel, by decide +kernel⟩, List.mem_of_getElem? (i := 904) (by decide +kernel), List.mem_of_getElem? (i := 1368) (by decide +kernel), List.mem_of_getElem? (i := 1369) (by decide +kernel)⟩
theorem lw_p82 : lw_okq (⟨"FieldTowerModel", "lowered", "(III)I"⟩, 50) := ⟨⟨by decide +kernel, by decide +kernel⟩, List.mem_of_getElem? (i := 904) (by decide +kernel), List.mem_of_getElem? (i := 1380) (by decide +kernel), List.mem_of_getElem? (i := 1381) (by decide +kernel)⟩
theorem lw_p83 : lw_okq (⟨"FieldTowerModel", "laysLeast", "(III)I"⟩, 50) := ⟨⟨by decide +kernel, by decide +kernel⟩, List.mem_of_getElem? (i := 904) (by decide +kernel), List.mem_of_getElem? (i := 1392) (by decide +kernel), List.mem_of_getElem? (i := 1393) (by decide +kernel)⟩
theorem lw_p84 : lw_okq (⟨"FieldTowerModel", "countOf", "(III)I"⟩, 50) := ⟨⟨by decide +kernel, by decide +kernel⟩, List.mem_of_getElem? (i := 904) (by decide +kernel), List.mem_of_getElem? (i := 1420) (by decide +kernel), List.mem_of_getElem? (i := 1421) (by decide +kernel)⟩
theorem lw_p85 : lw_okq (⟨"FieldTowerModel", "writesPower", "(II)V"⟩, 50) := ⟨⟨by decide +kernel, by decide +kernel⟩, List.mem_of_getElem? (i := 904) (by decide +kernel), List.mem_of_getElem? (i := 1432) (by decide +kernel), List.mem_of_getElem? (i := 1433) (by decide +kernel)⟩
theorem lw_p86 : lw_okq (⟨"FieldTowerModel", "writes", "(I)V"⟩, 50) := ⟨⟨by decide +kernel, by decide +kernel⟩, List.mem_of_getElem? (i := 904) (by decide +kernel), List.mem_of_getElem? (i := 1436) (by decide +kernel), List.mem_of_getElem? (i := 1437) (by decide +kernel)⟩
theorem lw_p87 : lw_okq (⟨"FieldTowerModel", "unlikeModuli", "()I"⟩, 50) := ⟨⟨by decide +kernel, by decide +kernel⟩, List.mem_of_getElem? (i := 904) (by decide +kernel), List.mem_of_getElem? (i := 1448) (by decide +kernel), List.mem_of_getElem? (i := 1449) (by decide +kernel)⟩
def lw_privs_6 : List (MethodName × Nat) := [(⟨"FieldTowerModel", "isDual", "(III)Z"⟩, 50), (⟨"FieldTowerModel", "traceDown", "(II)I"⟩, 50), (⟨"FieldTowerModel", "lowered", "(III)I"⟩, 50), (⟨"FieldTowerModel", "laysLeast", "(III)I"⟩, 50), (⟨"FieldTowerModel", "countOf", "(III)I"⟩, 50), (⟨"FieldTowerModel", "writesPower", "(II)V"⟩, 50), (⟨"FieldTowerModel", "writes", "(I)V"⟩, 50), (⟨"FieldTowerModel", "unlikeModuli", "()I"⟩, 50)]
theorem lw_r6 : ∀ q ∈ lw_privs_6, lw_okq q := List.forall_mem_cons.mpr ⟨lw_p80, List.forall_mem_cons.mpr ⟨lw_p81, List.forall_mem_cons.mpr ⟨lw_p82, List.forall_mem_cons.mpr ⟨lw_p83, List.forall_mem_cons.mpr ⟨lw_p84, List.forall_mem_cons.mpr ⟨lw_p85, List.forall_mem_cons.mpr ⟨lw_p86, List.forall_mem_cons.mpr ⟨lw_p87, fun _ h => absurd h List.not_mem_nil⟩⟩⟩⟩⟩⟩⟩⟩
def lw_privs : List (MethodName × Nat) := lw_privs_1 ++ (lw_privs_2 ++ (lw_privs_3 ++ (lw_privs_4 ++ (lw_privs_5 ++ (lw_privs_6)))))
def lw_tbl : List Cond := k2_sels lw_privs ++ tables_1
theorem lw_privs_ok : ∀ q ∈ lw_privs, lw_okq q := by
  show ∀ q ∈ lw_privs_1 ++ (lw_privs_2 ++ (lw_privs_3 ++ (lw_privs_4 ++ (lw_privs_5 ++ (lw_privs_6))))), lw_okq q
  exact List.forall_mem_append.mpr ⟨lw_r1, List.forall_mem_append.mpr ⟨lw_r2, List.forall_mem_append.mpr ⟨lw_r3, List.forall_mem_append.mpr ⟨lw_r4, List.forall_mem_append.mpr ⟨lw_r5, lw_r6⟩⟩⟩⟩⟩
end
section
/-! THE PURE MACHINE: a heap of three functions, and a predicate transformer over linked instructions.
A pure heap: the shape of each cell (its tag, its length), ints, longs, references (0 is null), and the next free cell.
Tags: 0 .. 10 classes, 20 int[], 21 byte[], 22 boolean[], 23 long[], 24 Field[], 25 Cycle[], 26 Space[], 27 int[][], 99 nothing. Cells 1 .. 4: the script and three static rows, which are read only. -/
abbrev PH : Type := (Nat → Nat × Nat) × (Nat → Nat → Int32) × (Nat → Nat → Int64) × (Nat → Nat → Nat) × Nat
def hT (h : PH) (k : Nat) : Nat := (h.1 k).1
def hN (h : PH) (k : Nat) : Nat := (h.1 k).2
def hI (h : PH) : Nat → Nat → Int32 := h.2.1
def hL (h : PH) : Nat → Nat → Int64 := h.2.2.1
def hR (h : PH) : Nat → Nat → Nat := h.2.2.2.1
def hE (h : PH) : Nat := h.2.2.2.2
def up1 {α : Type} (f : Nat → α) (k : Nat) (v : α) : Nat → α := fun k' => if k' = k then v else f k'
def up2 {α : Type} (f : Nat → Nat → α) (k j : Nat) (v : α) : Nat → Nat → α := fun k' j' => if k' = k ∧ j' = j then v else f k' j'
def sI (h : PH) (k j : Nat) (v : Int32) : PH := (h.1, up2 (hI h) k j v, hL h, hR h, hE h)
def sL (h : PH) (k j : Nat) (v : Int64) : PH := (h.1, hI h, up2 (hL h) k j v, hR h, hE h)
def sR (h : PH) (k j : Nat) (v : Nat) : PH := (h.1, hI h, hL h, up2 (hR h) k j v, hE h)
/-- a new cell -/
def hNew (h : PH) (t n : Nat) : PH := (up1 h.1 (hE h) (t, n), up1 (hI h) (hE h) (fun _ => 0), up1 (hL h) (hE h) (fun _ => 0), up1 (hR h) (hE h) (fun _ => 0), hE h + 1)
/-- new T[n][m] -/
def hNewM (h : PH) (t n t2 m : Nat) : PH :=
  (fun k => if k = hE h then (t, n) else if hE h < k ∧ k ≤ hE h + n then (t2, m) else h.1 k,
   fun k j => if hE h ≤ k ∧ k ≤ hE h + n then 0 else hI h k j,
   fun k j => if hE h ≤ k ∧ k ≤ hE h + n then 0 else hL h k j,
   fun k j => if k = hE h then (if j < n then hE h + 1 + j else 0) else if hE h < k ∧ k ≤ hE h + n then 0 else hR h k j,
   hE h + 1 + n)
/-- System.arraycopy of ints -/
def sCp (h : PH) (k0 p0 k1 p1 n : Nat) : PH := (h.1, fun k j => if k = k1 ∧ p1 ≤ j ∧ j < p1 + n then hI h k0 (p0 + (j - p1)) else hI h k j, hL h, hR h, hE h)
/-- an index in an array of a kind -/
def inB (h : PH) (k t : Nat) (i : Int32) : Prop := hT h k = t ∧ ¬ i < 0 ∧ i.toNatClampNeg < hN h k
/-- what a store into a row of bytes or booleans keeps -/
def nrB (t : Nat) (x : Int32) : Int32 := if t = 21 then x.toInt8.toInt32 else x &&& 1
/-- a linked instruction: its place, the instruction in one of the forms below, numbers, constants, targets -/
abbrev Ent : Type := Nat × Instr × Nat × Nat × Nat × Int32 × Int64 × List (Int32 × Nat)
abbrev PK : Type := Value → PH → Prop
abbrev PL : Type := List (Option Value)
abbrev PSem : Type := (Nat → List Value → PH → PK → Prop) × (Nat → Nat → PL → List Value → PH → Nat → Nat → PK → Prop)
def lgt (pl : PL) (i : Nat) : Value := match pl[i]? with
  | some (some v) => v
  | _ => .retAddr 0
def lcl (pl : PL) (i : Nat) : PL := match i with
  | 0 => pl
  | j + 1 => match pl[j]? with
    | some (some (.long _)) => pl.set j none
    | some (some (.double _)) => pl.set j none
    | _ => pl
def ls1 (pl : PL) (i : Nat) (v : Value) : PL := (lcl pl i).set i (some v)
def ls2 (pl : PL) (i : Nat) (v : Value) : PL := ((lcl pl i).set i (some v)).set (i + 1) none
/-- only what is still wanted -/
def lmk : List (Int32 × Nat) → PL → PL
  | (_, 0) :: m, _ :: l => none :: lmk m l
  | (_, _ + 1) :: m, a :: l => a :: lmk m l
  | [], l => l
  | _, [] => []
def ctg : List Value → Nat
  | [] => 0
  | .long _ :: l => 2 + ctg l
  | .double _ :: l => 2 + ctg l
  | _ :: l => 1 + ctg l
def popn : Nat → List Value → List Value → Option (List Value × List Value)
  | 0, st, acc => some (acc, st)
  | n + 1, v :: st, acc => popn n st (v :: acc)
  | _ + 1, [], _ => none
def o_ii (f : Int32 → Int32 → Int32) (st : List Value) (k : List Value → Prop) : Prop := match st with
  | .int y :: .int x :: s => k (.int (f x y) :: s)
  | _ => False
def o_iin (f : Int32 → Int32 → Int32) (st : List Value) (k : List Value → Prop) : Prop := match st with
  | .int y :: .int x :: s => (¬ y = 0) ∧ k (.int (f x y) :: s)
  | _ => False
def o_ll (f : Int64 → Int64 → Int64) (st : List Value) (k : List Value → Prop) : Prop := match st with
  | .long y :: .long x :: s => k (.long (f x y) :: s)
  | _ => False
def o_lln (f : Int64 → Int64 → Int64) (st : List Value) (k : List Value → Prop) : Prop := match st with
  | .long y :: .long x :: s => (¬ y = 0) ∧ k (.long (f x y) :: s)
  | _ => False
def o_li (f : Int64 → Int32 → Int64) (st : List Value) (k : List Value → Prop) : Prop := match st with
  | .int y :: .long x :: s => k (.long (f x y) :: s)
  | _ => False
def i_rem (x y : Int32) : Int32 := x - x / y * y
def l_rem (x y : Int64) : Int64 := x - x / y * y
def i_shl (x y : Int32) : Int32 := x <<< (y &&& 31)
def i_shr (x y : Int32) : Int32 := x >>> (y &&& 31)
def i_ushr (x y : Int32) : Int32 := (x.toUInt32 >>> (y.toUInt32 &&& Int32.toUInt32 31)).toInt32
def l_shl (x : Int64) (y : Int32) : Int64 := x <<< (y.toInt64 &&& 63)
def l_shr (x : Int64) (y : Int32) : Int64 := x >>> (y.toInt64 &&& 63)
def l_cmp (x y : Int64) : Int32 := if x > y then 1 else if x = y then 0 else -1
def br1 (c : Jvm.ClassFile.Cond) (x : Int32) (J N : Prop) : Prop := match c with
  | .eq => (x = 0 → J) ∧ (¬ x = 0 → N)
  | .ne => (¬ x = 0 → J) ∧ (x = 0 → N)
  | .lt => (x < 0 → J) ∧ (¬ x < 0 → N)
  | .ge => (0 ≤ x → J) ∧ (¬ 0 ≤ x → N)
  | .gt => (0 < x → J) ∧ (¬ 0 < x → N)
  | .le => (x ≤ 0 → J) ∧ (¬ x ≤ 0 → N)
def br2 (c : Jvm.ClassFile.Cond) (x y : Int32) (J N : Prop) : Prop := match c with
  | .eq => (x = y → J) ∧ (¬ x = y → N)
  | .ne => (¬ x = y → J) ∧ (x = y → N)
  | .lt => (x < y → J) ∧ (¬ x < y → N)
  | .ge => (y ≤ x → J) ∧ (¬ y ≤ x → N)
  | .gt => (y < x → J) ∧ (¬ y < x → N)
  | .le => (x ≤ y → J) ∧ (¬ x ≤ y → N)
def swp (x : Int32) (J : Nat → Prop) (d : Nat) : List (Int32 × Nat) → Prop
  | [] => J d
  | (v, t) :: l => (x = v → J t) ∧ (¬ x = v → swp x J d l)
def tl_g (l : List (Int32 × Nat)) : Nat := match l with
  | (_, a) :: _ => a
  | _ => 0
def tl_c (l : List (Int32 × Nat)) : Nat × Nat := match l with
  | _ :: (_, a) :: (_, b) :: _ => (a, b)
  | _ => (0, 0)
def b_if (b : Bool) (k : Prop) : Prop := match b with
  | true => k
  | false => False
def c_eq (n m : Nat) (x y : Prop) : Prop := match Nat.beq n m with
  | true => x
  | false => y
def p_if {α : Type} (o : Option α) (k : α → Prop) : Prop := match o with
  | some a => k a
  | none => False
def s_i (st : List Value) (k : Int32 → List Value → Prop) : Prop := match st with
  | .int x :: s => k x s
  | _ => False
def s_l (st : List Value) (k : Int64 → List Value → Prop) : Prop := match st with
  | .long x :: s => k x s
  | _ => False
def s_r (st : List Value) (k : Nat → List Value → Prop) : Prop := match st with
  | .ref x :: s => k x s
  | _ => False
def s_n (st : List Value) (k : Prop) : Prop := match st with
  | [] => k
  | _ => False
def pshE (n : Nat) (r : Value) (s : List Value) : List Value := match n with
  | 0 => s
  | _ => r :: s
abbrev PGo : Type := PL → List Value → PH → Nat → Nat → Prop
/-- one instruction: nx goes on behind it, jp at a place; mc, ms: what the method may make -/
def stp (P : PSem) (mc ms : Nat) (K : PK) (e : Ent) (nx : PGo) (jp : Nat → List (Int32 × Nat) → PGo) (pl : PL) (st : List Value) (h : PH) (ca sl : Nat) : Prop :=
  match e with
  | (_, ins, ea, eb, ec, ev, ew, tl) => match ins with
  | .sipush _ => nx pl (.int ev :: st) h ca sl
  | .ldc2_w _ => nx pl (.long ew :: st) h ca sl
  | .iload i => match lgt pl i with
    | .int x => nx pl (.int x :: st) h ca sl
    | _ => False
  | .lload i => match lgt pl i with
    | .long x => nx pl (.long x :: st) h ca sl
    | _ => False
  | .aload i => match lgt pl i with
    | .ref x => nx pl (.ref x :: st) h ca sl
    | _ => False
  | .istore i => match st with
    | .int x :: s => nx (ls1 pl i (.int x)) s h ca sl
    | _ => False
  | .lstore i => match st with
    | .long x :: s => nx (ls2 pl i (.long x)) s h ca sl
    | _ => False
  | .astore i => match st with
    | .ref x :: s => nx (ls1 pl i (.ref x)) s h ca sl
    | _ => False
  | .iinc i _ => match lgt pl i with
    | .int x => nx (ls1 pl i (.int (x + ev))) st h ca sl
    | _ => False
  | .iadd => o_ii (fun x y => x + y) st (fun s => nx pl s h ca sl)
  | .isub => o_ii (fun x y => x - y) st (fun s => nx pl s h ca sl)
  | .imul => o_ii (fun x y => x * y) st (fun s => nx pl s h ca sl)
  | .iand => o_ii (fun x y => x &&& y) st (fun s => nx pl s h ca sl)
  | .ior => o_ii (fun x y => x ||| y) st (fun s => nx pl s h ca sl)
  | .ixor => o_ii (fun x y => x ^^^ y) st (fun s => nx pl s h ca sl)
  | .ishl => o_ii i_shl st (fun s => nx pl s h ca sl)
  | .ishr => o_ii i_shr st (fun s => nx pl s h ca sl)
  | .iushr => o_ii i_ushr st (fun s => nx pl s h ca sl)
  | .idiv => o_iin (fun x y => x / y) st (fun s => nx pl s h ca sl)
  | .irem => o_iin i_rem st (fun s => nx pl s h ca sl)
  | .ladd => o_ll (fun x y => x + y) st (fun s => nx pl s h ca sl)
  | .lmul => o_ll (fun x y => x * y) st (fun s => nx pl s h ca sl)
  | .land => o_ll (fun x y => x &&& y) st (fun s => nx pl s h ca sl)
  | .lxor => o_ll (fun x y => x ^^^ y) st (fun s => nx pl s h ca sl)
  | .ldiv => o_lln (fun x y => x / y) st (fun s => nx pl s h ca sl)
  | .lrem => o_lln l_rem st (fun s => nx pl s h ca sl)
  | .lshl => o_li l_shl st (fun s => nx pl s h ca sl)
  | .lshr => o_li l_shr st (fun s => nx pl s h ca sl)
  | .lneg => match st with
    | .long x :: s => nx pl (.long (-x) :: s) h ca sl
    | _ => False
  | .lcmp => match st with
    | .long y :: .long x :: s => nx pl (.int (l_cmp x y) :: s) h ca sl
    | _ => False
  | .i2l => match st with
    | .int x :: s => nx pl (.long x.toInt64 :: s) h ca sl
    | _ => False
  | .l2i => match st with
    | .long x :: s => nx pl (.int x.toInt32 :: s) h ca sl
    | _ => False
  | .i2b => match st with
    | .int x :: s => nx pl (.int x.toInt8.toInt32 :: s) h ca sl
    | _ => False
  | .dup => match st with
    | .int x :: s => nx pl (.int x :: .int x :: s) h ca sl
    | .ref x :: s => nx pl (.ref x :: .ref x :: s) h ca sl
    | _ => False
  | .dup2 => match st with
    | .int x :: .ref y :: s => nx pl (.int x :: .ref y :: .int x :: .ref y :: s) h ca sl
    | _ => False
  | .pop => match st with
    | .int _ :: s => nx pl s h ca sl
    | .ref _ :: s => nx pl s h ca sl
    | _ => False
  | .ifCond c _ => match st with
    | .int x :: s => br1 c x (jp ea tl pl s h ca sl) (nx pl s h ca sl)
    | _ => False
  | .if_icmp c _ => match st with
    | .int y :: .int x :: s => br2 c x y (jp ea tl pl s h ca sl) (nx pl s h ca sl)
    | _ => False
  | .ifnull _ => match st with
    | .ref x :: s => (x = 0 → jp ea tl pl s h ca sl) ∧ (¬ x = 0 → nx pl s h ca sl)
    | _ => False
  | .ifnonnull _ => match st with
    | .ref x :: s => (¬ x = 0 → jp ea tl pl s h ca sl) ∧ (x = 0 → nx pl s h ca sl)
    | _ => False
  | .goto _ => jp ea tl pl st h ca sl
  | .lookupswitch _ _ => match st with
    | .int x :: s => swp x (fun t => jp t [] pl s h ca sl) ea tl
    | _ => False
  | .getfield _ => match st with
    | .ref k :: s => hT h k = ec ∧ (match eb with
      | 0 => nx pl (.int (hI h k ea) :: s) h ca sl
      | 1 => nx pl (.long (hL h k ea) :: s) h ca sl
      | _ => nx pl (.ref (hR h k ea) :: s) h ca sl)
    | _ => False
  | .putfield _ => match eb, st with
    | 0, .int v :: .ref k :: s => hT h k = ec ∧ nx pl s (sI h k ea v) ca sl
    | 1, .long v :: .ref k :: s => hT h k = ec ∧ nx pl s (sL h k ea v) ca sl
    | 2, .ref v :: .ref k :: s => hT h k = ec ∧ nx pl s (sR h k ea v) ca sl
    | 3, .int v :: .ref k :: s => (hT h k = ec ∧ (v = 0 ∨ v = 1)) ∧ nx pl s (sI h k ea v) ca sl
    | _, _ => False
  | .getstatic _ => nx pl (.ref ea :: st) h ca sl
  | .iaload => match st with
    | .int i :: .ref k :: s => inB h k 20 i ∧ nx pl (.int (hI h k i.toNatClampNeg) :: s) h ca sl
    | _ => False
  | .baload => match st with
    | .int i :: .ref k :: s => (inB h k 21 i ∨ inB h k 22 i) ∧ nx pl (.int (hI h k i.toNatClampNeg) :: s) h ca sl
    | _ => False
  | .laload => match st with
    | .int i :: .ref k :: s => inB h k 23 i ∧ nx pl (.long (hL h k i.toNatClampNeg) :: s) h ca sl
    | _ => False
  | .aaload => match st with
    | .int i :: .ref k :: s => (inB h k 24 i ∨ inB h k 25 i ∨ inB h k 26 i ∨ inB h k 27 i) ∧ nx pl (.ref (hR h k i.toNatClampNeg) :: s) h ca sl
    | _ => False
  | .iastore => match st with
    | .int x :: .int i :: .ref k :: s => (5 ≤ k ∧ inB h k 20 i) ∧ nx pl s (sI h k i.toNatClampNeg x) ca sl
    | _ => False
  | .bastore => match st with
    | .int x :: .int i :: .ref k :: s => (inB h k 21 i ∨ inB h k 22 i) ∧ nx pl s (sI h k i.toNatClampNeg (nrB (hT h k) x)) ca sl
    | _ => False
  | .lastore => match st with
    | .long x :: .int i :: .ref k :: s => inB h k 23 i ∧ nx pl s (sL h k i.toNatClampNeg x) ca sl
    | _ => False
  | .aastore => match st with
    | .ref x :: .int i :: .ref k :: s => ((inB h k 24 i ∧ hT h x = 2) ∨ (inB h k 25 i ∧ hT h x = 3) ∨ (inB h k 26 i ∧ hT h x = 4)) ∧ nx pl s (sR h k i.toNatClampNeg x) ca sl
    | _ => False
  | .arraylength => match st with
    | .ref k :: s => (20 ≤ hT h k ∧ hT h k ≤ 27) ∧ nx pl (.int (Int32.ofNat (hN h k)) :: s) h ca sl
    | _ => False
  | .new _ => b_if (Nat.ble (ca + 1) mc && Nat.ble (sl + eb) ms) (nx pl (.ref (hE h) :: st) (hNew h ea eb) (ca + 1) (sl + eb))
  | .newarray _ => b_if (Nat.ble (ca + 1) mc && Nat.ble (sl + eb) ms) (s_i st (fun n s => (¬ n < 0 ∧ n.toNatClampNeg ≤ eb) ∧ nx pl (.ref (hE h) :: s) (hNew h ea n.toNatClampNeg) (ca + 1) (sl + eb)))
  | .anewarray _ => b_if (Nat.ble (ca + 1) mc && Nat.ble (sl + eb) ms) (s_i st (fun n s => (¬ n < 0 ∧ n.toNatClampNeg ≤ eb) ∧ nx pl (.ref (hE h) :: s) (hNew h ea n.toNatClampNeg) (ca + 1) (sl + eb)))
  | .multianewarray _ _ => b_if (Nat.ble (ca + (1 + eb)) mc && Nat.ble (sl + (eb + eb * ec)) ms) (s_i st (fun m s => s_i s (fun n s => (¬ n < 0 ∧ n.toNatClampNeg = eb ∧ ¬ m < 0 ∧ m.toNatClampNeg = ec) ∧ nx pl (.ref (hE h) :: s) (hNewM h 27 eb 20 ec) (ca + 1 + eb) (sl + eb + eb * ec))))
  | .invokevirtual _ => p_if (popn eb st []) (fun a => s_r a.1 (fun k as => b_if (Nat.ble (ca + (tl_c tl).1) mc && Nat.ble (sl + (tl_c tl).2) ms && Nat.ble (ctg a.2) 8)
      (hT h k = tl_g tl ∧ P.1 ea (.ref k :: as) h (fun r h' => nx pl (pshE ec r a.2) h' (ca + (tl_c tl).1) (sl + (tl_c tl).2)))))
  | .invokespecial _ => c_eq ec 9 (s_r st (fun k s => b_if (Nat.ble (ctg s) 8) (1 ≤ k ∧ nx pl s h ca sl)))
      (p_if (popn eb st []) (fun a => s_r a.1 (fun k as => b_if (Nat.ble (ca + (tl_c tl).1) mc && Nat.ble (sl + (tl_c tl).2) ms && Nat.ble (ctg a.2) 8)
        (1 ≤ k ∧ P.1 ea (.ref k :: as) h (fun _ h' => nx pl a.2 h' (ca + (tl_c tl).1) (sl + (tl_c tl).2))))))
  | .invokestatic _ => c_eq ec 8 (s_i st (fun n s => s_i s (fun dp s => s_r s (fun k1 s => s_i s (fun sp s => s_r s (fun k0 s => b_if (Nat.ble (ctg s) 8)
        ((5 ≤ k1 ∧ hT h k0 = 20 ∧ hT h k1 = 20 ∧ ¬ sp < 0 ∧ ¬ dp < 0 ∧ ¬ n < 0 ∧ sp.toNatClampNeg + n.toNatClampNeg ≤ hN h k0 ∧ dp.toNatClampNeg + n.toNatClampNeg ≤ hN h k1) ∧ nx pl s (sCp h k0 sp.toNatClampNeg k1 dp.toNatClampNeg n.toNatClampNeg) ca sl)))))))
      (p_if (popn eb st []) (fun a => b_if (Nat.ble (ca + (tl_c tl).1) mc && Nat.ble (sl + (tl_c tl).2) ms && Nat.ble (ctg a.2) 8)
        (P.1 ea a.1 h (fun r h' => nx pl (pshE ec r a.2) h' (ca + (tl_c tl).1) (sl + (tl_c tl).2)))))
  | .ireturn => b_if (Nat.ble ca mc && Nat.ble sl ms) (s_i st (fun x s => s_n s (c_eq ea 1 ((x = 0 ∨ x = 1) ∧ K (.int x) h) (K (.int x) h))))
  | .lreturn => b_if (Nat.ble ca mc && Nat.ble sl ms) (s_l st (fun x s => s_n s (K (.long x) h)))
  | .return_ => b_if (Nat.ble ca mc && Nat.ble sl ms) (s_n st (K .null h))
  | _ => False
def isn (stops : List Nat) (t : Nat) : Bool := match stops with
  | [] => false
  | a :: l => Nat.beq a t || isn l t
/-- the predicate transformer: at most so many instructions; at a stop, behind a jump back and when it is at its end it asks PW of the place -/
def wp (P : PSem) (i mc ms : Nat) (prog : List Ent) (stops : List Nat) (K : PK) : Nat → List Ent → PGo
  | _, [] => fun _ _ _ _ _ => False
  | 0, e :: _ => fun pl st h ca sl => P.2 i e.1 pl st h ca sl K
  | f + 1, e :: rest => stp P mc ms K e
      (match rest with
        | [] => fun _ _ _ _ _ => False
        | e2 :: _ => match isn stops e2.1 with
          | true => fun pl st h ca sl => P.2 i e2.1 pl st h ca sl K
          | false => wp P i mc ms prog stops K f rest)
      (fun t m => match Nat.ble t e.1 || isn stops t with
        | true => fun pl st h ca sl => P.2 i t (lmk m pl) st h ca sl K
        | false => wp P i mc ms prog stops K f (prog.drop t))
def e_0 (ix : Nat) (n : Instr) : Ent := (ix, n, 0, 0, 0, 0, 0, [])
def e_v (ix : Nat) (v : Int32) : Ent := (ix, .sipush 0, 0, 0, 0, v, 0, [])
def e_w (ix : Nat) (v : Int64) : Ent := (ix, .ldc2_w 0, 0, 0, 0, 0, v, [])
def e_a (ix : Nat) (n : Instr) (a b c : Nat) : Ent := (ix, n, a, b, c, 0, 0, [])
def e_i (ix k : Nat) (v : Int32) : Ent := (ix, .iinc k 0, 0, 0, 0, v, 0, [])
def e_j (ix : Nat) (n : Instr) (a : Nat) (m : List (Int32 × Nat)) : Ent := (ix, n, a, 0, 0, 0, 0, m)
/-- a call: callee, how many arguments, what it answers (0 nothing), then the class of the receiver, what it makes -/
def e_c (ix : Nat) (n : Instr) (a b c : Nat) (m : List (Int32 × Nat)) : Ent := (ix, n, a, b, c, 0, 0, m)
end
section
/-! printed by wip/gen/progs.py: the methods, linked; their numbers -/
def p_FT_init : List Ent := [e_0 0 (.aload 0), e_a 1 (.invokespecial 0) 0 1 9, e_0 2 (.aload 0), e_a 3 (.new 0) 0 6 0, e_0 4 .dup, e_c 5 (.invokespecial 0) 1 1 0 [(0,0),(0,1),(0,2000)], e_a 6 (.putfield 0) 0 2 9, e_0 7 (.aload 0), e_a 8 (.new 0) 5 7 0, e_0 9 .dup, e_c 10 (.invokespecial 0) 2 1 0 [(0,5),(0,70),(0,578)], e_a 11 (.putfield 0) 1 2 9, e_0 12 (.aload 0), e_a 13 (.new 0) 6 7 0, e_0 14 .dup, e_c 15 (.invokespecial 0) 7 1 0 [(0,6),(0,5),(0,44)], e_a 16 (.putfield 0) 2 2 9, e_0 17 (.aload 0), e_a 18 (.new 0) 7 3 0, e_0 19 .dup, e_c 20 (.invokespecial 0) 8 1 0 [(0,7),(0,2),(0,60)], e_a 21 (.putfield 0) 3 2 9, e_0 22 (.aload 0), e_v 23 8, e_a 24 (.newarray .int) 20 8 0, e_a 25 (.putfield 0) 4 2 9, e_0 26 (.aload 0), e_v 27 13, e_a 28 (.newarray .int) 20 13 0, e_a 29 (.putfield 0) 5 2 9, e_0 30 (.aload 0), e_v 31 3, e_v 32 13, e_a 33 (.multianewarray 0 2) 27 3 13, e_a 34 (.putfield 0) 6 2 9, e_0 35 (.aload 0), e_v 36 3, e_a 37 (.newarray .boolean) 22 3 0, e_a 38 (.putfield 0) 7 2 9, e_0 39 (.aload 0), e_v 40 64, e_a 41 (.newarray .int) 20 64 0, e_a 42 (.putfield 0) 8 2 9, e_0 43 (.aload 0), e_a 44 (.new 0) 8 13 0, e_0 45 .dup, e_c 46 (.invokespecial 0) 9 1 0 [(0,8),(0,9),(0,1645)], e_a 47 (.putfield 0) 9 2 9, e_0 48 (.aload 0), e_a 49 (.new 0) 8 13 0, e_0 50 .dup, e_c 51 (.invokespecial 0) 9 1 0 [(0,8),(0,9),(0,1645)], e_a 52 (.putfield 0) 10 2 9, e_0 53 (.aload 0), e_v 54 (-1), e_a 55 (.putfield 0) 11 0 9, e_0 56 .return_]
abbrev n_FT_init : Nat := 0
def p_Tape_init : List Ent := [e_0 0 (.aload 0), e_a 1 (.invokespecial 0) 0 1 9, e_0 2 (.aload 0), e_v 3 2000, e_a 4 (.newarray .byte) 21 2000 0, e_a 5 (.putfield 0) 0 2 0, e_0 6 .return_]
abbrev n_Tape_init : Nat := 1
def p_Tower_init : List Ent := [e_0 0 (.aload 0), e_a 1 (.invokespecial 0) 0 1 9, e_0 2 (.aload 0), e_v 3 13, e_a 4 (.anewarray 0) 24 13 0, e_a 5 (.putfield 0) 0 2 5, e_0 6 (.aload 0), e_v 7 13, e_a 8 (.anewarray 0) 25 13 0, e_a 9 (.putfield 0) 1 2 5, e_0 10 (.aload 0), e_v 11 13, e_a 12 (.anewarray 0) 26 13 0, e_a 13 (.putfield 0) 2 2 5, e_0 14 (.aload 0), e_a 15 (.new 0) 1 3 0, e_0 16 .dup, e_c 17 (.invokespecial 0) 3 1 0 [(0,1),(0,2),(0,24)], e_a 18 (.putfield 0) 3 2 5, e_0 19 (.aload 0), e_v 20 13, e_v 21 13, e_a 22 (.multianewarray 0 2) 27 13 13, e_a 23 (.putfield 0) 4 2 5, e_0 24 (.aload 0), e_v 25 13, e_a 26 (.newarray .boolean) 22 13 0, e_a 27 (.putfield 0) 5 2 5, e_0 28 (.aload 0), e_v 29 5, e_a 30 (.newarray .int) 20 5 0, e_a 31 (.putfield 0) 6 2 5, e_v 32 1, e_0 33 (.istore 1), e_0 34 (.iload 1), e_v 35 12, e_j 36 (.if_icmp .gt 0) 71 [], e_0 37 (.aload 0), e_a 38 (.getfield 0) 0 2 5, e_0 39 (.iload 1), e_a 40 (.new 0) 2 4 0, e_0 41 .dup, e_0 42 (.iload 1), e_c 43 (.invokespecial 0) 4 2 0 [(0,2),(0,1),(0,13)], e_0 44 .aastore, e_0 45 (.aload 0), e_a 46 (.getfield 0) 1 2 5, e_0 47 (.iload 1), e_a 48 (.new 0) 3 5 0, e_0 49 .dup, e_0 50 (.aload 0), e_a 51 (.getfield 0) 0 2 5, e_0 52 (.iload 1), e_0 53 .aaload, e_c 54 (.invokespecial 0) 5 2 0 [(0,3)], e_0 55 .aastore, e_0 56 (.aload 0), e_a 57 (.getfield 0) 2 2 5, e_0 58 (.iload 1), e_a 59 (.new 0) 4 4 0, e_0 60 .dup, e_0 61 (.aload 0), e_a 62 (.getfield 0) 0 2 5, e_0 63 (.iload 1), e_0 64 .aaload, e_0 65 (.aload 0), e_a 66 (.getfield 0) 3 2 5, e_c 67 (.invokespecial 0) 6 3 0 [(0,4)], e_0 68 .aastore, e_i 69 1 (1), e_j 70 (.goto 0) 34 [(0,1),(0,1)], e_0 71 .return_]
abbrev n_Tower_init : Nat := 2
def p_Span_init : List Ent := [e_0 0 (.aload 0), e_a 1 (.invokespecial 0) 0 1 9, e_0 2 (.aload 0), e_v 3 12, e_a 4 (.newarray .int) 20 12 0, e_a 5 (.putfield 0) 0 2 1, e_0 6 (.aload 0), e_v 7 12, e_a 8 (.newarray .int) 20 12 0, e_a 9 (.putfield 0) 1 2 1, e_0 10 .return_]
abbrev n_Span_init : Nat := 3
def p_Field_init : List Ent := [e_0 0 (.aload 0), e_a 1 (.invokespecial 0) 0 1 9, e_0 2 (.aload 0), e_0 3 (.iload 1), e_a 4 (.putfield 0) 0 0 2, e_0 5 (.aload 0), e_v 6 1, e_0 7 (.iload 1), e_0 8 .ishl, e_a 9 (.putfield 0) 1 0 2, e_0 10 (.aload 0), e_a 11 (.getstatic 0) 2 0 0, e_0 12 (.iload 1), e_0 13 .iaload, e_a 14 (.putfield 0) 2 0 2, e_0 15 (.aload 0), e_v 16 13, e_a 17 (.newarray .int) 20 13 0, e_a 18 (.putfield 0) 3 2 2, e_0 19 .return_]
abbrev n_Field_init : Nat := 4
def p_Cycle_init : List Ent := [e_0 0 (.aload 0), e_a 1 (.invokespecial 0) 0 1 9, e_0 2 (.aload 0), e_0 3 (.aload 1), e_a 4 (.putfield 0) 0 2 3, e_0 5 (.aload 0), e_0 6 (.aload 1), e_a 7 (.getfield 0) 1 0 2, e_v 8 1, e_0 9 .isub, e_a 10 (.putfield 0) 1 0 3, e_0 11 .return_]
abbrev n_Cycle_init : Nat := 5
def p_Space_init : List Ent := [e_0 0 (.aload 0), e_a 1 (.invokespecial 0) 0 1 9, e_0 2 (.aload 0), e_0 3 (.aload 1), e_a 4 (.putfield 0) 0 2 4, e_0 5 (.aload 0), e_0 6 (.aload 2), e_a 7 (.putfield 0) 1 2 4, e_0 8 .return_]
abbrev n_Space_init : Nat := 6
def p_Worker_init : List Ent := [e_0 0 (.aload 0), e_a 1 (.invokespecial 0) 0 1 9, e_0 2 (.aload 0), e_v 3 8, e_a 4 (.newarray .int) 20 8 0, e_a 5 (.putfield 0) 0 2 6, e_0 6 (.aload 0), e_v 7 9, e_a 8 (.newarray .int) 20 9 0, e_a 9 (.putfield 0) 2 2 6, e_0 10 (.aload 0), e_v 11 9, e_a 12 (.newarray .int) 20 9 0, e_a 13 (.putfield 0) 3 2 6, e_0 14 (.aload 0), e_v 15 9, e_a 16 (.newarray .int) 20 9 0, e_a 17 (.putfield 0) 4 2 6, e_0 18 (.aload 0), e_v 19 9, e_a 20 (.newarray .int) 20 9 0, e_a 21 (.putfield 0) 5 2 6, e_0 22 .return_]
abbrev n_Worker_init : Nat := 7
def p_Hist_init : List Ent := [e_0 0 (.aload 0), e_a 1 (.invokespecial 0) 0 1 9, e_0 2 (.aload 0), e_v 3 30, e_a 4 (.newarray .int) 20 30 0, e_a 5 (.putfield 0) 0 2 7, e_0 6 (.aload 0), e_v 7 30, e_a 8 (.newarray .int) 20 30 0, e_a 9 (.putfield 0) 1 2 7, e_0 10 .return_]
abbrev n_Hist_init : Nat := 8
def p_Script_init : List Ent := [e_0 0 (.aload 0), e_a 1 (.invokespecial 0) 0 1 9, e_0 2 (.aload 0), e_v 3 400, e_a 4 (.newarray .int) 20 400 0, e_a 5 (.putfield 0) 1 2 8, e_0 6 (.aload 0), e_v 7 400, e_a 8 (.newarray .int) 20 400 0, e_a 9 (.putfield 0) 2 2 8, e_0 10 (.aload 0), e_v 11 400, e_a 12 (.newarray .int) 20 400 0, e_a 13 (.putfield 0) 3 2 8, e_0 14 (.aload 0), e_v 15 400, e_a 16 (.newarray .long) 23 400 0, e_a 17 (.putfield 0) 4 2 8, e_0 18 (.aload 0), e_v 19 13, e_a 20 (.newarray .int) 20 13 0, e_a 21 (.putfield 0) 5 2 8, e_0 22 (.aload 0), e_v 23 8, e_a 24 (.newarray .long) 23 8 0, e_a 25 (.putfield 0) 7 2 8, e_0 26 (.aload 0), e_v 27 8, e_a 28 (.newarray .int) 20 8 0, e_a 29 (.putfield 0) 8 2 8, e_0 30 (.aload 0), e_v 31 8, e_a 32 (.newarray .int) 20 8 0, e_a 33 (.putfield 0) 9 2 8, e_0 34 (.aload 0), e_v 35 8, e_a 36 (.newarray .boolean) 22 8 0, e_a 37 (.putfield 0) 10 2 8, e_0 38 (.aload 0), e_v 39 (-1), e_a 40 (.putfield 0) 12 0 8, e_0 41 .return_]
abbrev n_Script_init : Nat := 9
def p_FT_feed : List Ent := [e_0 0 (.aload 0), e_a 1 (.getfield 0) 0 2 9, e_a 2 (.getfield 0) 1 0 0, e_v 3 20, e_0 4 .iadd, e_v 5 2000, e_j 6 (.if_icmp .le 0) 9 [], e_v 7 (-1), e_a 8 .ireturn 0 0 0, e_0 9 (.aload 0), e_a 10 (.getfield 0) 0 2 9, e_0 11 (.iload 1), e_c 12 (.invokevirtual 0) 11 2 0 [(0,0)], e_0 13 (.aload 0), e_a 14 (.getfield 0) 0 2 9, e_0 15 (.iload 2), e_c 16 (.invokevirtual 0) 11 2 0 [(0,0)], e_0 17 (.aload 0), e_a 18 (.getfield 0) 0 2 9, e_0 19 (.iload 3), e_c 20 (.invokevirtual 0) 11 2 0 [(0,0)], e_0 21 (.aload 0), e_a 22 (.getfield 0) 0 2 9, e_0 23 (.iload 4), e_c 24 (.invokevirtual 0) 11 2 0 [(0,0)], e_0 25 (.aload 0), e_a 26 (.getfield 0) 0 2 9, e_0 27 (.iload 5), e_c 28 (.invokevirtual 0) 11 2 0 [(0,0)], e_0 29 (.aload 0), e_a 30 (.getfield 0) 0 2 9, e_a 31 (.getfield 0) 1 0 0, e_a 32 .ireturn 0 0 0]
abbrev n_FT_feed : Nat := 10
def p_Tape_append : List Ent := [e_v 0 24, e_0 1 (.istore 2), e_0 2 (.iload 2), e_j 3 (.ifCond .lt 0) 25 [], e_0 4 (.aload 0), e_a 5 (.getfield 0) 1 0 0, e_v 6 2000, e_j 7 (.if_icmp .ge 0) 25 [], e_0 8 (.aload 0), e_a 9 (.getfield 0) 0 2 0, e_0 10 (.aload 0), e_a 11 (.getfield 0) 1 0 0, e_0 12 (.iload 1), e_0 13 (.iload 2), e_0 14 .ishr, e_0 15 .i2b, e_0 16 .bastore, e_0 17 (.aload 0), e_0 18 .dup, e_a 19 (.getfield 0) 1 0 0, e_v 20 1, e_0 21 .iadd, e_a 22 (.putfield 0) 1 0 0, e_i 23 2 (-8), e_j 24 (.goto 0) 2 [(0,1),(0,1),(0,1)], e_0 25 .return_]
abbrev n_Tape_append : Nat := 11
def p_FT_back : List Ent := [e_0 0 (.iload 1), e_j 1 (.ifCond .lt 0) 7 [], e_0 2 (.iload 1), e_0 3 (.aload 0), e_a 4 (.getfield 0) 0 2 9, e_a 5 (.getfield 0) 1 0 0, e_j 6 (.if_icmp .le 0) 9 [], e_v 7 (-1), e_a 8 .ireturn 0 0 0, e_0 9 (.aload 0), e_a 10 (.getfield 0) 0 2 9, e_0 11 .dup, e_a 12 (.getfield 0) 1 0 0, e_0 13 (.iload 1), e_0 14 .isub, e_a 15 (.putfield 0) 1 0 0, e_0 16 (.aload 0), e_a 17 (.getfield 0) 0 2 9, e_a 18 (.getfield 0) 1 0 0, e_a 19 .ireturn 0 0 0]
abbrev n_FT_back : Nat := 12
def p_FT_read : List Ent := [e_0 0 (.aload 0), e_a 1 (.getfield 0) 10 2 9, e_0 2 (.aload 0), e_a 3 (.getfield 0) 0 2 9, e_c 4 (.invokevirtual 0) 14 2 1 [(0,8)], e_0 5 (.istore 1), e_0 6 (.iload 1), e_j 7 (.ifCond .ne 0) 12 [], e_0 8 (.aload 0), e_a 9 (.getfield 0) 10 2 9, e_c 10 (.invokevirtual 0) 28 1 1 [(0,8)], e_0 11 (.istore 1), e_0 12 (.aload 0), e_a 13 (.getfield 0) 0 2 9, e_v 14 0, e_a 15 (.putfield 0) 1 0 0, e_0 16 (.aload 0), e_0 17 (.aload 0), e_a 18 (.getfield 0) 10 2 9, e_a 19 (.getfield 0) 12 0 8, e_a 20 (.putfield 0) 11 0 9, e_0 21 (.iload 1), e_j 22 (.ifCond .eq 0) 25 [], e_0 23 (.iload 1), e_a 24 .ireturn 0 0 0, e_0 25 (.aload 0), e_a 26 (.getfield 0) 1 2 9, e_0 27 (.aload 0), e_a 28 (.getfield 0) 5 2 9, e_c 29 (.invokevirtual 0) 42 2 0 [(0,5)], e_0 30 (.aload 0), e_a 31 (.getfield 0) 1 2 9, e_0 32 (.aload 0), e_a 33 (.getfield 0) 10 2 9, e_a 34 (.getfield 0) 5 2 8, e_c 35 (.invokevirtual 0) 43 2 0 [(0,5)], e_0 36 (.aload 0), e_a 37 (.getfield 0) 2 2 9, e_0 38 (.aload 0), e_a 39 (.getfield 0) 10 2 9, e_0 40 (.aload 0), e_a 41 (.getfield 0) 1 2 9, e_c 42 (.invokevirtual 0) 47 3 1 [(0,6)], e_j 43 (.ifCond .ne 0) 56 [], e_0 44 (.aload 0), e_a 45 (.getfield 0) 1 2 9, e_0 46 (.aload 0), e_a 47 (.getfield 0) 5 2 9, e_c 48 (.invokevirtual 0) 43 2 0 [(0,5)], e_0 49 (.aload 0), e_0 50 (.aload 0), e_a 51 (.getfield 0) 2 2 9, e_a 52 (.getfield 0) 1 0 6, e_a 53 (.putfield 0) 11 0 9, e_v 54 7, e_a 55 .ireturn 0 0 0, e_0 56 (.aload 0), e_a 57 (.getfield 0) 9 2 9, e_0 58 (.astore 2), e_0 59 (.aload 0), e_0 60 (.aload 0), e_a 61 (.getfield 0) 10 2 9, e_a 62 (.putfield 0) 9 2 9, e_0 63 (.aload 0), e_0 64 (.aload 2), e_a 65 (.putfield 0) 10 2 9, e_0 66 (.aload 0), e_c 67 (.invokevirtual 0) 68 1 0 [(0,9)], e_0 68 (.aload 0), e_a 69 (.getfield 0) 3 2 9, e_v 70 0, e_a 71 (.putfield 0) 2 0 7, e_0 72 (.aload 0), e_c 73 (.invokevirtual 0) 69 1 0 [(0,9)], e_v 74 0, e_a 75 .ireturn 0 0 0]
abbrev n_FT_read : Nat := 13
def p_Script_parse : List Ent := [e_v 0 1, e_0 1 (.istore 2), e_v 2 0, e_0 3 (.istore 3), e_v 4 0, e_0 5 (.istore 4), e_0 6 (.aload 0), e_v 7 0, e_a 8 (.putfield 0) 0 0 8, e_0 9 (.aload 1), e_c 10 (.invokevirtual 0) 15 1 0 [(0,0)], e_v 11 0, e_0 12 (.istore 5), e_0 13 (.iload 5), e_v 14 2000, e_j 15 (.if_icmp .gt 0) 88 [], e_0 16 (.aload 1), e_c 17 (.invokevirtual 0) 16 1 0 [(0,0)], e_0 18 (.aload 1), e_a 19 (.getfield 0) 3 0 0, e_0 20 (.istore 6), e_0 21 (.aload 0), e_0 22 (.aload 1), e_a 23 (.getfield 0) 4 0 0, e_a 24 (.putfield 0) 12 0 8, e_0 25 (.iload 6), e_v 26 14, e_j 27 (.if_icmp .ne 0) 36 [], e_0 28 (.iload 2), e_v 29 1, e_j 30 (.if_icmp .ne 0) 36 [], e_0 31 (.aload 0), e_v 32 (-1), e_a 33 (.putfield 0) 12 0 8, e_v 34 0, e_a 35 .ireturn 0 0 0, e_0 36 (.iload 2), e_0 37 (.iload 6), e_0 38 (.iload 3), e_c 39 (.invokestatic 0) 24 3 1 [(0,0)], e_0 40 (.istore 7), e_0 41 (.iload 7), e_j 42 (.ifCond .ne 0) 45 [], e_v 43 1, e_a 44 .ireturn 0 0 0, e_0 45 (.iload 4), e_0 46 (.iload 6), e_v 47 2, e_j 48 (.if_icmp .ne 0) 51 [], e_v 49 1, e_j 50 (.goto 0) 52 [], e_v 51 0, e_0 52 .iadd, e_0 53 (.istore 4), e_0 54 (.iload 3), e_0 55 (.iload 6), e_v 56 11, e_j 57 (.if_icmp .ne 0) 60 [], e_v 58 1, e_j 59 (.goto 0) 66 [], e_0 60 (.iload 6), e_v 61 12, e_j 62 (.if_icmp .ne 0) 65 [], e_v 63 (-1), e_j 64 (.goto 0) 66 [], e_v 65 0, e_0 66 .iadd, e_0 67 (.istore 3), e_0 68 (.aload 0), e_a 69 (.getfield 0) 0 0 8, e_v 70 400, e_j 71 (.if_icmp .ge 0) 78 [], e_0 72 (.iload 4), e_v 73 8, e_j 74 (.if_icmp .gt 0) 78 [], e_0 75 (.iload 3), e_v 76 8, e_j 77 (.if_icmp .le 0) 80 [], e_v 78 2, e_a 79 .ireturn 0 0 0, e_0 80 (.aload 0), e_0 81 (.aload 1), e_0 82 (.iload 2), e_c 83 (.invokevirtual 0) 27 3 0 [(0,8)], e_0 84 (.iload 7), e_0 85 (.istore 2), e_i 86 5 (1), e_j 87 (.goto 0) 13 [(0,1),(0,1),(0,1),(0,1),(0,1),(0,1),(0,0),(0,0)], e_v 88 1, e_a 89 .ireturn 0 0 0]
abbrev n_Script_parse : Nat := 14
def p_Tape_rewind : List Ent := [e_0 0 (.aload 0), e_v 1 0, e_a 2 (.putfield 0) 2 0 0, e_0 3 .return_]
abbrev n_Tape_rewind : Nat := 15
def p_Tape_scanToken : List Ent := [e_0 0 (.aload 0), e_c 1 (.invokevirtual 0) 17 1 0 [(0,0)], e_0 2 (.aload 0), e_0 3 (.aload 0), e_a 4 (.getfield 0) 2 0 0, e_a 5 (.putfield 0) 4 0 0, e_0 6 (.aload 0), e_w 7 0, e_a 8 (.putfield 0) 5 1 0, e_0 9 (.aload 0), e_a 10 (.getfield 0) 2 0 0, e_0 11 (.aload 0), e_a 12 (.getfield 0) 1 0 0, e_j 13 (.if_icmp .lt 0) 18 [], e_0 14 (.aload 0), e_v 15 14, e_a 16 (.putfield 0) 3 0 0, e_j 17 (.goto 0) 48 [], e_0 18 (.aload 0), e_0 19 (.aload 0), e_a 20 (.getfield 0) 2 0 0, e_c 21 (.invokevirtual 0) 19 2 1 [(0,0)], e_j 22 (.ifCond .eq 0) 26 [], e_0 23 (.aload 0), e_c 24 (.invokevirtual 0) 20 1 0 [(0,0)], e_j 25 (.goto 0) 48 [], e_0 26 (.aload 0), e_0 27 (.aload 0), e_a 28 (.getfield 0) 2 0 0, e_c 29 (.invokevirtual 0) 21 2 1 [(0,0)], e_j 30 (.ifCond .eq 0) 34 [], e_0 31 (.aload 0), e_c 32 (.invokevirtual 0) 22 1 0 [(0,0)], e_j 33 (.goto 0) 48 [], e_0 34 (.aload 0), e_0 35 (.aload 0), e_a 36 (.getfield 0) 0 2 0, e_0 37 (.aload 0), e_a 38 (.getfield 0) 2 0 0, e_0 39 .baload, e_c 40 (.invokestatic 0) 23 1 1 [(0,0)], e_a 41 (.putfield 0) 3 0 0, e_0 42 (.aload 0), e_0 43 .dup, e_a 44 (.getfield 0) 2 0 0, e_v 45 1, e_0 46 .iadd, e_a 47 (.putfield 0) 2 0 0, e_0 48 .return_]
abbrev n_Tape_scanToken : Nat := 16
def p_Tape_skipBlanks : List Ent := [e_0 0 (.aload 0), e_a 1 (.getfield 0) 2 0 0, e_0 2 (.aload 0), e_a 3 (.getfield 0) 1 0 0, e_j 4 (.if_icmp .ge 0) 19 [], e_0 5 (.aload 0), e_a 6 (.getfield 0) 0 2 0, e_0 7 (.aload 0), e_a 8 (.getfield 0) 2 0 0, e_0 9 .baload, e_c 10 (.invokestatic 0) 18 1 1 [(0,0)], e_j 11 (.ifCond .eq 0) 19 [], e_0 12 (.aload 0), e_0 13 .dup, e_a 14 (.getfield 0) 2 0 0, e_v 15 1, e_0 16 .iadd, e_a 17 (.putfield 0) 2 0 0, e_j 18 (.goto 0) 0 [(0,1)], e_0 19 .return_]
abbrev n_Tape_skipBlanks : Nat := 17
def p_Tape_isBlank : List Ent := [e_0 0 (.iload 0), e_v 1 9, e_j 2 (.if_icmp .eq 0) 12 [], e_0 3 (.iload 0), e_v 4 10, e_j 5 (.if_icmp .eq 0) 12 [], e_0 6 (.iload 0), e_v 7 13, e_j 8 (.if_icmp .eq 0) 12 [], e_0 9 (.iload 0), e_v 10 32, e_j 11 (.if_icmp .ne 0) 14 [], e_v 12 1, e_j 13 (.goto 0) 15 [], e_v 14 0, e_a 15 .ireturn 1 0 0]
abbrev n_Tape_isBlank : Nat := 18
def p_Tape_isLetter : List Ent := [e_0 0 (.iload 1), e_0 1 (.aload 0), e_a 2 (.getfield 0) 1 0 0, e_j 3 (.if_icmp .ge 0) 18 [], e_0 4 (.aload 0), e_a 5 (.getfield 0) 0 2 0, e_0 6 (.iload 1), e_0 7 .baload, e_v 8 97, e_j 9 (.if_icmp .lt 0) 18 [], e_0 10 (.aload 0), e_a 11 (.getfield 0) 0 2 0, e_0 12 (.iload 1), e_0 13 .baload, e_v 14 122, e_j 15 (.if_icmp .gt 0) 18 [], e_v 16 1, e_j 17 (.goto 0) 19 [], e_v 18 0, e_a 19 .ireturn 1 0 0]
abbrev n_Tape_isLetter : Nat := 19
def p_Tape_scanWord : List Ent := [e_0 0 (.aload 0), e_a 1 (.getfield 0) 2 0 0, e_0 2 (.aload 0), e_a 3 (.getfield 0) 1 0 0, e_j 4 (.if_icmp .ge 0) 34 [], e_0 5 (.aload 0), e_0 6 (.aload 0), e_a 7 (.getfield 0) 2 0 0, e_c 8 (.invokevirtual 0) 19 2 1 [(0,0)], e_j 9 (.ifCond .eq 0) 34 [], e_0 10 (.aload 0), e_0 11 (.aload 0), e_a 12 (.getfield 0) 5 1 0, e_v 13 5, e_0 14 .lshl, e_0 15 (.aload 0), e_a 16 (.getfield 0) 0 2 0, e_0 17 (.aload 0), e_a 18 (.getfield 0) 2 0 0, e_0 19 .baload, e_v 20 97, e_0 21 .isub, e_v 22 1, e_0 23 .iadd, e_0 24 .i2l, e_0 25 .ladd, e_a 26 (.putfield 0) 5 1 0, e_0 27 (.aload 0), e_0 28 .dup, e_a 29 (.getfield 0) 2 0 0, e_v 30 1, e_0 31 .iadd, e_a 32 (.putfield 0) 2 0 0, e_j 33 (.goto 0) 0 [(0,1)], e_0 34 (.aload 0), e_a 35 (.getfield 0) 2 0 0, e_0 36 (.aload 0), e_a 37 (.getfield 0) 4 0 0, e_0 38 .isub, e_v 39 8, e_j 40 (.if_icmp .le 0) 45 [], e_0 41 (.aload 0), e_v 42 13, e_a 43 (.putfield 0) 3 0 0, e_j 44 (.goto 0) 75 [], e_0 45 (.aload 0), e_a 46 (.getfield 0) 5 1 0, e_w 47 (14466855603), e_0 48 .lcmp, e_j 49 (.ifCond .ne 0) 54 [], e_0 50 (.aload 0), e_v 51 1, e_a 52 (.putfield 0) 3 0 0, e_j 53 (.goto 0) 75 [], e_0 54 (.aload 0), e_a 55 (.getfield 0) 5 1 0, e_w 56 (12468), e_0 57 .lcmp, e_j 58 (.ifCond .ne 0) 63 [], e_0 59 (.aload 0), e_v 60 2, e_a 61 (.putfield 0) 3 0 0, e_j 62 (.goto 0) 75 [], e_0 63 (.aload 0), e_a 64 (.getfield 0) 5 1 0, e_w 65 (24), e_0 66 .lcmp, e_j 67 (.ifCond .ne 0) 72 [], e_0 68 (.aload 0), e_v 69 3, e_a 70 (.putfield 0) 3 0 0, e_j 71 (.goto 0) 75 [], e_0 72 (.aload 0), e_v 73 4, e_a 74 (.putfield 0) 3 0 0, e_0 75 .return_]
abbrev n_Tape_scanWord : Nat := 20
def p_Tape_isDigit : List Ent := [e_0 0 (.iload 1), e_0 1 (.aload 0), e_a 2 (.getfield 0) 1 0 0, e_j 3 (.if_icmp .ge 0) 18 [], e_0 4 (.aload 0), e_a 5 (.getfield 0) 0 2 0, e_0 6 (.iload 1), e_0 7 .baload, e_v 8 48, e_j 9 (.if_icmp .lt 0) 18 [], e_0 10 (.aload 0), e_a 11 (.getfield 0) 0 2 0, e_0 12 (.iload 1), e_0 13 .baload, e_v 14 57, e_j 15 (.if_icmp .gt 0) 18 [], e_v 16 1, e_j 17 (.goto 0) 19 [], e_v 18 0, e_a 19 .ireturn 1 0 0]
abbrev n_Tape_isDigit : Nat := 21
def p_Tape_scanRow : List Ent := [e_0 0 (.aload 0), e_a 1 (.getfield 0) 2 0 0, e_0 2 (.aload 0), e_a 3 (.getfield 0) 1 0 0, e_j 4 (.if_icmp .ge 0) 32 [], e_0 5 (.aload 0), e_0 6 (.aload 0), e_a 7 (.getfield 0) 2 0 0, e_c 8 (.invokevirtual 0) 21 2 1 [(0,0)], e_j 9 (.ifCond .eq 0) 32 [], e_0 10 (.aload 0), e_0 11 (.aload 0), e_a 12 (.getfield 0) 5 1 0, e_w 13 (10), e_0 14 .lmul, e_0 15 (.aload 0), e_a 16 (.getfield 0) 0 2 0, e_0 17 (.aload 0), e_a 18 (.getfield 0) 2 0 0, e_0 19 .baload, e_v 20 48, e_0 21 .isub, e_0 22 .i2l, e_0 23 .ladd, e_a 24 (.putfield 0) 5 1 0, e_0 25 (.aload 0), e_0 26 .dup, e_a 27 (.getfield 0) 2 0 0, e_v 28 1, e_0 29 .iadd, e_a 30 (.putfield 0) 2 0 0, e_j 31 (.goto 0) 0 [(0,1)], e_0 32 (.aload 0), e_0 33 (.aload 0), e_a 34 (.getfield 0) 2 0 0, e_0 35 (.aload 0), e_a 36 (.getfield 0) 4 0 0, e_0 37 .isub, e_v 38 13, e_j 39 (.if_icmp .le 0) 42 [], e_v 40 13, e_j 41 (.goto 0) 43 [], e_v 42 5, e_a 43 (.putfield 0) 3 0 0, e_0 44 .return_]
abbrev n_Tape_scanRow : Nat := 22
def p_Tape_signKind : List Ent := [e_0 0 (.iload 0), e_j 1 (.lookupswitch 0 #[]) 16 [(40,12),(41,14),(42,6),(43,4),(47,8),(59,2),(94,10)], e_v 2 6, e_a 3 .ireturn 0 0 0, e_v 4 7, e_a 5 .ireturn 0 0 0, e_v 6 8, e_a 7 .ireturn 0 0 0, e_v 8 9, e_a 9 .ireturn 0 0 0, e_v 10 10, e_a 11 .ireturn 0 0 0, e_v 12 11, e_a 13 .ireturn 0 0 0, e_v 14 12, e_a 15 .ireturn 0 0 0, e_v 16 13, e_a 17 .ireturn 0 0 0]
abbrev n_Tape_signKind : Nat := 23
def p_Gram_after : List Ent := [e_0 0 (.iload 0), e_j 1 (.lookupswitch 0 #[]) 81 [(1,2),(2,14),(3,21),(4,28),(5,35),(6,42),(7,49),(8,61),(9,70),(10,77)], e_0 2 (.iload 1), e_v 3 1, e_j 4 (.if_icmp .ne 0) 7 [], e_v 5 2, e_j 6 (.goto 0) 13 [], e_0 7 (.iload 1), e_v 8 2, e_j 9 (.if_icmp .ne 0) 12 [], e_v 10 5, e_j 11 (.goto 0) 13 [], e_v 12 0, e_a 13 .ireturn 0 0 0, e_0 14 (.iload 1), e_v 15 5, e_j 16 (.if_icmp .ne 0) 19 [], e_v 17 3, e_j 18 (.goto 0) 20 [], e_v 19 0, e_a 20 .ireturn 0 0 0, e_0 21 (.iload 1), e_v 22 5, e_j 23 (.if_icmp .ne 0) 26 [], e_v 24 4, e_j 25 (.goto 0) 27 [], e_v 26 0, e_a 27 .ireturn 0 0 0, e_0 28 (.iload 1), e_v 29 6, e_j 30 (.if_icmp .ne 0) 33 [], e_v 31 1, e_j 32 (.goto 0) 34 [], e_v 33 0, e_a 34 .ireturn 0 0 0, e_0 35 (.iload 1), e_v 36 4, e_j 37 (.if_icmp .ne 0) 40 [], e_v 38 6, e_j 39 (.goto 0) 41 [], e_v 40 0, e_a 41 .ireturn 0 0 0, e_0 42 (.iload 1), e_v 43 5, e_j 44 (.if_icmp .ne 0) 47 [], e_v 45 7, e_j 46 (.goto 0) 48 [], e_v 47 0, e_a 48 .ireturn 0 0 0, e_0 49 (.iload 1), e_v 50 11, e_j 51 (.if_icmp .ne 0) 54 [], e_v 52 7, e_j 53 (.goto 0) 60 [], e_0 54 (.iload 1), e_c 55 (.invokestatic 0) 25 1 1 [(0,0)], e_j 56 (.ifCond .eq 0) 59 [], e_v 57 8, e_j 58 (.goto 0) 60 [], e_v 59 0, e_a 60 .ireturn 0 0 0, e_0 61 (.iload 1), e_v 62 10, e_j 63 (.if_icmp .ne 0) 66 [], e_v 64 9, e_j 65 (.goto 0) 69 [], e_0 66 (.iload 1), e_0 67 (.iload 2), e_c 68 (.invokestatic 0) 26 2 1 [(0,0)], e_a 69 .ireturn 0 0 0, e_0 70 (.iload 1), e_v 71 5, e_j 72 (.if_icmp .ne 0) 75 [], e_v 73 10, e_j 74 (.goto 0) 76 [], e_v 75 0, e_a 76 .ireturn 0 0 0, e_0 77 (.iload 1), e_0 78 (.iload 2), e_c 79 (.invokestatic 0) 26 2 1 [(0,0)], e_a 80 .ireturn 0 0 0, e_v 81 0, e_a 82 .ireturn 0 0 0]
abbrev n_Gram_after : Nat := 24
def p_Gram_isPlainAtom : List Ent := [e_0 0 (.iload 0), e_v 1 3, e_j 2 (.if_icmp .eq 0) 9 [], e_0 3 (.iload 0), e_v 4 5, e_j 5 (.if_icmp .eq 0) 9 [], e_0 6 (.iload 0), e_v 7 4, e_j 8 (.if_icmp .ne 0) 11 [], e_v 9 1, e_j 10 (.goto 0) 12 [], e_v 11 0, e_a 12 .ireturn 1 0 0]
abbrev n_Gram_isPlainAtom : Nat := 25
def p_Gram_afterPower : List Ent := [e_0 0 (.iload 0), e_j 1 (.lookupswitch 0 #[]) 16 [(6,10),(7,2),(8,2),(9,2),(10,16),(11,16),(12,4)], e_v 2 7, e_a 3 .ireturn 0 0 0, e_0 4 (.iload 1), e_j 5 (.ifCond .le 0) 8 [], e_v 6 8, e_j 7 (.goto 0) 9 [], e_v 8 0, e_a 9 .ireturn 0 0 0, e_0 10 (.iload 1), e_j 11 (.ifCond .ne 0) 14 [], e_v 12 1, e_j 13 (.goto 0) 15 [], e_v 14 0, e_a 15 .ireturn 0 0 0, e_v 16 0, e_a 17 .ireturn 0 0 0]
abbrev n_Gram_afterPower : Nat := 26
def p_Script_keep : List Ent := [e_0 0 (.aload 0), e_a 1 (.getfield 0) 1 2 8, e_0 2 (.aload 0), e_a 3 (.getfield 0) 0 0 8, e_0 4 (.aload 1), e_a 5 (.getfield 0) 3 0 0, e_0 6 .iastore, e_0 7 (.aload 0), e_a 8 (.getfield 0) 2 2 8, e_0 9 (.aload 0), e_a 10 (.getfield 0) 0 0 8, e_0 11 (.iload 2), e_0 12 .iastore, e_0 13 (.aload 0), e_a 14 (.getfield 0) 3 2 8, e_0 15 (.aload 0), e_a 16 (.getfield 0) 0 0 8, e_0 17 (.aload 1), e_a 18 (.getfield 0) 4 0 0, e_0 19 .iastore, e_0 20 (.aload 0), e_a 21 (.getfield 0) 4 2 8, e_0 22 (.aload 0), e_a 23 (.getfield 0) 0 0 8, e_0 24 (.aload 1), e_a 25 (.getfield 0) 5 1 0, e_0 26 .lastore, e_0 27 (.aload 0), e_0 28 .dup, e_a 29 (.getfield 0) 0 0 8, e_v 30 1, e_0 31 .iadd, e_a 32 (.putfield 0) 0 0 8, e_0 33 .return_]
abbrev n_Script_keep : Nat := 27
def p_Script_check : List Ent := [e_0 0 (.aload 0), e_v 1 0, e_a 2 (.putfield 0) 6 0 8, e_0 3 (.aload 0), e_v 4 0, e_a 5 (.putfield 0) 11 0 8, e_a 6 (.getstatic 0) 2 0 0, e_v 7 0, e_0 8 (.aload 0), e_a 9 (.getfield 0) 5 2 8, e_v 10 0, e_v 11 13, e_a 12 (.invokestatic 0) 0 5 8, e_v 13 0, e_0 14 (.istore 1), e_0 15 (.iload 1), e_0 16 (.aload 0), e_a 17 (.getfield 0) 0 0 8, e_j 18 (.if_icmp .ge 0) 35 [], e_0 19 (.aload 0), e_0 20 (.iload 1), e_c 21 (.invokevirtual 0) 29 2 1 [(0,8)], e_0 22 (.istore 2), e_0 23 (.iload 2), e_j 24 (.ifCond .eq 0) 33 [], e_0 25 (.aload 0), e_0 26 (.aload 0), e_a 27 (.getfield 0) 3 2 8, e_0 28 (.iload 1), e_0 29 .iaload, e_a 30 (.putfield 0) 12 0 8, e_0 31 (.iload 2), e_a 32 .ireturn 0 0 0, e_i 33 1 (1), e_j 34 (.goto 0) 15 [(0,1),(0,1),(0,0)], e_v 35 0, e_a 36 .ireturn 0 0 0]
abbrev n_Script_check : Nat := 28
def p_Script_checkToken : List Ent := [e_0 0 (.aload 0), e_a 1 (.getfield 0) 2 2 8, e_0 2 (.iload 1), e_0 3 .iaload, e_j 4 (.lookupswitch 0 #[]) 48 [(2,5),(3,9),(4,48),(5,13),(6,5),(7,17),(8,32),(9,21),(10,32)], e_0 5 (.aload 0), e_0 6 (.iload 1), e_c 7 (.invokevirtual 0) 30 2 1 [(0,8)], e_a 8 .ireturn 0 0 0, e_0 9 (.aload 0), e_0 10 (.iload 1), e_c 11 (.invokevirtual 0) 31 2 1 [(0,8)], e_a 12 .ireturn 0 0 0, e_0 13 (.aload 0), e_0 14 (.iload 1), e_c 15 (.invokevirtual 0) 38 2 1 [(0,8)], e_a 16 .ireturn 0 0 0, e_0 17 (.aload 0), e_0 18 (.iload 1), e_c 19 (.invokevirtual 0) 40 2 1 [(0,8)], e_a 20 .ireturn 0 0 0, e_0 21 (.aload 0), e_a 22 (.getfield 0) 4 2 8, e_0 23 (.iload 1), e_0 24 .laload, e_w 25 (9999), e_0 26 .lcmp, e_j 27 (.ifCond .le 0) 30 [], e_v 28 5, e_j 29 (.goto 0) 31 [], e_v 30 0, e_a 31 .ireturn 0 0 0, e_0 32 (.aload 0), e_0 33 .dup, e_a 34 (.getfield 0) 6 0 8, e_0 35 (.aload 0), e_a 36 (.getfield 0) 1 2 8, e_0 37 (.iload 1), e_0 38 .iaload, e_v 39 6, e_j 40 (.if_icmp .ne 0) 43 [], e_v 41 1, e_j 42 (.goto 0) 44 [], e_v 43 0, e_0 44 .iadd, e_a 45 (.putfield 0) 6 0 8, e_v 46 0, e_a 47 .ireturn 0 0 0, e_v 48 0, e_a 49 .ireturn 0 0 0]
abbrev n_Script_checkToken : Nat := 29
def p_Script_checkField : List Ent := [e_0 0 (.aload 0), e_a 1 (.getfield 0) 4 2 8, e_0 2 (.iload 1), e_0 3 .laload, e_w 4 1, e_0 5 .lcmp, e_j 6 (.ifCond .lt 0) 14 [], e_0 7 (.aload 0), e_a 8 (.getfield 0) 4 2 8, e_0 9 (.iload 1), e_0 10 .laload, e_w 11 (12), e_0 12 .lcmp, e_j 13 (.ifCond .le 0) 16 [], e_v 14 5, e_a 15 .ireturn 0 0 0, e_0 16 (.aload 0), e_0 17 (.aload 0), e_a 18 (.getfield 0) 4 2 8, e_0 19 (.iload 1), e_0 20 .laload, e_0 21 .l2i, e_a 22 (.putfield 0) 11 0 8, e_0 23 (.aload 0), e_a 24 (.getfield 0) 2 2 8, e_0 25 (.iload 1), e_0 26 .iaload, e_v 27 6, e_j 28 (.if_icmp .ne 0) 54 [], e_0 29 (.aload 0), e_a 30 (.getfield 0) 6 0 8, e_v 31 8, e_j 32 (.if_icmp .ge 0) 54 [], e_0 33 (.aload 0), e_a 34 (.getfield 0) 8 2 8, e_0 35 (.aload 0), e_a 36 (.getfield 0) 6 0 8, e_0 37 (.aload 0), e_a 38 (.getfield 0) 11 0 8, e_0 39 .iastore, e_0 40 (.aload 0), e_a 41 (.getfield 0) 9 2 8, e_0 42 (.aload 0), e_a 43 (.getfield 0) 6 0 8, e_0 44 (.iload 1), e_v 45 1, e_0 46 .iadd, e_0 47 .iastore, e_0 48 (.aload 0), e_a 49 (.getfield 0) 10 2 8, e_0 50 (.aload 0), e_a 51 (.getfield 0) 6 0 8, e_v 52 0, e_0 53 .bastore, e_v 54 0, e_a 55 .ireturn 0 0 0]
abbrev n_Script_checkField : Nat := 30
def p_Script_checkModulus : List Ent := [e_0 0 (.aload 0), e_a 1 (.getfield 0) 4 2 8, e_0 2 (.iload 1), e_0 3 .laload, e_c 4 (.invokestatic 0) 32 1 1 [(0,0)], e_0 5 (.istore 2), e_0 6 (.aload 0), e_a 7 (.getfield 0) 11 0 8, e_c 8 (.invokestatic 0) 33 1 1 [(0,0)], e_j 9 (.ifCond .eq 0) 18 [], e_0 10 (.iload 2), e_v 11 (-1), e_j 12 (.if_icmp .eq 0) 18 [], e_0 13 (.iload 2), e_0 14 (.aload 0), e_a 15 (.getfield 0) 11 0 8, e_c 16 (.invokestatic 0) 34 2 1 [(0,0)], e_j 17 (.ifCond .ne 0) 20 [], e_v 18 5, e_a 19 .ireturn 0 0 0, e_0 20 (.aload 0), e_a 21 (.getfield 0) 5 2 8, e_0 22 (.aload 0), e_a 23 (.getfield 0) 11 0 8, e_0 24 (.iload 2), e_0 25 .iastore, e_v 26 0, e_a 27 .ireturn 0 0 0]
abbrev n_Script_checkModulus : Nat := 31
def p_Script_bitsOf : List Ent := [e_v 0 0, e_0 1 (.istore 2), e_0 2 (.lload 0), e_0 3 (.lstore 3), e_v 4 0, e_0 5 (.istore 5), e_0 6 (.iload 5), e_v 7 13, e_j 8 (.if_icmp .ge 0) 31 [], e_0 9 (.lload 3), e_w 10 (10), e_0 11 .lrem, e_0 12 .l2i, e_0 13 (.istore 6), e_0 14 (.iload 6), e_v 15 1, e_j 16 (.if_icmp .le 0) 19 [], e_v 17 (-1), e_a 18 .ireturn 0 0 0, e_0 19 (.iload 2), e_0 20 (.iload 6), e_0 21 (.iload 5), e_0 22 .ishl, e_0 23 .ior, e_0 24 (.istore 2), e_0 25 (.lload 3), e_w 26 (10), e_0 27 .ldiv, e_0 28 (.lstore 3), e_i 29 5 (1), e_j 30 (.goto 0) 6 [(0,0),(0,0),(0,1),(0,1),(0,0),(0,1),(0,0)], e_0 31 (.iload 2), e_a 32 .ireturn 0 0 0]
abbrev n_Script_bitsOf : Nat := 32
def p_FT_isField : List Ent := [e_0 0 (.iload 0), e_v 1 1, e_j 2 (.if_icmp .lt 0) 8 [], e_0 3 (.iload 0), e_v 4 12, e_j 5 (.if_icmp .gt 0) 8 [], e_v 6 1, e_j 7 (.goto 0) 9 [], e_v 8 0, e_a 9 .ireturn 1 0 0]
abbrev n_FT_isField : Nat := 33
def p_Poly_isModulus : List Ent := [e_0 0 (.iload 0), e_v 1 1, e_0 2 (.iload 1), e_0 3 .ishl, e_j 4 (.if_icmp .lt 0) 15 [], e_0 5 (.iload 0), e_v 6 2, e_0 7 (.iload 1), e_0 8 .ishl, e_j 9 (.if_icmp .ge 0) 15 [], e_0 10 (.iload 0), e_c 11 (.invokestatic 0) 35 1 1 [(0,0)], e_j 12 (.ifCond .eq 0) 15 [], e_v 13 1, e_j 14 (.goto 0) 16 [], e_v 15 0, e_a 16 .ireturn 1 0 0]
abbrev n_Poly_isModulus : Nat := 34
def p_Poly_isWhole : List Ent := [e_v 0 1, e_0 1 (.iload 0), e_c 2 (.invokestatic 0) 36 1 1 [(0,0)], e_v 3 2, e_0 4 .idiv, e_v 5 1, e_0 6 .iadd, e_0 7 .ishl, e_0 8 (.istore 1), e_v 9 2, e_0 10 (.istore 2), e_0 11 (.iload 2), e_0 12 (.iload 1), e_j 13 (.if_icmp .ge 0) 22 [], e_0 14 (.iload 0), e_0 15 (.iload 2), e_c 16 (.invokestatic 0) 37 2 1 [(0,0)], e_j 17 (.ifCond .ne 0) 20 [], e_v 18 0, e_a 19 .ireturn 1 0 0, e_i 20 2 (1), e_j 21 (.goto 0) 11 [(0,1),(0,1),(0,1)], e_v 22 1, e_a 23 .ireturn 1 0 0]
abbrev n_Poly_isWhole : Nat := 35
def p_Poly_degreeOf : List Ent := [e_v 0 12, e_0 1 (.istore 1), e_0 2 (.iload 1), e_j 3 (.ifCond .lt 0) 14 [], e_0 4 (.iload 0), e_0 5 (.iload 1), e_0 6 .ishr, e_v 7 1, e_0 8 .iand, e_j 9 (.ifCond .eq 0) 12 [], e_0 10 (.iload 1), e_a 11 .ireturn 0 0 0, e_i 12 1 (-1), e_j 13 (.goto 0) 2 [(0,1),(0,1)], e_v 14 (-1), e_a 15 .ireturn 0 0 0]
abbrev n_Poly_degreeOf : Nat := 36
def p_Poly_remainder : List Ent := [e_0 0 (.iload 1), e_c 1 (.invokestatic 0) 36 1 1 [(0,0)], e_0 2 (.istore 2), e_0 3 (.iload 0), e_0 4 (.istore 3), e_v 5 12, e_0 6 (.istore 4), e_0 7 (.iload 4), e_0 8 (.iload 2), e_j 9 (.if_icmp .lt 0) 28 [], e_0 10 (.iload 2), e_j 11 (.ifCond .lt 0) 28 [], e_0 12 (.iload 3), e_0 13 (.iload 4), e_0 14 .ishr, e_v 15 1, e_0 16 .iand, e_j 17 (.ifCond .eq 0) 26 [], e_0 18 (.iload 3), e_0 19 (.iload 1), e_0 20 (.iload 4), e_0 21 (.iload 2), e_0 22 .isub, e_0 23 .ishl, e_0 24 .ixor, e_0 25 (.istore 3), e_i 26 4 (-1), e_j 27 (.goto 0) 7 [(0,0),(0,1),(0,1),(0,1),(0,1)], e_0 28 (.iload 3), e_a 29 .ireturn 0 0 0]
abbrev n_Poly_remainder : Nat := 37
def p_Script_checkNewName : List Ent := [e_0 0 (.aload 0), e_0 1 (.aload 0), e_a 2 (.getfield 0) 4 2 8, e_0 3 (.iload 1), e_0 4 .laload, e_c 5 (.invokevirtual 0) 39 2 1 [(0,8)], e_v 6 (-1), e_j 7 (.if_icmp .eq 0) 10 [], e_v 8 3, e_a 9 .ireturn 0 0 0, e_0 10 (.aload 0), e_a 11 (.getfield 0) 6 0 8, e_v 12 8, e_j 13 (.if_icmp .ge 0) 23 [], e_0 14 (.aload 0), e_a 15 (.getfield 0) 7 2 8, e_0 16 (.aload 0), e_a 17 (.getfield 0) 6 0 8, e_0 18 (.aload 0), e_a 19 (.getfield 0) 4 2 8, e_0 20 (.iload 1), e_0 21 .laload, e_0 22 .lastore, e_v 23 0, e_a 24 .ireturn 0 0 0]
abbrev n_Script_checkNewName : Nat := 38
def p_Script_indexOf : List Ent := [e_v 0 0, e_0 1 (.istore 3), e_0 2 (.iload 3), e_0 3 (.aload 0), e_a 4 (.getfield 0) 6 0 8, e_j 5 (.if_icmp .ge 0) 20 [], e_0 6 (.iload 3), e_v 7 8, e_j 8 (.if_icmp .ge 0) 20 [], e_0 9 (.aload 0), e_a 10 (.getfield 0) 7 2 8, e_0 11 (.iload 3), e_0 12 .laload, e_0 13 (.lload 1), e_0 14 .lcmp, e_j 15 (.ifCond .ne 0) 18 [], e_0 16 (.iload 3), e_a 17 .ireturn 0 0 0, e_i 18 3 (1), e_j 19 (.goto 0) 2 [(0,1),(0,1),(0,0),(0,1)], e_v 20 (-1), e_a 21 .ireturn 0 0 0]
abbrev n_Script_indexOf : Nat := 39
def p_Script_checkAtom : List Ent := [e_0 0 (.aload 0), e_a 1 (.getfield 0) 1 2 8, e_0 2 (.iload 1), e_0 3 .iaload, e_v 4 5, e_j 5 (.if_icmp .ne 0) 27 [], e_0 6 (.aload 0), e_a 7 (.getfield 0) 4 2 8, e_0 8 (.iload 1), e_0 9 (.aload 0), e_a 10 (.getfield 0) 4 2 8, e_0 11 (.iload 1), e_0 12 .laload, e_c 13 (.invokestatic 0) 32 1 1 [(0,0)], e_0 14 .i2l, e_0 15 .lastore, e_0 16 (.aload 0), e_a 17 (.getfield 0) 4 2 8, e_0 18 (.iload 1), e_0 19 .laload, e_w 20 (-1), e_0 21 .lcmp, e_j 22 (.ifCond .ne 0) 25 [], e_v 23 5, e_j 24 (.goto 0) 26 [], e_v 25 0, e_a 26 .ireturn 0 0 0, e_0 27 (.aload 0), e_a 28 (.getfield 0) 1 2 8, e_0 29 (.iload 1), e_0 30 .iaload, e_v 31 4, e_j 32 (.if_icmp .eq 0) 35 [], e_v 33 0, e_a 34 .ireturn 0 0 0, e_0 35 (.aload 0), e_0 36 (.aload 0), e_a 37 (.getfield 0) 4 2 8, e_0 38 (.iload 1), e_0 39 .laload, e_c 40 (.invokevirtual 0) 39 2 1 [(0,8)], e_0 41 (.istore 2), e_0 42 (.iload 2), e_v 43 (-1), e_j 44 (.if_icmp .ne 0) 47 [], e_v 45 4, e_a 46 .ireturn 0 0 0, e_0 47 (.aload 0), e_a 48 (.getfield 0) 8 2 8, e_0 49 (.iload 2), e_0 50 .iaload, e_0 51 (.aload 0), e_a 52 (.getfield 0) 11 0 8, e_c 53 (.invokestatic 0) 41 2 1 [(0,0)], e_j 54 (.ifCond .ne 0) 57 [], e_v 55 6, e_a 56 .ireturn 0 0 0, e_0 57 (.aload 0), e_a 58 (.getfield 0) 8 2 8, e_0 59 (.iload 2), e_0 60 .iaload, e_0 61 (.aload 0), e_a 62 (.getfield 0) 11 0 8, e_j 63 (.if_icmp .eq 0) 74 [], e_0 64 (.aload 0), e_a 65 (.getfield 0) 6 0 8, e_v 66 8, e_j 67 (.if_icmp .ge 0) 74 [], e_0 68 (.aload 0), e_a 69 (.getfield 0) 10 2 8, e_0 70 (.aload 0), e_a 71 (.getfield 0) 6 0 8, e_v 72 1, e_0 73 .bastore, e_0 74 (.aload 0), e_a 75 (.getfield 0) 4 2 8, e_0 76 (.iload 1), e_0 77 (.iload 2), e_0 78 .i2l, e_0 79 .lastore, e_v 80 0, e_a 81 .ireturn 0 0 0]
abbrev n_Script_checkAtom : Nat := 40
def p_FT_divides : List Ent := [e_0 0 (.iload 0), e_j 1 (.ifCond .le 0) 8 [], e_0 2 (.iload 1), e_0 3 (.iload 0), e_0 4 .irem, e_j 5 (.ifCond .ne 0) 8 [], e_v 6 1, e_j 7 (.goto 0) 9 [], e_v 8 0, e_a 9 .ireturn 1 0 0]
abbrev n_FT_divides : Nat := 41
def p_Tower_copyModuli : List Ent := [e_v 0 1, e_0 1 (.istore 2), e_0 2 (.iload 2), e_v 3 12, e_j 4 (.if_icmp .gt 0) 19 [], e_0 5 (.iload 2), e_0 6 (.aload 1), e_0 7 .arraylength, e_j 8 (.if_icmp .ge 0) 19 [], e_0 9 (.aload 1), e_0 10 (.iload 2), e_0 11 (.aload 0), e_a 12 (.getfield 0) 0 2 5, e_0 13 (.iload 2), e_0 14 .aaload, e_a 15 (.getfield 0) 2 0 2, e_0 16 .iastore, e_i 17 2 (1), e_j 18 (.goto 0) 2 [(0,1),(0,1),(0,1)], e_0 19 .return_]
abbrev n_Tower_copyModuli : Nat := 42
def p_Tower_takeModuli : List Ent := [e_v 0 1, e_0 1 (.istore 2), e_0 2 (.iload 2), e_v 3 12, e_j 4 (.if_icmp .gt 0) 26 [], e_0 5 (.iload 2), e_0 6 (.aload 1), e_0 7 .arraylength, e_j 8 (.if_icmp .ge 0) 26 [], e_0 9 (.aload 0), e_a 10 (.getfield 0) 0 2 5, e_0 11 (.iload 2), e_0 12 .aaload, e_a 13 (.getfield 0) 2 0 2, e_0 14 (.aload 1), e_0 15 (.iload 2), e_0 16 .iaload, e_j 17 (.if_icmp .eq 0) 24 [], e_0 18 (.aload 0), e_0 19 (.iload 2), e_0 20 (.aload 1), e_0 21 (.iload 2), e_0 22 .iaload, e_c 23 (.invokevirtual 0) 44 3 0 [(0,5)], e_i 24 2 (1), e_j 25 (.goto 0) 2 [(0,1),(0,1),(0,1)], e_0 26 .return_]
abbrev n_Tower_takeModuli : Nat := 43
def p_Tower_setModulus : List Ent := [e_0 0 (.iload 1), e_c 1 (.invokestatic 0) 33 1 1 [(0,0)], e_j 2 (.ifCond .ne 0) 4 [], e_0 3 .return_, e_0 4 (.aload 0), e_a 5 (.getfield 0) 0 2 5, e_0 6 (.iload 1), e_0 7 .aaload, e_0 8 (.iload 2), e_a 9 (.putfield 0) 2 0 2, e_0 10 (.aload 0), e_a 11 (.getfield 0) 1 2 5, e_0 12 (.iload 1), e_0 13 .aaload, e_c 14 (.invokevirtual 0) 45 1 0 [(0,3)], e_0 15 (.aload 0), e_a 16 (.getfield 0) 2 2 5, e_0 17 (.iload 1), e_0 18 .aaload, e_c 19 (.invokevirtual 0) 46 1 0 [(0,4)], e_0 20 (.iload 1), e_0 21 (.istore 3), e_0 22 (.iload 3), e_v 23 12, e_j 24 (.if_icmp .gt 0) 35 [], e_0 25 (.aload 0), e_a 26 (.getfield 0) 5 2 5, e_0 27 (.iload 3), e_v 28 0, e_0 29 .bastore, e_0 30 (.iload 3), e_0 31 (.iload 1), e_0 32 .iadd, e_0 33 (.istore 3), e_j 34 (.goto 0) 22 [(0,1),(0,1),(0,0),(0,1)], e_0 35 .return_]
abbrev n_Tower_setModulus : Nat := 44
def p_Cycle_forget : List Ent := [e_0 0 (.aload 0), e_v 1 0, e_a 2 (.putfield 0) 2 0 3, e_0 3 (.aload 0), e_v 4 0, e_a 5 (.putfield 0) 3 3 3, e_0 6 .return_]
abbrev n_Cycle_forget : Nat := 45
def p_Space_forget : List Ent := [e_0 0 (.aload 0), e_v 1 0, e_a 2 (.putfield 0) 2 0 4, e_0 3 (.aload 0), e_v 4 0, e_a 5 (.putfield 0) 3 0 4, e_0 6 .return_]
abbrev n_Space_forget : Nat := 46
def p_Worker_workOut : List Ent := [e_0 0 (.aload 0), e_v 1 (-1), e_a 2 (.putfield 0) 1 0 6, e_v 3 0, e_0 4 (.istore 3), e_0 5 (.iload 3), e_0 6 (.aload 1), e_a 7 (.getfield 0) 6 0 8, e_j 8 (.if_icmp .ge 0) 33 [], e_0 9 (.iload 3), e_v 10 8, e_j 11 (.if_icmp .ge 0) 33 [], e_0 12 (.aload 1), e_a 13 (.getfield 0) 10 2 8, e_0 14 (.iload 3), e_0 15 .baload, e_j 16 (.ifCond .eq 0) 23 [], e_0 17 (.aload 2), e_0 18 (.aload 1), e_a 19 (.getfield 0) 8 2 8, e_0 20 (.iload 3), e_0 21 .iaload, e_c 22 (.invokevirtual 0) 48 2 0 [(0,5)], e_0 23 (.aload 0), e_0 24 (.aload 1), e_0 25 (.aload 2), e_0 26 (.iload 3), e_c 27 (.invokevirtual 0) 60 4 1 [(0,6)], e_j 28 (.ifCond .ne 0) 31 [], e_v 29 0, e_a 30 .ireturn 1 0 0, e_i 31 3 (1), e_j 32 (.goto 0) 5 [(0,1),(0,1),(0,1),(0,1)], e_v 33 1, e_a 34 .ireturn 1 0 0]
abbrev n_Worker_workOut : Nat := 47
def p_Tower_prepare : List Ent := [e_v 0 1, e_0 1 (.istore 2), e_0 2 (.iload 2), e_0 3 (.iload 1), e_j 4 (.if_icmp .gt 0) 22 [], e_0 5 (.iload 2), e_v 6 12, e_j 7 (.if_icmp .gt 0) 22 [], e_0 8 (.iload 2), e_0 9 (.iload 1), e_c 10 (.invokestatic 0) 41 2 1 [(0,0)], e_j 11 (.ifCond .eq 0) 20 [], e_0 12 (.aload 0), e_a 13 (.getfield 0) 5 2 5, e_0 14 (.iload 2), e_0 15 .baload, e_j 16 (.ifCond .ne 0) 20 [], e_0 17 (.aload 0), e_0 18 (.iload 2), e_c 19 (.invokevirtual 0) 49 2 0 [(0,5)], e_i 20 2 (1), e_j 21 (.goto 0) 2 [(0,1),(0,1),(0,1)], e_0 22 .return_]
abbrev n_Tower_prepare : Nat := 48
def p_Tower_settle : List Ent := [e_0 0 (.aload 0), e_a 1 (.getfield 0) 4 2 5, e_0 2 (.iload 1), e_0 3 .aaload, e_0 4 (.iload 1), e_0 5 (.aload 0), e_a 6 (.getfield 0) 0 2 5, e_0 7 (.iload 1), e_0 8 .aaload, e_c 9 (.invokevirtual 0) 50 1 1 [(0,2)], e_0 10 .iastore, e_0 11 (.iload 1), e_v 12 1, e_0 13 .isub, e_0 14 (.istore 2), e_0 15 (.iload 2), e_v 16 1, e_j 17 (.if_icmp .lt 0) 88 [], e_0 18 (.iload 2), e_0 19 (.iload 1), e_c 20 (.invokestatic 0) 41 2 1 [(0,0)], e_j 21 (.ifCond .ne 0) 23 [], e_j 22 (.goto 0) 86 [], e_0 23 (.iload 2), e_0 24 (.iload 1), e_c 25 (.invokestatic 0) 51 2 1 [(0,0)], e_0 26 (.istore 3), e_0 27 (.iload 3), e_v 28 (-1), e_j 29 (.if_icmp .eq 0) 54 [], e_0 30 (.aload 0), e_a 31 (.getfield 0) 4 2 5, e_0 32 (.iload 1), e_0 33 .aaload, e_0 34 (.iload 2), e_0 35 (.aload 0), e_a 36 (.getfield 0) 0 2 5, e_0 37 (.iload 1), e_0 38 .aaload, e_0 39 (.aload 0), e_a 40 (.getfield 0) 4 2 5, e_0 41 (.iload 3), e_0 42 .aaload, e_0 43 (.iload 2), e_0 44 .iaload, e_0 45 (.aload 0), e_a 46 (.getfield 0) 4 2 5, e_0 47 (.iload 1), e_0 48 .aaload, e_0 49 (.iload 3), e_0 50 .iaload, e_c 51 (.invokevirtual 0) 52 3 1 [(0,2)], e_0 52 .iastore, e_j 53 (.goto 0) 86 [], e_0 54 (.iload 2), e_v 55 1, e_j 56 (.if_icmp .ne 0) 71 [], e_0 57 (.aload 0), e_a 58 (.getfield 0) 4 2 5, e_0 59 (.iload 1), e_0 60 .aaload, e_v 61 1, e_0 62 (.aload 0), e_a 63 (.getfield 0) 0 2 5, e_v 64 1, e_0 65 .aaload, e_a 66 (.getfield 0) 2 0 2, e_v 67 1, e_0 68 .iand, e_0 69 .iastore, e_j 70 (.goto 0) 86 [], e_0 71 (.aload 0), e_a 72 (.getfield 0) 4 2 5, e_0 73 (.iload 1), e_0 74 .aaload, e_0 75 (.iload 2), e_0 76 (.aload 0), e_0 77 (.iload 2), e_0 78 (.iload 1), e_0 79 (.aload 0), e_a 80 (.getfield 0) 1 2 5, e_0 81 (.iload 1), e_0 82 .aaload, e_c 83 (.invokevirtual 0) 54 1 1 [(0,3)], e_c 84 (.invokevirtual 0) 57 4 1 [(0,5)], e_0 85 .iastore, e_i 86 2 (-1), e_j 87 (.goto 0) 15 [(0,1),(0,1),(0,1),(0,0)], e_0 88 (.aload 0), e_a 89 (.getfield 0) 5 2 5, e_0 90 (.iload 1), e_v 91 1, e_0 92 .bastore, e_0 93 .return_]
abbrev n_Tower_settle : Nat := 49
def p_Field_x : List Ent := [e_v 0 2, e_0 1 (.aload 0), e_a 2 (.getfield 0) 2 0 2, e_c 3 (.invokestatic 0) 37 2 1 [(0,0)], e_a 4 .ireturn 0 0 0]
abbrev n_Field_x : Nat := 50
def p_Tower_greatestBetween : List Ent := [e_0 0 (.iload 1), e_v 1 1, e_0 2 .isub, e_0 3 (.istore 2), e_0 4 (.iload 2), e_0 5 (.iload 0), e_j 6 (.if_icmp .le 0) 19 [], e_0 7 (.iload 2), e_0 8 (.iload 1), e_c 9 (.invokestatic 0) 41 2 1 [(0,0)], e_j 10 (.ifCond .eq 0) 17 [], e_0 11 (.iload 0), e_0 12 (.iload 2), e_c 13 (.invokestatic 0) 41 2 1 [(0,0)], e_j 14 (.ifCond .eq 0) 17 [], e_0 15 (.iload 2), e_a 16 .ireturn 0 0 0, e_i 17 2 (-1), e_j 18 (.goto 0) 4 [(0,1),(0,1),(0,1)], e_v 19 (-1), e_a 20 .ireturn 0 0 0]
abbrev n_Tower_greatestBetween : Nat := 51
def p_Field_valueAt : List Ent := [e_v 0 0, e_0 1 (.istore 3), e_v 2 12, e_0 3 (.istore 4), e_0 4 (.iload 4), e_j 5 (.ifCond .lt 0) 23 [], e_0 6 (.iload 1), e_0 7 (.iload 4), e_0 8 .ishr, e_j 9 (.ifCond .eq 0) 21 [], e_0 10 (.aload 0), e_0 11 (.iload 3), e_0 12 (.iload 2), e_c 13 (.invokevirtual 0) 53 3 1 [(0,2)], e_0 14 (.iload 1), e_0 15 (.iload 4), e_0 16 .ishr, e_v 17 1, e_0 18 .iand, e_0 19 .ixor, e_0 20 (.istore 3), e_i 21 4 (-1), e_j 22 (.goto 0) 4 [(0,1),(0,1),(0,1),(0,1),(0,1)], e_0 23 (.iload 3), e_a 24 .ireturn 0 0 0]
abbrev n_Field_valueAt : Nat := 52
def p_Field_times : List Ent := [e_v 0 0, e_0 1 (.istore 3), e_0 2 (.iload 1), e_0 3 (.istore 4), e_v 4 0, e_0 5 (.istore 5), e_0 6 (.iload 5), e_0 7 (.aload 0), e_a 8 (.getfield 0) 0 0 2, e_j 9 (.if_icmp .ge 0) 40 [], e_0 10 (.iload 2), e_0 11 (.iload 5), e_0 12 .ishr, e_j 13 (.ifCond .eq 0) 40 [], e_0 14 (.iload 2), e_0 15 (.iload 5), e_0 16 .ishr, e_v 17 1, e_0 18 .iand, e_j 19 (.ifCond .eq 0) 24 [], e_0 20 (.iload 3), e_0 21 (.iload 4), e_0 22 .ixor, e_0 23 (.istore 3), e_0 24 (.iload 4), e_v 25 1, e_0 26 .ishl, e_0 27 (.istore 4), e_0 28 (.iload 4), e_0 29 (.aload 0), e_a 30 (.getfield 0) 1 0 2, e_0 31 .iand, e_j 32 (.ifCond .eq 0) 38 [], e_0 33 (.iload 4), e_0 34 (.aload 0), e_a 35 (.getfield 0) 2 0 2, e_0 36 .ixor, e_0 37 (.istore 4), e_i 38 5 (1), e_j 39 (.goto 0) 6 [(0,1),(0,0),(0,1),(0,1),(0,1),(0,1)], e_0 40 (.iload 3), e_a 41 .ireturn 0 0 0]
abbrev n_Field_times : Nat := 53
def p_Cycle_leastPrimitive : List Ent := [e_v 0 1, e_0 1 (.istore 1), e_0 2 (.iload 1), e_0 3 (.aload 0), e_a 4 (.getfield 0) 1 0 3, e_j 5 (.if_icmp .gt 0) 20 [], e_0 6 (.aload 0), e_a 7 (.getfield 0) 2 0 3, e_j 8 (.ifCond .ne 0) 20 [], e_0 9 (.aload 0), e_0 10 (.iload 1), e_c 11 (.invokevirtual 0) 55 2 1 [(0,3)], e_0 12 (.aload 0), e_a 13 (.getfield 0) 1 0 3, e_j 14 (.if_icmp .ne 0) 18 [], e_0 15 (.aload 0), e_0 16 (.iload 1), e_a 17 (.putfield 0) 2 0 3, e_i 18 1 (1), e_j 19 (.goto 0) 2 [(0,1),(0,1)], e_0 20 (.aload 0), e_a 21 (.getfield 0) 2 0 3, e_a 22 .ireturn 0 0 0]
abbrev n_Cycle_leastPrimitive : Nat := 54
def p_Cycle_orderOf : List Ent := [e_0 0 (.aload 0), e_a 1 (.getfield 0) 1 0 3, e_0 2 (.istore 2), e_0 3 (.aload 0), e_a 4 (.getfield 0) 1 0 3, e_0 5 (.istore 3), e_v 6 2, e_0 7 (.istore 4), e_0 8 (.iload 4), e_0 9 (.iload 3), e_j 10 (.if_icmp .gt 0) 42 [], e_v 11 0, e_0 12 (.istore 5), e_0 13 (.iload 5), e_v 14 12, e_j 15 (.if_icmp .ge 0) 40 [], e_0 16 (.iload 3), e_0 17 (.iload 4), e_0 18 .irem, e_j 19 (.ifCond .ne 0) 40 [], e_0 20 (.iload 3), e_0 21 (.iload 4), e_0 22 .idiv, e_0 23 (.istore 3), e_0 24 (.aload 0), e_a 25 (.getfield 0) 0 2 3, e_0 26 (.iload 1), e_0 27 (.iload 2), e_0 28 (.iload 4), e_0 29 .idiv, e_0 30 .i2l, e_c 31 (.invokevirtual 0) 56 3 1 [(0,2)], e_v 32 1, e_j 33 (.if_icmp .ne 0) 38 [], e_0 34 (.iload 2), e_0 35 (.iload 4), e_0 36 .idiv, e_0 37 (.istore 2), e_i 38 5 (1), e_j 39 (.goto 0) 13 [(0,1),(0,1),(0,1),(0,1),(0,1),(0,1)], e_i 40 4 (1), e_j 41 (.goto 0) 8 [(0,1),(0,1),(0,1),(0,1),(0,1),(0,0)], e_0 42 (.iload 2), e_a 43 .ireturn 0 0 0]
abbrev n_Cycle_orderOf : Nat := 55
def p_Field_toThe : List Ent := [e_v 0 1, e_0 1 (.istore 4), e_0 2 (.iload 1), e_0 3 (.istore 5), e_v 4 0, e_0 5 (.istore 6), e_0 6 (.iload 6), e_v 7 63, e_j 8 (.if_icmp .ge 0) 35 [], e_0 9 (.lload 2), e_0 10 (.iload 6), e_0 11 .lshr, e_w 12 0, e_0 13 .lcmp, e_j 14 (.ifCond .eq 0) 35 [], e_0 15 (.lload 2), e_0 16 (.iload 6), e_0 17 .lshr, e_w 18 1, e_0 19 .land, e_w 20 0, e_0 21 .lcmp, e_j 22 (.ifCond .eq 0) 28 [], e_0 23 (.aload 0), e_0 24 (.iload 4), e_0 25 (.iload 5), e_c 26 (.invokevirtual 0) 53 3 1 [(0,2)], e_0 27 (.istore 4), e_0 28 (.aload 0), e_0 29 (.iload 5), e_0 30 (.iload 5), e_c 31 (.invokevirtual 0) 53 3 1 [(0,2)], e_0 32 (.istore 5), e_i 33 6 (1), e_j 34 (.goto 0) 6 [(0,1),(0,0),(0,1),(0,0),(0,1),(0,1),(0,1)], e_0 35 (.iload 4), e_a 36 .ireturn 0 0 0]
abbrev n_Field_toThe : Nat := 56
def p_Tower_leastImage : List Ent := [e_0 0 (.aload 0), e_a 1 (.getfield 0) 0 2 5, e_0 2 (.iload 1), e_0 3 .aaload, e_a 4 (.getfield 0) 1 0 2, e_v 5 1, e_0 6 .isub, e_0 7 (.istore 4), e_0 8 (.iload 4), e_v 9 1, e_j 10 (.if_icmp .ge 0) 13 [], e_v 11 0, e_a 12 .ireturn 0 0 0, e_0 13 (.aload 0), e_a 14 (.getfield 0) 0 2 5, e_0 15 (.iload 2), e_0 16 .aaload, e_0 17 (.iload 3), e_0 18 (.aload 0), e_a 19 (.getfield 0) 0 2 5, e_0 20 (.iload 2), e_0 21 .aaload, e_a 22 (.getfield 0) 1 0 2, e_v 23 1, e_0 24 .isub, e_0 25 (.iload 4), e_0 26 .idiv, e_0 27 .i2l, e_c 28 (.invokevirtual 0) 56 3 1 [(0,2)], e_0 29 (.istore 5), e_0 30 (.aload 0), e_a 31 (.getfield 0) 0 2 5, e_0 32 (.iload 2), e_0 33 .aaload, e_a 34 (.getfield 0) 1 0 2, e_0 35 (.istore 6), e_v 36 1, e_0 37 (.istore 7), e_v 38 0, e_0 39 (.istore 8), e_0 40 (.iload 8), e_0 41 (.iload 4), e_j 42 (.if_icmp .ge 0) 76 [], e_0 43 (.iload 7), e_0 44 (.iload 6), e_j 45 (.if_icmp .ge 0) 66 [], e_0 46 (.aload 0), e_a 47 (.getfield 0) 0 2 5, e_0 48 (.iload 2), e_0 49 .aaload, e_0 50 (.aload 0), e_a 51 (.getfield 0) 0 2 5, e_0 52 (.iload 1), e_0 53 .aaload, e_a 54 (.getfield 0) 2 0 2, e_0 55 (.iload 7), e_c 56 (.invokevirtual 0) 52 3 1 [(0,2)], e_j 57 (.ifCond .ne 0) 66 [], e_0 58 (.aload 0), e_0 59 (.iload 1), e_0 60 (.iload 2), e_0 61 (.iload 7), e_c 62 (.invokevirtual 0) 58 4 1 [(0,5)], e_j 63 (.ifCond .eq 0) 66 [], e_0 64 (.iload 7), e_0 65 (.istore 6), e_0 66 (.aload 0), e_a 67 (.getfield 0) 0 2 5, e_0 68 (.iload 2), e_0 69 .aaload, e_0 70 (.iload 7), e_0 71 (.iload 5), e_c 72 (.invokevirtual 0) 53 3 1 [(0,2)], e_0 73 (.istore 7), e_i 74 8 (1), e_j 75 (.goto 0) 40 [(0,1),(0,1),(0,1),(0,0),(0,1),(0,1),(0,1),(0,1),(0,1)], e_0 76 (.iload 6), e_a 77 .ireturn 0 0 0]
abbrev n_Tower_leastImage : Nat := 57
def p_Tower_agrees : List Ent := [e_0 0 (.iload 1), e_v 1 1, e_0 2 .iadd, e_0 3 (.istore 4), e_0 4 (.iload 4), e_0 5 (.iload 2), e_j 6 (.if_icmp .ge 0) 52 [], e_0 7 (.iload 1), e_0 8 (.iload 4), e_c 9 (.invokestatic 0) 59 2 1 [(0,0)], e_0 10 (.istore 5), e_0 11 (.iload 4), e_0 12 (.iload 2), e_c 13 (.invokestatic 0) 41 2 1 [(0,0)], e_j 14 (.ifCond .eq 0) 50 [], e_0 15 (.iload 5), e_v 16 1, e_j 17 (.if_icmp .le 0) 50 [], e_0 18 (.aload 0), e_a 19 (.getfield 0) 0 2 5, e_0 20 (.iload 2), e_0 21 .aaload, e_0 22 (.aload 0), e_a 23 (.getfield 0) 4 2 5, e_0 24 (.iload 1), e_0 25 .aaload, e_0 26 (.iload 5), e_0 27 .iaload, e_0 28 (.iload 3), e_c 29 (.invokevirtual 0) 52 3 1 [(0,2)], e_0 30 (.aload 0), e_a 31 (.getfield 0) 0 2 5, e_0 32 (.iload 2), e_0 33 .aaload, e_0 34 (.aload 0), e_a 35 (.getfield 0) 4 2 5, e_0 36 (.iload 4), e_0 37 .aaload, e_0 38 (.iload 5), e_0 39 .iaload, e_0 40 (.aload 0), e_a 41 (.getfield 0) 4 2 5, e_0 42 (.iload 2), e_0 43 .aaload, e_0 44 (.iload 4), e_0 45 .iaload, e_c 46 (.invokevirtual 0) 52 3 1 [(0,2)], e_j 47 (.if_icmp .eq 0) 50 [], e_v 48 0, e_a 49 .ireturn 1 0 0, e_i 50 4 (1), e_j 51 (.goto 0) 4 [(0,1),(0,1),(0,1),(0,1),(0,1),(0,0)], e_v 52 1, e_a 53 .ireturn 1 0 0]
abbrev n_Tower_agrees : Nat := 58
def p_FT_commonDivisor : List Ent := [e_0 0 (.iload 0), e_0 1 (.istore 2), e_0 2 (.iload 1), e_0 3 (.istore 3), e_v 4 0, e_0 5 (.istore 4), e_0 6 (.iload 4), e_v 7 64, e_j 8 (.if_icmp .ge 0) 21 [], e_0 9 (.iload 3), e_j 10 (.ifCond .le 0) 21 [], e_0 11 (.iload 2), e_0 12 (.iload 3), e_0 13 .irem, e_0 14 (.istore 5), e_0 15 (.iload 3), e_0 16 (.istore 2), e_0 17 (.iload 5), e_0 18 (.istore 3), e_i 19 4 (1), e_j 20 (.goto 0) 6 [(0,0),(0,0),(0,1),(0,1),(0,1),(0,0)], e_0 21 (.iload 2), e_a 22 .ireturn 0 0 0]
abbrev n_FT_commonDivisor : Nat := 59
def p_Worker_workLine : List Ent := [e_0 0 (.aload 1), e_a 1 (.getfield 0) 8 2 8, e_0 2 (.iload 3), e_0 3 .iaload, e_0 4 (.istore 4), e_0 5 (.iload 4), e_c 6 (.invokestatic 0) 33 1 1 [(0,0)], e_j 7 (.ifCond .ne 0) 10 [], e_v 8 1, e_a 9 .ireturn 1 0 0, e_0 10 (.aload 2), e_a 11 (.getfield 0) 0 2 5, e_0 12 (.iload 4), e_0 13 .aaload, e_0 14 (.astore 5), e_v 15 0, e_0 16 (.istore 6), e_0 17 (.aload 0), e_v 18 0, e_c 19 (.invokevirtual 0) 61 2 0 [(0,6)], e_0 20 (.aload 1), e_a 21 (.getfield 0) 9 2 8, e_0 22 (.iload 3), e_0 23 .iaload, e_0 24 (.istore 7), e_0 25 (.iload 7), e_0 26 (.aload 1), e_a 27 (.getfield 0) 0 0 8, e_j 28 (.if_icmp .ge 0) 116 [], e_0 29 (.aload 1), e_a 30 (.getfield 0) 1 2 8, e_0 31 (.iload 7), e_0 32 .iaload, e_0 33 (.istore 8), e_0 34 (.iload 8), e_v 35 11, e_j 36 (.if_icmp .ne 0) 45 [], e_0 37 (.iload 6), e_v 38 8, e_j 39 (.if_icmp .ge 0) 45 [], e_i 40 6 (1), e_0 41 (.aload 0), e_0 42 (.iload 6), e_c 43 (.invokevirtual 0) 61 2 0 [(0,6)], e_j 44 (.goto 0) 114 [], e_0 45 (.aload 1), e_a 46 (.getfield 0) 2 2 8, e_0 47 (.iload 7), e_0 48 .iaload, e_v 49 7, e_j 50 (.if_icmp .ne 0) 60 [], e_0 51 (.aload 0), e_0 52 (.aload 0), e_0 53 (.aload 1), e_0 54 (.aload 2), e_0 55 (.iload 4), e_0 56 (.iload 7), e_c 57 (.invokevirtual 0) 62 5 1 [(0,6)], e_a 58 (.putfield 0) 6 0 6, e_j 59 (.goto 0) 114 [], e_0 60 (.aload 1), e_a 61 (.getfield 0) 2 2 8, e_0 62 (.iload 7), e_0 63 .iaload, e_v 64 9, e_j 65 (.if_icmp .ne 0) 77 [], e_0 66 (.aload 0), e_0 67 (.aload 5), e_0 68 (.aload 0), e_a 69 (.getfield 0) 6 0 6, e_0 70 (.aload 1), e_a 71 (.getfield 0) 4 2 8, e_0 72 (.iload 7), e_0 73 .laload, e_c 74 (.invokevirtual 0) 56 3 1 [(0,2)], e_a 75 (.putfield 0) 6 0 6, e_j 76 (.goto 0) 114 [], e_0 77 (.iload 8), e_v 78 10, e_j 79 (.if_icmp .eq 0) 114 [], e_0 80 (.aload 0), e_0 81 (.aload 5), e_0 82 (.iload 6), e_c 83 (.invokevirtual 0) 64 3 1 [(0,6)], e_j 84 (.ifCond .ne 0) 87 [], e_v 85 0, e_a 86 .ireturn 1 0 0, e_0 87 (.iload 8), e_v 88 6, e_j 89 (.if_icmp .ne 0) 105 [], e_0 90 (.aload 0), e_a 91 (.getfield 0) 0 2 6, e_0 92 (.iload 3), e_0 93 (.aload 0), e_a 94 (.getfield 0) 2 2 6, e_v 95 0, e_0 96 .iaload, e_0 97 (.aload 0), e_a 98 (.getfield 0) 3 2 6, e_v 99 0, e_0 100 .iaload, e_0 101 .ixor, e_0 102 .iastore, e_v 103 1, e_a 104 .ireturn 1 0 0, e_0 105 (.aload 0), e_0 106 (.iload 8), e_0 107 (.iload 6), e_0 108 (.aload 1), e_a 109 (.getfield 0) 3 2 8, e_0 110 (.iload 7), e_0 111 .iaload, e_c 112 (.invokevirtual 0) 66 4 1 [(0,6)], e_0 113 (.istore 6), e_i 114 7 (1), e_j 115 (.goto 0) 25 [(0,1),(0,1),(0,1),(0,1),(0,1),(0,1),(0,1),(0,1),(0,0)], e_v 116 1, e_a 117 .ireturn 1 0 0]
abbrev n_Worker_workLine : Nat := 60
def p_Worker_begin : List Ent := [e_0 0 (.aload 0), e_a 1 (.getfield 0) 2 2 6, e_0 2 (.iload 1), e_v 3 0, e_0 4 .iastore, e_0 5 (.aload 0), e_a 6 (.getfield 0) 3 2 6, e_0 7 (.iload 1), e_v 8 0, e_0 9 .iastore, e_0 10 (.aload 0), e_a 11 (.getfield 0) 4 2 6, e_0 12 (.iload 1), e_v 13 7, e_0 14 .iastore, e_0 15 .return_]
abbrev n_Worker_begin : Nat := 61
def p_Worker_atomAt : List Ent := [e_0 0 (.aload 1), e_a 1 (.getfield 0) 4 2 8, e_0 2 (.iload 4), e_0 3 .laload, e_0 4 .l2i, e_0 5 (.istore 5), e_0 6 (.aload 1), e_a 7 (.getfield 0) 1 2 8, e_0 8 (.iload 4), e_0 9 .iaload, e_j 10 (.lookupswitch 0 #[]) 25 [(3,11),(5,17)], e_0 11 (.aload 2), e_a 12 (.getfield 0) 0 2 5, e_0 13 (.iload 3), e_0 14 .aaload, e_c 15 (.invokevirtual 0) 50 1 1 [(0,2)], e_a 16 .ireturn 0 0 0, e_0 17 (.iload 5), e_0 18 (.aload 2), e_a 19 (.getfield 0) 0 2 5, e_0 20 (.iload 3), e_0 21 .aaload, e_a 22 (.getfield 0) 2 0 2, e_c 23 (.invokestatic 0) 37 2 1 [(0,0)], e_a 24 .ireturn 0 0 0, e_0 25 (.iload 5), e_j 26 (.ifCond .lt 0) 30 [], e_0 27 (.iload 5), e_v 28 8, e_j 29 (.if_icmp .lt 0) 32 [], e_v 30 0, e_a 31 .ireturn 0 0 0, e_0 32 (.aload 1), e_a 33 (.getfield 0) 8 2 8, e_0 34 (.iload 5), e_0 35 .iaload, e_0 36 (.istore 6), e_0 37 (.iload 6), e_0 38 (.iload 3), e_j 39 (.if_icmp .ne 0) 45 [], e_0 40 (.aload 0), e_a 41 (.getfield 0) 0 2 6, e_0 42 (.iload 5), e_0 43 .iaload, e_j 44 (.goto 0) 53 [], e_0 45 (.aload 2), e_0 46 (.iload 6), e_0 47 (.iload 3), e_0 48 (.aload 0), e_a 49 (.getfield 0) 0 2 6, e_0 50 (.iload 5), e_0 51 .iaload, e_c 52 (.invokevirtual 0) 63 4 1 [(0,5)], e_a 53 .ireturn 0 0 0]
abbrev n_Worker_atomAt : Nat := 62
def p_Tower_raised : List Ent := [e_0 0 (.aload 0), e_a 1 (.getfield 0) 0 2 5, e_0 2 (.iload 2), e_0 3 .aaload, e_0 4 (.iload 3), e_0 5 (.aload 0), e_a 6 (.getfield 0) 4 2 5, e_0 7 (.iload 2), e_0 8 .aaload, e_0 9 (.iload 1), e_0 10 .iaload, e_c 11 (.invokevirtual 0) 52 3 1 [(0,2)], e_a 12 .ireturn 0 0 0]
abbrev n_Tower_raised : Nat := 63
def p_Worker_join : List Ent := [e_0 0 (.aload 0), e_a 1 (.getfield 0) 4 2 6, e_0 2 (.iload 2), e_0 3 .iaload, e_v 4 8, e_j 5 (.if_icmp .ne 0) 19 [], e_0 6 (.aload 0), e_a 7 (.getfield 0) 3 2 6, e_0 8 (.iload 2), e_0 9 (.aload 1), e_0 10 (.aload 0), e_a 11 (.getfield 0) 3 2 6, e_0 12 (.iload 2), e_0 13 .iaload, e_0 14 (.aload 0), e_a 15 (.getfield 0) 6 0 6, e_c 16 (.invokevirtual 0) 53 3 1 [(0,2)], e_0 17 .iastore, e_j 18 (.goto 0) 58 [], e_0 19 (.aload 0), e_a 20 (.getfield 0) 4 2 6, e_0 21 (.iload 2), e_0 22 .iaload, e_v 23 9, e_j 24 (.if_icmp .eq 0) 32 [], e_0 25 (.aload 0), e_a 26 (.getfield 0) 3 2 6, e_0 27 (.iload 2), e_0 28 (.aload 0), e_a 29 (.getfield 0) 6 0 6, e_0 30 .iastore, e_j 31 (.goto 0) 58 [], e_0 32 (.aload 0), e_a 33 (.getfield 0) 6 0 6, e_j 34 (.ifCond .eq 0) 50 [], e_0 35 (.aload 0), e_a 36 (.getfield 0) 3 2 6, e_0 37 (.iload 2), e_0 38 (.aload 1), e_0 39 (.aload 0), e_a 40 (.getfield 0) 3 2 6, e_0 41 (.iload 2), e_0 42 .iaload, e_0 43 (.aload 1), e_0 44 (.aload 0), e_a 45 (.getfield 0) 6 0 6, e_c 46 (.invokevirtual 0) 65 2 1 [(0,2)], e_c 47 (.invokevirtual 0) 53 3 1 [(0,2)], e_0 48 .iastore, e_j 49 (.goto 0) 58 [], e_0 50 (.aload 0), e_0 51 (.aload 0), e_a 52 (.getfield 0) 5 2 6, e_0 53 (.iload 2), e_0 54 .iaload, e_a 55 (.putfield 0) 1 0 6, e_v 56 0, e_a 57 .ireturn 1 0 0, e_v 58 1, e_a 59 .ireturn 1 0 0]
abbrev n_Worker_join : Nat := 64
def p_Field_inverse : List Ent := [e_0 0 (.aload 0), e_0 1 (.iload 1), e_0 2 (.aload 0), e_a 3 (.getfield 0) 1 0 2, e_v 4 2, e_0 5 .isub, e_0 6 .i2l, e_c 7 (.invokevirtual 0) 56 3 1 [(0,2)], e_a 8 .ireturn 0 0 0]
abbrev n_Field_inverse : Nat := 65
def p_Worker_goOn : List Ent := [e_0 0 (.iload 1), e_v 1 12, e_j 2 (.if_icmp .ne 0) 20 [], e_0 3 (.aload 0), e_0 4 (.aload 0), e_a 5 (.getfield 0) 2 2 6, e_0 6 (.iload 2), e_0 7 .iaload, e_0 8 (.aload 0), e_a 9 (.getfield 0) 3 2 6, e_0 10 (.iload 2), e_0 11 .iaload, e_0 12 .ixor, e_a 13 (.putfield 0) 6 0 6, e_v 14 0, e_0 15 (.iload 2), e_v 16 1, e_0 17 .isub, e_c 18 (.invokestatic 0) 67 2 1 [(0,0)], e_a 19 .ireturn 0 0 0, e_0 20 (.iload 1), e_v 21 7, e_j 22 (.if_icmp .ne 0) 34 [], e_0 23 (.aload 0), e_a 24 (.getfield 0) 2 2 6, e_0 25 (.iload 2), e_0 26 .dup2, e_0 27 .iaload, e_0 28 (.aload 0), e_a 29 (.getfield 0) 3 2 6, e_0 30 (.iload 2), e_0 31 .iaload, e_0 32 .ixor, e_0 33 .iastore, e_0 34 (.aload 0), e_a 35 (.getfield 0) 4 2 6, e_0 36 (.iload 2), e_0 37 (.iload 1), e_0 38 .iastore, e_0 39 (.aload 0), e_a 40 (.getfield 0) 5 2 6, e_0 41 (.iload 2), e_0 42 (.iload 3), e_0 43 .iastore, e_0 44 (.iload 2), e_a 45 .ireturn 0 0 0]
abbrev n_Worker_goOn : Nat := 66
def p_Math_max : List Ent := [e_0 0 (.iload 0), e_0 1 (.iload 1), e_j 2 (.if_icmp .lt 0) 5 [], e_0 3 (.iload 0), e_j 4 (.goto 0) 6 [], e_0 5 (.iload 1), e_a 6 .ireturn 0 0 0]
abbrev n_Math_max : Nat := 67
def p_FT_keepNameValues : List Ent := [e_0 0 (.aload 0), e_a 1 (.getfield 0) 2 2 9, e_a 2 (.getfield 0) 0 2 6, e_v 3 0, e_0 4 (.aload 0), e_a 5 (.getfield 0) 4 2 9, e_v 6 0, e_v 7 8, e_a 8 (.invokestatic 0) 0 5 8, e_0 9 .return_]
abbrev n_FT_keepNameValues : Nat := 68
def p_FT_emptySlots : List Ent := [e_v 0 0, e_0 1 (.istore 1), e_0 2 (.iload 1), e_v 3 3, e_j 4 (.if_icmp .ge 0) 12 [], e_0 5 (.aload 0), e_a 6 (.getfield 0) 7 2 9, e_0 7 (.iload 1), e_v 8 0, e_0 9 .bastore, e_i 10 1 (1), e_j 11 (.goto 0) 2 [(0,1),(0,1)], e_0 12 .return_]
abbrev n_FT_emptySlots : Nat := 69
def p_FT_place : List Ent := [e_0 0 (.aload 0), e_a 1 (.getfield 0) 11 0 9, e_a 2 .ireturn 0 0 0]
abbrev n_FT_place : Nat := 70
def p_FT_change : List Ent := [e_0 0 (.iload 1), e_c 1 (.invokestatic 0) 33 1 1 [(0,0)], e_j 2 (.ifCond .eq 0) 7 [], e_0 3 (.iload 2), e_0 4 (.iload 1), e_c 5 (.invokestatic 0) 34 2 1 [(0,0)], e_j 6 (.ifCond .ne 0) 9 [], e_v 7 0, e_a 8 .ireturn 1 0 0, e_0 9 (.aload 0), e_a 10 (.getfield 0) 1 2 9, e_a 11 (.getfield 0) 0 2 5, e_0 12 (.iload 1), e_0 13 .aaload, e_a 14 (.getfield 0) 2 0 2, e_0 15 (.istore 3), e_0 16 (.iload 3), e_0 17 (.iload 2), e_j 18 (.if_icmp .ne 0) 21 [], e_v 19 0, e_a 20 .ireturn 1 0 0, e_0 21 (.aload 0), e_a 22 (.getfield 0) 1 2 9, e_0 23 (.iload 1), e_0 24 (.iload 2), e_c 25 (.invokevirtual 0) 44 3 0 [(0,5)], e_0 26 (.aload 0), e_a 27 (.getfield 0) 2 2 9, e_0 28 (.aload 0), e_a 29 (.getfield 0) 9 2 9, e_0 30 (.aload 0), e_a 31 (.getfield 0) 1 2 9, e_c 32 (.invokevirtual 0) 47 3 1 [(0,6)], e_j 33 (.ifCond .ne 0) 41 [], e_0 34 (.aload 0), e_a 35 (.getfield 0) 1 2 9, e_0 36 (.iload 1), e_0 37 (.iload 3), e_c 38 (.invokevirtual 0) 44 3 0 [(0,5)], e_v 39 0, e_a 40 .ireturn 1 0 0, e_0 41 (.aload 0), e_c 42 (.invokevirtual 0) 68 1 0 [(0,9)], e_0 43 (.aload 0), e_a 44 (.getfield 0) 3 2 9, e_0 45 (.iload 1), e_0 46 (.iload 3), e_c 47 (.invokevirtual 0) 72 3 0 [(0,7)], e_v 48 1, e_a 49 .ireturn 1 0 0]
abbrev n_FT_change : Nat := 71
def p_Hist_push : List Ent := [e_0 0 (.aload 0), e_a 1 (.getfield 0) 2 0 7, e_v 2 30, e_j 3 (.if_icmp .lt 0) 23 [], e_0 4 (.aload 0), e_a 5 (.getfield 0) 0 2 7, e_v 6 1, e_0 7 (.aload 0), e_a 8 (.getfield 0) 0 2 7, e_v 9 0, e_v 10 29, e_a 11 (.invokestatic 0) 0 5 8, e_0 12 (.aload 0), e_a 13 (.getfield 0) 1 2 7, e_v 14 1, e_0 15 (.aload 0), e_a 16 (.getfield 0) 1 2 7, e_v 17 0, e_v 18 29, e_a 19 (.invokestatic 0) 0 5 8, e_0 20 (.aload 0), e_v 21 29, e_a 22 (.putfield 0) 2 0 7, e_0 23 (.aload 0), e_a 24 (.getfield 0) 0 2 7, e_0 25 (.aload 0), e_a 26 (.getfield 0) 2 0 7, e_0 27 (.iload 1), e_0 28 .iastore, e_0 29 (.aload 0), e_a 30 (.getfield 0) 1 2 7, e_0 31 (.aload 0), e_a 32 (.getfield 0) 2 0 7, e_0 33 (.iload 2), e_0 34 .iastore, e_0 35 (.aload 0), e_0 36 .dup, e_a 37 (.getfield 0) 2 0 7, e_v 38 1, e_0 39 .iadd, e_a 40 (.putfield 0) 2 0 7, e_0 41 .return_]
abbrev n_Hist_push : Nat := 72
def p_FT_undo : List Ent := [e_0 0 (.aload 0), e_a 1 (.getfield 0) 3 2 9, e_a 2 (.getfield 0) 2 0 7, e_j 3 (.ifCond .gt 0) 6 [], e_v 4 0, e_a 5 .ireturn 1 0 0, e_0 6 (.aload 0), e_a 7 (.getfield 0) 1 2 9, e_0 8 (.aload 0), e_a 9 (.getfield 0) 3 2 9, e_c 10 (.invokevirtual 0) 74 1 1 [(0,7)], e_0 11 (.aload 0), e_a 12 (.getfield 0) 3 2 9, e_c 13 (.invokevirtual 0) 75 1 1 [(0,7)], e_c 14 (.invokevirtual 0) 44 3 0 [(0,5)], e_0 15 (.aload 0), e_a 16 (.getfield 0) 3 2 9, e_0 17 .dup, e_a 18 (.getfield 0) 2 0 7, e_v 19 1, e_0 20 .isub, e_a 21 (.putfield 0) 2 0 7, e_0 22 (.aload 0), e_a 23 (.getfield 0) 2 2 9, e_0 24 (.aload 0), e_a 25 (.getfield 0) 9 2 9, e_0 26 (.aload 0), e_a 27 (.getfield 0) 1 2 9, e_c 28 (.invokevirtual 0) 47 3 1 [(0,6)], e_0 29 .pop, e_0 30 (.aload 0), e_c 31 (.invokevirtual 0) 68 1 0 [(0,9)], e_v 32 1, e_a 33 .ireturn 1 0 0]
abbrev n_FT_undo : Nat := 73
def p_Hist_lastField : List Ent := [e_0 0 (.aload 0), e_a 1 (.getfield 0) 2 0 7, e_j 2 (.ifCond .le 0) 11 [], e_0 3 (.aload 0), e_a 4 (.getfield 0) 0 2 7, e_0 5 (.aload 0), e_a 6 (.getfield 0) 2 0 7, e_v 7 1, e_0 8 .isub, e_0 9 .iaload, e_j 10 (.goto 0) 12 [], e_v 11 (-1), e_a 12 .ireturn 0 0 0]
abbrev n_Hist_lastField : Nat := 74
def p_Hist_lastModulus : List Ent := [e_0 0 (.aload 0), e_a 1 (.getfield 0) 2 0 7, e_j 2 (.ifCond .le 0) 11 [], e_0 3 (.aload 0), e_a 4 (.getfield 0) 1 2 7, e_0 5 (.aload 0), e_a 6 (.getfield 0) 2 0 7, e_v 7 1, e_0 8 .isub, e_0 9 .iaload, e_j 10 (.goto 0) 12 [], e_v 11 (-1), e_a 12 .ireturn 0 0 0]
abbrev n_Hist_lastModulus : Nat := 75
def p_FT_hold : List Ent := [e_0 0 (.iload 1), e_j 1 (.ifCond .lt 0) 5 [], e_0 2 (.iload 1), e_v 3 3, e_j 4 (.if_icmp .lt 0) 7 [], e_v 5 0, e_a 6 .ireturn 1 0 0, e_0 7 (.aload 0), e_a 8 (.getfield 0) 1 2 9, e_0 9 (.aload 0), e_a 10 (.getfield 0) 6 2 9, e_0 11 (.iload 1), e_0 12 .aaload, e_c 13 (.invokevirtual 0) 42 2 0 [(0,5)], e_0 14 (.aload 0), e_a 15 (.getfield 0) 7 2 9, e_0 16 (.iload 1), e_v 17 1, e_0 18 .bastore, e_v 19 1, e_a 20 .ireturn 1 0 0]
abbrev n_FT_hold : Nat := 76
def p_FT_restore : List Ent := [e_0 0 (.iload 1), e_j 1 (.ifCond .lt 0) 10 [], e_0 2 (.iload 1), e_v 3 3, e_j 4 (.if_icmp .ge 0) 10 [], e_0 5 (.aload 0), e_a 6 (.getfield 0) 7 2 9, e_0 7 (.iload 1), e_0 8 .baload, e_j 9 (.ifCond .ne 0) 12 [], e_v 10 0, e_a 11 .ireturn 1 0 0, e_0 12 (.aload 0), e_a 13 (.getfield 0) 1 2 9, e_0 14 (.aload 0), e_a 15 (.getfield 0) 6 2 9, e_0 16 (.iload 1), e_0 17 .aaload, e_c 18 (.invokevirtual 0) 43 2 0 [(0,5)], e_0 19 (.aload 0), e_a 20 (.getfield 0) 2 2 9, e_0 21 (.aload 0), e_a 22 (.getfield 0) 9 2 9, e_0 23 (.aload 0), e_a 24 (.getfield 0) 1 2 9, e_c 25 (.invokevirtual 0) 47 3 1 [(0,6)], e_0 26 .pop, e_0 27 (.aload 0), e_c 28 (.invokevirtual 0) 68 1 0 [(0,9)], e_0 29 (.aload 0), e_a 30 (.getfield 0) 3 2 9, e_v 31 0, e_a 32 (.putfield 0) 2 0 7, e_v 33 1, e_a 34 .ireturn 1 0 0]
abbrev n_FT_restore : Nat := 77
def p_FT_modulus : List Ent := [e_0 0 (.iload 1), e_c 1 (.invokestatic 0) 33 1 1 [(0,0)], e_j 2 (.ifCond .eq 0) 10 [], e_0 3 (.aload 0), e_a 4 (.getfield 0) 1 2 9, e_a 5 (.getfield 0) 0 2 5, e_0 6 (.iload 1), e_0 7 .aaload, e_a 8 (.getfield 0) 2 0 2, e_j 9 (.goto 0) 11 [], e_v 10 (-1), e_a 11 .ireturn 0 0 0]
abbrev n_FT_modulus : Nat := 78
def p_FT_whole : List Ent := [e_0 0 (.iload 1), e_c 1 (.invokestatic 0) 80 1 1 [(0,0)], e_j 2 (.ifCond .ne 0) 5 [], e_v 3 (-1), e_a 4 .ireturn 0 0 0, e_0 5 (.iload 1), e_c 6 (.invokestatic 0) 35 1 1 [(0,0)], e_j 7 (.ifCond .eq 0) 10 [], e_v 8 1, e_j 9 (.goto 0) 11 [], e_v 10 0, e_a 11 .ireturn 0 0 0]
abbrev n_FT_whole : Nat := 79
def p_FT_hasDegree : List Ent := [e_0 0 (.iload 0), e_v 1 2, e_j 2 (.if_icmp .lt 0) 8 [], e_0 3 (.iload 0), e_v 4 8191, e_j 5 (.if_icmp .gt 0) 8 [], e_v 6 1, e_j 7 (.goto 0) 9 [], e_v 8 0, e_a 9 .ireturn 1 0 0]
abbrev n_FT_hasDegree : Nat := 80
def p_FT_next : List Ent := [e_0 0 (.iload 1), e_j 1 (.ifCond .lt 0) 5 [], e_0 2 (.iload 1), e_v 3 8191, e_j 4 (.if_icmp .lt 0) 7 [], e_v 5 (-1), e_a 6 .ireturn 0 0 0, e_v 7 2, e_0 8 (.iload 1), e_v 9 1, e_0 10 .iadd, e_c 11 (.invokestatic 0) 67 2 1 [(0,0)], e_0 12 (.istore 2), e_0 13 (.iload 2), e_v 14 8191, e_j 15 (.if_icmp .gt 0) 23 [], e_0 16 (.iload 2), e_c 17 (.invokestatic 0) 35 1 1 [(0,0)], e_j 18 (.ifCond .eq 0) 21 [], e_0 19 (.iload 2), e_a 20 .ireturn 0 0 0, e_i 21 2 (1), e_j 22 (.goto 0) 13 [(0,0),(0,0),(0,1)], e_v 23 (-1), e_a 24 .ireturn 0 0 0]
abbrev n_FT_next : Nat := 81
def p_FT_wholes : List Ent := [e_0 0 (.iload 1), e_c 1 (.invokestatic 0) 33 1 1 [(0,0)], e_j 2 (.ifCond .eq 0) 7 [], e_a 3 (.getstatic 0) 3 0 0, e_0 4 (.iload 1), e_0 5 .iaload, e_j 6 (.goto 0) 8 [], e_v 7 (-1), e_a 8 .ireturn 0 0 0]
abbrev n_FT_wholes : Nat := 82
def p_FT_value : List Ent := [e_0 0 (.iload 1), e_0 1 (.iload 3), e_c 2 (.invokestatic 0) 84 2 1 [(0,0)], e_j 3 (.ifCond .eq 0) 9 [], e_0 4 (.iload 2), e_j 5 (.ifCond .lt 0) 9 [], e_0 6 (.iload 2), e_v 7 8191, e_j 8 (.if_icmp .le 0) 11 [], e_v 9 (-1), e_a 10 .ireturn 0 0 0, e_0 11 (.aload 0), e_a 12 (.getfield 0) 1 2 9, e_a 13 (.getfield 0) 0 2 5, e_0 14 (.iload 1), e_0 15 .aaload, e_0 16 (.iload 2), e_0 17 (.iload 3), e_c 18 (.invokevirtual 0) 52 3 1 [(0,2)], e_a 19 .ireturn 0 0 0]
abbrev n_FT_value : Nat := 83
def p_FT_isElement : List Ent := [e_0 0 (.iload 0), e_c 1 (.invokestatic 0) 33 1 1 [(0,0)], e_j 2 (.ifCond .eq 0) 12 [], e_0 3 (.iload 1), e_j 4 (.ifCond .lt 0) 12 [], e_0 5 (.iload 1), e_v 6 1, e_0 7 (.iload 0), e_0 8 .ishl, e_j 9 (.if_icmp .ge 0) 12 [], e_v 10 1, e_j 11 (.goto 0) 13 [], e_v 12 0, e_a 13 .ireturn 1 0 0]
abbrev n_FT_isElement : Nat := 84
def p_FT_factor : List Ent := [e_0 0 (.iload 1), e_c 1 (.invokestatic 0) 80 1 1 [(0,0)], e_j 2 (.ifCond .eq 0) 6 [], e_0 3 (.iload 2), e_v 4 (-1), e_j 5 (.if_icmp .ge 0) 8 [], e_v 6 (-1), e_a 7 .ireturn 0 0 0, e_0 8 (.iload 1), e_0 9 (.iload 2), e_c 10 (.invokestatic 0) 86 2 1 [(0,0)], e_a 11 .ireturn 0 0 0]
abbrev n_FT_factor : Nat := 85
def p_Poly_factorAt : List Ent := [e_0 0 (.iload 0), e_0 1 (.istore 2), e_v 2 0, e_0 3 (.istore 3), e_v 4 2, e_0 5 (.istore 4), e_v 6 0, e_0 7 (.istore 5), e_0 8 (.iload 5), e_v 9 8191, e_j 10 (.if_icmp .gt 0) 36 [], e_v 11 2, e_0 12 (.iload 4), e_c 13 (.invokestatic 0) 36 1 1 [(0,0)], e_0 14 .imul, e_0 15 (.iload 2), e_c 16 (.invokestatic 0) 36 1 1 [(0,0)], e_j 17 (.if_icmp .gt 0) 36 [], e_0 18 (.iload 2), e_0 19 (.iload 4), e_c 20 (.invokestatic 0) 37 2 1 [(0,0)], e_j 21 (.ifCond .eq 0) 24 [], e_i 22 4 (1), e_j 23 (.goto 0) 34 [], e_0 24 (.iload 3), e_0 25 (.iload 1), e_j 26 (.if_icmp .ne 0) 29 [], e_0 27 (.iload 4), e_a 28 .ireturn 0 0 0, e_i 29 3 (1), e_0 30 (.iload 2), e_0 31 (.iload 4), e_c 32 (.invokestatic 0) 87 2 1 [(0,0)], e_0 33 (.istore 2), e_i 34 5 (1), e_j 35 (.goto 0) 8 [(0,0),(0,1),(0,1),(0,1),(0,1),(0,1)], e_0 36 (.iload 1), e_v 37 (-1), e_j 38 (.if_icmp .ne 0) 43 [], e_0 39 (.iload 3), e_v 40 1, e_0 41 .iadd, e_a 42 .ireturn 0 0 0, e_0 43 (.iload 3), e_0 44 (.iload 1), e_j 45 (.if_icmp .ne 0) 48 [], e_0 46 (.iload 2), e_j 47 (.goto 0) 49 [], e_v 48 (-1), e_a 49 .ireturn 0 0 0]
abbrev n_Poly_factorAt : Nat := 86
def p_Poly_quotient : List Ent := [e_0 0 (.iload 1), e_c 1 (.invokestatic 0) 36 1 1 [(0,0)], e_0 2 (.istore 2), e_0 3 (.iload 0), e_0 4 (.istore 3), e_v 5 0, e_0 6 (.istore 4), e_v 7 12, e_0 8 (.istore 5), e_0 9 (.iload 5), e_0 10 (.iload 2), e_j 11 (.if_icmp .lt 0) 38 [], e_0 12 (.iload 2), e_j 13 (.ifCond .lt 0) 38 [], e_0 14 (.iload 3), e_0 15 (.iload 5), e_0 16 .ishr, e_v 17 1, e_0 18 .iand, e_j 19 (.ifCond .eq 0) 36 [], e_0 20 (.iload 3), e_0 21 (.iload 1), e_0 22 (.iload 5), e_0 23 (.iload 2), e_0 24 .isub, e_0 25 .ishl, e_0 26 .ixor, e_0 27 (.istore 3), e_0 28 (.iload 4), e_v 29 1, e_0 30 (.iload 5), e_0 31 (.iload 2), e_0 32 .isub, e_0 33 .ishl, e_0 34 .ior, e_0 35 (.istore 4), e_i 36 5 (-1), e_j 37 (.goto 0) 9 [(0,0),(0,1),(0,1),(0,1),(0,1),(0,1)], e_0 38 (.iload 4), e_a 39 .ireturn 0 0 0]
abbrev n_Poly_quotient : Nat := 87
def p_FT_period : List Ent := [e_0 0 (.iload 1), e_c 1 (.invokestatic 0) 80 1 1 [(0,0)], e_j 2 (.ifCond .ne 0) 5 [], e_v 3 (-1), e_a 4 .ireturn 0 0 0, e_0 5 (.iload 1), e_v 6 1, e_0 7 .iand, e_j 8 (.ifCond .ne 0) 11 [], e_v 9 (-2), e_j 10 (.goto 0) 13 [], e_0 11 (.iload 1), e_c 12 (.invokestatic 0) 89 1 1 [(0,0)], e_a 13 .ireturn 0 0 0]
abbrev n_FT_period : Nat := 88
def p_Poly_periodOf : List Ent := [e_v 0 1, e_0 1 (.iload 0), e_c 2 (.invokestatic 0) 36 1 1 [(0,0)], e_0 3 .ishl, e_0 4 (.istore 1), e_v 5 1, e_0 6 (.istore 2), e_v 7 1, e_0 8 (.istore 3), e_0 9 (.iload 3), e_v 10 8191, e_j 11 (.if_icmp .gt 0) 31 [], e_0 12 (.iload 2), e_v 13 1, e_0 14 .ishl, e_0 15 (.istore 2), e_0 16 (.iload 2), e_0 17 (.iload 1), e_0 18 .iand, e_j 19 (.ifCond .eq 0) 24 [], e_0 20 (.iload 2), e_0 21 (.iload 0), e_0 22 .ixor, e_0 23 (.istore 2), e_0 24 (.iload 2), e_v 25 1, e_j 26 (.if_icmp .ne 0) 29 [], e_0 27 (.iload 3), e_a 28 .ireturn 0 0 0, e_i 29 3 (1), e_j 30 (.goto 0) 9 [(0,1),(0,1),(0,1),(0,1)], e_v 31 (-1), e_a 32 .ireturn 0 0 0]
abbrev n_Poly_periodOf : Nat := 89
def p_FT_code : List Ent := [e_0 0 (.iload 1), e_c 1 (.invokestatic 0) 33 1 1 [(0,0)], e_j 2 (.ifCond .eq 0) 12 [], e_0 3 (.iload 1), e_v 4 2, e_j 5 (.if_icmp .lt 0) 12 [], e_0 6 (.iload 2), e_v 7 1, e_j 8 (.if_icmp .lt 0) 12 [], e_0 9 (.iload 2), e_v 10 5, e_j 11 (.if_icmp .le 0) 14 [], e_w 12 (-1), e_0 13 .lreturn, e_0 14 (.aload 0), e_a 15 (.getfield 0) 1 2 9, e_0 16 (.iload 1), e_0 17 (.iload 2), e_c 18 (.invokevirtual 0) 91 3 2 [(0,5)], e_0 19 .lreturn]
abbrev n_FT_code : Nat := 90
def p_Tower_codePolynomial : List Ent := [e_0 0 (.aload 0), e_a 1 (.getfield 0) 1 2 5, e_0 2 (.iload 1), e_0 3 .aaload, e_c 4 (.invokevirtual 0) 54 1 1 [(0,3)], e_0 5 (.istore 3), e_w 6 1, e_0 7 (.lstore 4), e_v 8 1, e_0 9 (.istore 6), e_v 10 0, e_0 11 (.istore 7), e_0 12 (.iload 7), e_0 13 (.iload 2), e_j 14 (.if_icmp .ge 0) 49 [], e_0 15 (.iload 7), e_v 16 5, e_j 17 (.if_icmp .ge 0) 49 [], e_0 18 (.aload 0), e_a 19 (.getfield 0) 0 2 5, e_0 20 (.iload 1), e_0 21 .aaload, e_0 22 (.iload 6), e_0 23 (.iload 3), e_c 24 (.invokevirtual 0) 53 3 1 [(0,2)], e_0 25 (.istore 6), e_0 26 (.aload 0), e_a 27 (.getfield 0) 6 2 5, e_0 28 (.iload 7), e_0 29 (.aload 0), e_a 30 (.getfield 0) 0 2 5, e_0 31 (.iload 1), e_0 32 .aaload, e_0 33 (.iload 6), e_c 34 (.invokevirtual 0) 92 2 1 [(0,2)], e_0 35 .iastore, e_0 36 (.aload 0), e_0 37 (.iload 7), e_c 38 (.invokevirtual 0) 97 2 1 [(0,5)], e_j 39 (.ifCond .eq 0) 47 [], e_0 40 (.lload 4), e_0 41 (.aload 0), e_a 42 (.getfield 0) 6 2 5, e_0 43 (.iload 7), e_0 44 .iaload, e_c 45 (.invokestatic 0) 98 2 2 [(0,0)], e_0 46 (.lstore 4), e_i 47 7 (1), e_j 48 (.goto 0) 12 [(0,1),(0,1),(0,1),(0,1),(0,1),(0,0),(0,1),(0,1)], e_0 49 (.lload 4), e_0 50 .lreturn]
abbrev n_Tower_codePolynomial : Nat := 91
def p_Field_leastPolynomial : List Ent := [e_0 0 (.aload 0), e_v 1 1, e_0 2 (.iload 1), e_c 3 (.invokevirtual 0) 93 3 1 [(0,2)], e_0 4 (.istore 2), e_v 5 0, e_0 6 (.istore 3), e_v 7 0, e_0 8 (.istore 4), e_0 9 (.iload 4), e_0 10 (.iload 2), e_j 11 (.if_icmp .gt 0) 25 [], e_0 12 (.iload 3), e_0 13 (.aload 0), e_a 14 (.getfield 0) 3 2 2, e_0 15 (.iload 4), e_0 16 .iaload, e_v 17 1, e_0 18 .iand, e_0 19 (.iload 4), e_0 20 .ishl, e_0 21 .ior, e_0 22 (.istore 3), e_i 23 4 (1), e_j 24 (.goto 0) 9 [(0,1),(0,0),(0,1),(0,1),(0,1)], e_0 25 (.iload 3), e_a 26 .ireturn 0 0 0]
abbrev n_Field_leastPolynomial : Nat := 92
def p_Field_expandLeast : List Ent := [e_v 0 12, e_0 1 (.aload 0), e_0 2 (.iload 1), e_0 3 (.iload 2), e_c 4 (.invokevirtual 0) 94 3 1 [(0,2)], e_c 5 (.invokestatic 0) 96 2 1 [(0,0)], e_0 6 (.istore 3), e_0 7 (.iload 2), e_0 8 (.istore 4), e_0 9 (.aload 0), e_a 10 (.getfield 0) 3 2 2, e_v 11 0, e_v 12 1, e_0 13 .iastore, e_v 14 0, e_0 15 (.istore 5), e_0 16 (.iload 5), e_0 17 (.iload 3), e_j 18 (.if_icmp .ge 0) 71 [], e_0 19 (.aload 0), e_a 20 (.getfield 0) 3 2 2, e_0 21 (.iload 5), e_v 22 1, e_0 23 .iadd, e_0 24 (.aload 0), e_a 25 (.getfield 0) 3 2 2, e_0 26 (.iload 5), e_0 27 .iaload, e_0 28 .iastore, e_0 29 (.iload 5), e_0 30 (.istore 6), e_0 31 (.iload 6), e_j 32 (.ifCond .le 0) 53 [], e_0 33 (.aload 0), e_a 34 (.getfield 0) 3 2 2, e_0 35 (.iload 6), e_0 36 (.aload 0), e_a 37 (.getfield 0) 3 2 2, e_0 38 (.iload 6), e_v 39 1, e_0 40 .isub, e_0 41 .iaload, e_0 42 (.aload 0), e_0 43 (.aload 0), e_a 44 (.getfield 0) 3 2 2, e_0 45 (.iload 6), e_0 46 .iaload, e_0 47 (.iload 4), e_c 48 (.invokevirtual 0) 53 3 1 [(0,2)], e_0 49 .ixor, e_0 50 .iastore, e_i 51 6 (-1), e_j 52 (.goto 0) 31 [(0,1),(0,1),(0,0),(0,1),(0,1),(0,1),(0,1)], e_0 53 (.aload 0), e_a 54 (.getfield 0) 3 2 2, e_v 55 0, e_0 56 (.aload 0), e_0 57 (.aload 0), e_a 58 (.getfield 0) 3 2 2, e_v 59 0, e_0 60 .iaload, e_0 61 (.iload 4), e_c 62 (.invokevirtual 0) 53 3 1 [(0,2)], e_0 63 .iastore, e_0 64 (.aload 0), e_0 65 (.iload 4), e_0 66 (.iload 1), e_c 67 (.invokevirtual 0) 95 3 1 [(0,2)], e_0 68 (.istore 4), e_i 69 5 (1), e_j 70 (.goto 0) 16 [(0,1),(0,1),(0,0),(0,1),(0,1),(0,1),(0,0)], e_0 71 (.iload 3), e_a 72 .ireturn 0 0 0]
abbrev n_Field_expandLeast : Nat := 93
def p_Field_degreeOver : List Ent := [e_0 0 (.aload 0), e_0 1 (.iload 2), e_0 2 (.iload 1), e_c 3 (.invokevirtual 0) 95 3 1 [(0,2)], e_0 4 (.istore 3), e_v 5 1, e_0 6 (.istore 4), e_v 7 1, e_0 8 (.istore 5), e_0 9 (.iload 5), e_0 10 (.aload 0), e_a 11 (.getfield 0) 0 0 2, e_j 12 (.if_icmp .ge 0) 24 [], e_0 13 (.iload 3), e_0 14 (.iload 2), e_j 15 (.if_icmp .eq 0) 24 [], e_0 16 (.aload 0), e_0 17 (.iload 3), e_0 18 (.iload 1), e_c 19 (.invokevirtual 0) 95 3 1 [(0,2)], e_0 20 (.istore 3), e_i 21 4 (1), e_i 22 5 (1), e_j 23 (.goto 0) 9 [(0,1),(0,1),(0,1),(0,1),(0,1),(0,1)], e_0 24 (.iload 4), e_a 25 .ireturn 0 0 0]
abbrev n_Field_degreeOver : Nat := 94
def p_Field_squared : List Ent := [e_0 0 (.iload 1), e_0 1 (.istore 3), e_v 2 0, e_0 3 (.istore 4), e_0 4 (.iload 4), e_0 5 (.iload 2), e_j 6 (.if_icmp .ge 0) 14 [], e_0 7 (.aload 0), e_0 8 (.iload 3), e_0 9 (.iload 3), e_c 10 (.invokevirtual 0) 53 3 1 [(0,2)], e_0 11 (.istore 3), e_i 12 4 (1), e_j 13 (.goto 0) 4 [(0,1),(0,0),(0,1),(0,1),(0,1)], e_0 14 (.iload 3), e_a 15 .ireturn 0 0 0]
abbrev n_Field_squared : Nat := 95
def p_Math_min : List Ent := [e_0 0 (.iload 0), e_0 1 (.iload 1), e_j 2 (.if_icmp .gt 0) 5 [], e_0 3 (.iload 0), e_j 4 (.goto 0) 6 [], e_0 5 (.iload 1), e_a 6 .ireturn 0 0 0]
abbrev n_Math_min : Nat := 96
def p_Tower_isNewPart : List Ent := [e_v 0 0, e_0 1 (.istore 2), e_0 2 (.iload 2), e_0 3 (.iload 1), e_j 4 (.if_icmp .ge 0) 18 [], e_0 5 (.aload 0), e_a 6 (.getfield 0) 6 2 5, e_0 7 (.iload 2), e_0 8 .iaload, e_0 9 (.aload 0), e_a 10 (.getfield 0) 6 2 5, e_0 11 (.iload 1), e_0 12 .iaload, e_j 13 (.if_icmp .ne 0) 16 [], e_v 14 0, e_a 15 .ireturn 1 0 0, e_i 16 2 (1), e_j 17 (.goto 0) 2 [(0,1),(0,1),(0,1)], e_v 18 1, e_a 19 .ireturn 1 0 0]
abbrev n_Tower_isNewPart : Nat := 97
def p_Poly_product : List Ent := [e_w 0 0, e_0 1 (.lstore 3), e_v 2 0, e_0 3 (.istore 5), e_0 4 (.iload 5), e_v 5 12, e_j 6 (.if_icmp .gt 0) 21 [], e_0 7 (.iload 2), e_0 8 (.iload 5), e_0 9 .ishr, e_v 10 1, e_0 11 .iand, e_j 12 (.ifCond .eq 0) 19 [], e_0 13 (.lload 3), e_0 14 (.lload 0), e_0 15 (.iload 5), e_0 16 .lshl, e_0 17 .lxor, e_0 18 (.lstore 3), e_i 19 5 (1), e_j 20 (.goto 0) 4 [(0,1),(0,0),(0,1),(0,1),(0,0),(0,1)], e_0 21 (.lload 3), e_0 22 .lreturn]
abbrev n_Poly_product : Nat := 98
def p_FT_both : List Ent := [e_0 0 (.iload 1), e_0 1 (.iload 2), e_c 2 (.invokestatic 0) 84 2 1 [(0,0)], e_j 3 (.ifCond .eq 0) 8 [], e_0 4 (.iload 1), e_0 5 (.iload 3), e_c 6 (.invokestatic 0) 84 2 1 [(0,0)], e_j 7 (.ifCond .ne 0) 10 [], e_v 8 (-1), e_a 9 .ireturn 0 0 0, e_0 10 (.aload 0), e_a 11 (.getfield 0) 1 2 9, e_a 12 (.getfield 0) 0 2 5, e_0 13 (.iload 1), e_0 14 .aaload, e_0 15 (.astore 5), e_0 16 (.iload 4), e_j 17 (.lookupswitch 0 #[]) 38 [(0,18),(1,22),(2,27)], e_0 18 (.iload 2), e_0 19 (.iload 3), e_0 20 .ixor, e_a 21 .ireturn 0 0 0, e_0 22 (.aload 5), e_0 23 (.iload 2), e_0 24 (.iload 3), e_c 25 (.invokevirtual 0) 53 3 1 [(0,2)], e_a 26 .ireturn 0 0 0, e_0 27 (.iload 3), e_j 28 (.ifCond .ne 0) 31 [], e_v 29 (-2), e_j 30 (.goto 0) 37 [], e_0 31 (.aload 5), e_0 32 (.iload 2), e_0 33 (.aload 5), e_0 34 (.iload 3), e_c 35 (.invokevirtual 0) 65 2 1 [(0,2)], e_c 36 (.invokevirtual 0) 53 3 1 [(0,2)], e_a 37 .ireturn 0 0 0, e_v 38 (-1), e_a 39 .ireturn 0 0 0]
abbrev n_FT_both : Nat := 99
def p_FT_power : List Ent := [e_0 0 (.iload 1), e_0 1 (.iload 2), e_c 2 (.invokestatic 0) 84 2 1 [(0,0)], e_j 3 (.ifCond .ne 0) 6 [], e_v 4 (-1), e_a 5 .ireturn 0 0 0, e_0 6 (.aload 0), e_a 7 (.getfield 0) 1 2 9, e_a 8 (.getfield 0) 0 2 5, e_0 9 (.iload 1), e_0 10 .aaload, e_0 11 (.astore 4), e_0 12 (.iload 3), e_j 13 (.ifCond .lt 0) 20 [], e_0 14 (.aload 4), e_0 15 (.iload 2), e_0 16 (.iload 3), e_0 17 .i2l, e_c 18 (.invokevirtual 0) 56 3 1 [(0,2)], e_a 19 .ireturn 0 0 0, e_0 20 (.iload 2), e_j 21 (.ifCond .ne 0) 24 [], e_v 22 (-2), e_j 23 (.goto 0) 32 [], e_0 24 (.aload 4), e_0 25 (.aload 4), e_0 26 (.iload 2), e_c 27 (.invokevirtual 0) 65 2 1 [(0,2)], e_0 28 (.iload 3), e_0 29 .i2l, e_0 30 .lneg, e_c 31 (.invokevirtual 0) 56 3 1 [(0,2)], e_a 32 .ireturn 0 0 0]
abbrev n_FT_power : Nat := 100
def p_FT_element : List Ent := [e_0 0 (.iload 1), e_0 1 (.iload 2), e_c 2 (.invokestatic 0) 84 2 1 [(0,0)], e_j 3 (.ifCond .ne 0) 6 [], e_v 4 (-1), e_a 5 .ireturn 0 0 0, e_0 6 (.iload 3), e_j 7 (.lookupswitch 0 #[]) 123 [(0,8),(1,20),(2,31),(3,43),(4,55),(5,63),(6,55),(7,71),(8,85),(9,97),(10,105)], e_0 8 (.iload 2), e_j 9 (.ifCond .ne 0) 12 [], e_v 10 (-2), e_j 11 (.goto 0) 19 [], e_0 12 (.aload 0), e_a 13 (.getfield 0) 1 2 9, e_a 14 (.getfield 0) 0 2 5, e_0 15 (.iload 1), e_0 16 .aaload, e_0 17 (.iload 2), e_c 18 (.invokevirtual 0) 65 2 1 [(0,2)], e_a 19 .ireturn 0 0 0, e_0 20 (.aload 0), e_a 21 (.getfield 0) 1 2 9, e_a 22 (.getfield 0) 0 2 5, e_0 23 (.iload 1), e_0 24 .aaload, e_0 25 (.iload 2), e_0 26 (.iload 1), e_v 27 1, e_0 28 .isub, e_c 29 (.invokevirtual 0) 95 3 1 [(0,2)], e_a 30 .ireturn 0 0 0, e_0 31 (.iload 2), e_j 32 (.ifCond .ne 0) 35 [], e_v 33 (-2), e_j 34 (.goto 0) 42 [], e_0 35 (.aload 0), e_a 36 (.getfield 0) 1 2 9, e_a 37 (.getfield 0) 1 2 5, e_0 38 (.iload 1), e_0 39 .aaload, e_0 40 (.iload 2), e_c 41 (.invokevirtual 0) 55 2 1 [(0,3)], e_a 42 .ireturn 0 0 0, e_0 43 (.iload 2), e_j 44 (.ifCond .ne 0) 47 [], e_v 45 (-2), e_j 46 (.goto 0) 54 [], e_0 47 (.aload 0), e_a 48 (.getfield 0) 1 2 9, e_a 49 (.getfield 0) 1 2 5, e_0 50 (.iload 1), e_0 51 .aaload, e_0 52 (.iload 2), e_c 53 (.invokevirtual 0) 102 2 1 [(0,3),(0,1),(0,4096)], e_a 54 .ireturn 0 0 0, e_0 55 (.aload 0), e_a 56 (.getfield 0) 1 2 9, e_a 57 (.getfield 0) 0 2 5, e_0 58 (.iload 1), e_0 59 .aaload, e_0 60 (.iload 2), e_c 61 (.invokevirtual 0) 104 2 1 [(0,2)], e_a 62 .ireturn 0 0 0, e_0 63 (.aload 0), e_a 64 (.getfield 0) 1 2 9, e_a 65 (.getfield 0) 0 2 5, e_0 66 (.iload 1), e_0 67 .aaload, e_0 68 (.iload 2), e_c 69 (.invokevirtual 0) 105 2 1 [(0,2)], e_a 70 .ireturn 0 0 0, e_0 71 (.iload 2), e_j 72 (.ifCond .eq 0) 83 [], e_0 73 (.aload 0), e_a 74 (.getfield 0) 1 2 9, e_a 75 (.getfield 0) 1 2 5, e_0 76 (.iload 1), e_0 77 .aaload, e_0 78 (.iload 2), e_c 79 (.invokevirtual 0) 106 2 1 [(0,3)], e_j 80 (.ifCond .eq 0) 83 [], e_v 81 1, e_j 82 (.goto 0) 84 [], e_v 83 0, e_a 84 .ireturn 0 0 0, e_0 85 (.aload 0), e_a 86 (.getfield 0) 1 2 9, e_a 87 (.getfield 0) 2 2 5, e_0 88 (.iload 1), e_0 89 .aaload, e_0 90 (.iload 2), e_c 91 (.invokevirtual 0) 107 2 1 [(0,4)], e_j 92 (.ifCond .eq 0) 95 [], e_v 93 1, e_j 94 (.goto 0) 96 [], e_v 95 0, e_a 96 .ireturn 0 0 0, e_0 97 (.aload 0), e_a 98 (.getfield 0) 1 2 9, e_a 99 (.getfield 0) 2 2 5, e_0 100 (.iload 1), e_0 101 .aaload, e_0 102 (.iload 2), e_c 103 (.invokevirtual 0) 114 2 1 [(0,4)], e_a 104 .ireturn 0 0 0, e_0 105 (.aload 0), e_a 106 (.getfield 0) 1 2 9, e_a 107 (.getfield 0) 2 2 5, e_0 108 (.iload 1), e_0 109 .aaload, e_0 110 (.iload 2), e_c 111 (.invokevirtual 0) 107 2 1 [(0,4)], e_j 112 (.ifCond .eq 0) 121 [], e_0 113 (.aload 0), e_a 114 (.getfield 0) 1 2 9, e_a 115 (.getfield 0) 2 2 5, e_0 116 (.iload 1), e_0 117 .aaload, e_0 118 (.iload 2), e_c 119 (.invokevirtual 0) 117 2 1 [(0,4)], e_j 120 (.goto 0) 122 [], e_v 121 (-2), e_a 122 .ireturn 0 0 0, e_v 123 (-1), e_a 124 .ireturn 0 0 0]
abbrev n_FT_element : Nat := 101
def p_Cycle_logarithmOf : List Ent := [e_0 0 (.aload 0), e_a 1 (.getfield 0) 3 0 3, e_j 2 (.ifCond .ne 0) 5 [], e_0 3 (.aload 0), e_c 4 (.invokevirtual 0) 103 1 0 [(0,3),(0,1),(0,4096)], e_0 5 (.aload 0), e_a 6 (.getfield 0) 4 2 3, e_j 7 (.ifnull 0) 20 [], e_0 8 (.iload 1), e_j 9 (.ifCond .le 0) 20 [], e_0 10 (.iload 1), e_0 11 (.aload 0), e_a 12 (.getfield 0) 4 2 3, e_0 13 .arraylength, e_j 14 (.if_icmp .ge 0) 20 [], e_0 15 (.aload 0), e_a 16 (.getfield 0) 4 2 3, e_0 17 (.iload 1), e_0 18 .iaload, e_j 19 (.goto 0) 21 [], e_v 20 (-1), e_a 21 .ireturn 0 0 0]
abbrev n_Cycle_logarithmOf : Nat := 102
def p_Cycle_listLogarithms : List Ent := [e_0 0 (.aload 0), e_a 1 (.getfield 0) 4 2 3, e_j 2 (.ifnonnull 0) 10 [], e_0 3 (.aload 0), e_0 4 (.aload 0), e_a 5 (.getfield 0) 1 0 3, e_v 6 1, e_0 7 .iadd, e_a 8 (.newarray .int) 20 4096 0, e_a 9 (.putfield 0) 4 2 3, e_0 10 (.aload 0), e_c 11 (.invokevirtual 0) 54 1 1 [(0,3)], e_0 12 (.istore 1), e_v 13 1, e_0 14 (.istore 2), e_v 15 0, e_0 16 (.istore 3), e_0 17 (.iload 3), e_0 18 (.aload 0), e_a 19 (.getfield 0) 1 0 3, e_j 20 (.if_icmp .ge 0) 34 [], e_0 21 (.aload 0), e_a 22 (.getfield 0) 4 2 3, e_0 23 (.iload 2), e_0 24 (.iload 3), e_0 25 .iastore, e_0 26 (.aload 0), e_a 27 (.getfield 0) 0 2 3, e_0 28 (.iload 2), e_0 29 (.iload 1), e_c 30 (.invokevirtual 0) 53 3 1 [(0,2)], e_0 31 (.istore 2), e_i 32 3 (1), e_j 33 (.goto 0) 17 [(0,1),(0,1),(0,1),(0,1)], e_0 34 (.aload 0), e_v 35 1, e_a 36 (.putfield 0) 3 3 3, e_0 37 .return_]
abbrev n_Cycle_listLogarithms : Nat := 103
def p_Field_degreeOf : List Ent := [e_0 0 (.aload 0), e_v 1 1, e_0 2 (.iload 1), e_c 3 (.invokevirtual 0) 94 3 1 [(0,2)], e_a 4 .ireturn 0 0 0]
abbrev n_Field_degreeOf : Nat := 104
def p_Field_leastConjugate : List Ent := [e_0 0 (.iload 1), e_0 1 (.istore 2), e_0 2 (.iload 1), e_0 3 (.istore 3), e_v 4 1, e_0 5 (.istore 4), e_0 6 (.iload 4), e_0 7 (.aload 0), e_a 8 (.getfield 0) 0 0 2, e_j 9 (.if_icmp .ge 0) 21 [], e_0 10 (.aload 0), e_0 11 (.iload 3), e_0 12 (.iload 3), e_c 13 (.invokevirtual 0) 53 3 1 [(0,2)], e_0 14 (.istore 3), e_0 15 (.iload 2), e_0 16 (.iload 3), e_c 17 (.invokestatic 0) 96 2 1 [(0,0)], e_0 18 (.istore 2), e_i 19 4 (1), e_j 20 (.goto 0) 6 [(0,1),(0,0),(0,1),(0,1),(0,1)], e_0 21 (.iload 2), e_a 22 .ireturn 0 0 0]
abbrev n_Field_leastConjugate : Nat := 105
def p_Cycle_isPrimitive : List Ent := [e_0 0 (.aload 0), e_0 1 (.iload 1), e_c 2 (.invokevirtual 0) 55 2 1 [(0,3)], e_0 3 (.aload 0), e_a 4 (.getfield 0) 1 0 3, e_j 5 (.if_icmp .ne 0) 8 [], e_v 6 1, e_j 7 (.goto 0) 9 [], e_v 8 0, e_a 9 .ireturn 1 0 0]
abbrev n_Cycle_isPrimitive : Nat := 106
def p_Space_isNormal : List Ent := [e_0 0 (.aload 0), e_0 1 (.iload 1), e_c 2 (.invokevirtual 0) 108 2 1 [(0,4)], e_j 3 (.ifCond .eq 0) 10 [], e_0 4 (.aload 0), e_0 5 (.iload 1), e_c 6 (.invokevirtual 0) 111 2 1 [(0,4)], e_j 7 (.ifCond .eq 0) 10 [], e_v 8 1, e_j 9 (.goto 0) 11 [], e_v 10 0, e_a 11 .ireturn 1 0 0]
abbrev n_Space_isNormal : Nat := 107
def p_Space_traceOf : List Ent := [e_0 0 (.aload 0), e_a 1 (.getfield 0) 2 0 4, e_j 2 (.ifCond .ne 0) 28 [], e_v 3 0, e_0 4 (.istore 2), e_0 5 (.iload 2), e_0 6 (.aload 0), e_a 7 (.getfield 0) 0 2 4, e_a 8 (.getfield 0) 0 0 2, e_j 9 (.if_icmp .ge 0) 28 [], e_0 10 (.aload 0), e_0 11 .dup, e_a 12 (.getfield 0) 2 0 4, e_0 13 (.aload 0), e_a 14 (.getfield 0) 0 2 4, e_v 15 1, e_v 16 1, e_0 17 (.iload 2), e_0 18 .ishl, e_c 19 (.invokevirtual 0) 109 3 1 [(0,2)], e_v 20 1, e_0 21 .iand, e_0 22 (.iload 2), e_0 23 .ishl, e_0 24 .ior, e_a 25 (.putfield 0) 2 0 4, e_i 26 2 (1), e_j 27 (.goto 0) 5 [(0,1),(0,1),(0,1)], e_0 28 (.aload 0), e_a 29 (.getfield 0) 2 0 4, e_0 30 (.iload 1), e_0 31 .iand, e_c 32 (.invokestatic 0) 110 1 1 [(0,0)], e_v 33 1, e_0 34 .iand, e_a 35 .ireturn 0 0 0]
abbrev n_Space_traceOf : Nat := 108
def p_Field_traceTo : List Ent := [e_v 0 0, e_0 1 (.istore 3), e_0 2 (.iload 2), e_0 3 (.istore 4), e_v 4 0, e_0 5 (.istore 5), e_0 6 (.iload 5), e_0 7 (.aload 0), e_a 8 (.getfield 0) 0 0 2, e_j 9 (.if_icmp .ge 0) 26 [], e_0 10 (.iload 1), e_j 11 (.ifCond .le 0) 26 [], e_0 12 (.iload 3), e_0 13 (.iload 4), e_0 14 .ixor, e_0 15 (.istore 3), e_0 16 (.aload 0), e_0 17 (.iload 4), e_0 18 (.iload 1), e_c 19 (.invokevirtual 0) 95 3 1 [(0,2)], e_0 20 (.istore 4), e_0 21 (.iload 5), e_0 22 (.iload 1), e_0 23 .iadd, e_0 24 (.istore 5), e_j 25 (.goto 0) 6 [(0,1),(0,1),(0,0),(0,1),(0,1),(0,1)], e_0 26 (.iload 3), e_a 27 .ireturn 0 0 0]
abbrev n_Field_traceTo : Nat := 109
def p_Intg_bitCount : List Ent := [e_0 0 (.iload 0), e_0 1 (.iload 0), e_v 2 1, e_0 3 .iushr, e_v 4 1431655765, e_0 5 .iand, e_0 6 .isub, e_0 7 (.istore 0), e_0 8 (.iload 0), e_v 9 858993459, e_0 10 .iand, e_0 11 (.iload 0), e_v 12 2, e_0 13 .iushr, e_v 14 858993459, e_0 15 .iand, e_0 16 .iadd, e_0 17 (.istore 0), e_0 18 (.iload 0), e_0 19 (.iload 0), e_v 20 4, e_0 21 .iushr, e_0 22 .iadd, e_v 23 252645135, e_0 24 .iand, e_0 25 (.istore 0), e_0 26 (.iload 0), e_0 27 (.iload 0), e_v 28 8, e_0 29 .iushr, e_0 30 .iadd, e_0 31 (.istore 0), e_0 32 (.iload 0), e_0 33 (.iload 0), e_v 34 16, e_0 35 .iushr, e_0 36 .iadd, e_0 37 (.istore 0), e_0 38 (.iload 0), e_v 39 63, e_0 40 .iand, e_a 41 .ireturn 0 0 0]
abbrev n_Intg_bitCount : Nat := 110
def p_Space_spanConjugates : List Ent := [e_0 0 (.aload 0), e_a 1 (.getfield 0) 1 2 4, e_c 2 (.invokevirtual 0) 112 1 0 [(0,1)], e_0 3 (.iload 1), e_0 4 (.istore 2), e_v 5 1, e_0 6 (.istore 3), e_v 7 0, e_0 8 (.istore 4), e_0 9 (.iload 4), e_0 10 (.aload 0), e_a 11 (.getfield 0) 0 2 4, e_a 12 (.getfield 0) 0 0 2, e_j 13 (.if_icmp .ge 0) 29 [], e_0 14 (.iload 3), e_0 15 (.aload 0), e_a 16 (.getfield 0) 1 2 4, e_0 17 (.iload 2), e_c 18 (.invokevirtual 0) 113 2 1 [(0,1)], e_0 19 .iand, e_0 20 (.istore 3), e_0 21 (.aload 0), e_a 22 (.getfield 0) 0 2 4, e_0 23 (.iload 2), e_0 24 (.iload 2), e_c 25 (.invokevirtual 0) 53 3 1 [(0,2)], e_0 26 (.istore 2), e_i 27 4 (1), e_j 28 (.goto 0) 9 [(0,1),(0,0),(0,1),(0,1),(0,1)], e_0 29 (.iload 3), e_a 30 .ireturn 1 0 0]
abbrev n_Space_spanConjugates : Nat := 111
def p_Span_clear : List Ent := [e_v 0 0, e_0 1 (.istore 1), e_0 2 (.iload 1), e_v 3 12, e_j 4 (.if_icmp .ge 0) 17 [], e_0 5 (.aload 0), e_a 6 (.getfield 0) 0 2 1, e_0 7 (.iload 1), e_v 8 0, e_0 9 .iastore, e_0 10 (.aload 0), e_a 11 (.getfield 0) 1 2 1, e_0 12 (.iload 1), e_v 13 0, e_0 14 .iastore, e_i 15 1 (1), e_j 16 (.goto 0) 2 [(0,1),(0,1)], e_0 17 (.aload 0), e_v 18 0, e_a 19 (.putfield 0) 2 0 1, e_0 20 .return_]
abbrev n_Span_clear : Nat := 112
def p_Span_add : List Ent := [e_0 0 (.iload 1), e_0 1 (.istore 2), e_v 2 1, e_0 3 (.aload 0), e_a 4 (.getfield 0) 2 0 1, e_0 5 .ishl, e_0 6 (.istore 3), e_0 7 (.aload 0), e_0 8 .dup, e_a 9 (.getfield 0) 2 0 1, e_v 10 1, e_0 11 .iadd, e_a 12 (.putfield 0) 2 0 1, e_v 13 11, e_0 14 (.istore 4), e_0 15 (.iload 4), e_j 16 (.ifCond .lt 0) 57 [], e_0 17 (.iload 2), e_0 18 (.iload 4), e_0 19 .ishr, e_v 20 1, e_0 21 .iand, e_j 22 (.ifCond .ne 0) 24 [], e_j 23 (.goto 0) 55 [], e_0 24 (.aload 0), e_a 25 (.getfield 0) 0 2 1, e_0 26 (.iload 4), e_0 27 .iaload, e_j 28 (.ifCond .ne 0) 41 [], e_0 29 (.aload 0), e_a 30 (.getfield 0) 0 2 1, e_0 31 (.iload 4), e_0 32 (.iload 2), e_0 33 .iastore, e_0 34 (.aload 0), e_a 35 (.getfield 0) 1 2 1, e_0 36 (.iload 4), e_0 37 (.iload 3), e_0 38 .iastore, e_v 39 1, e_a 40 .ireturn 1 0 0, e_0 41 (.iload 2), e_0 42 (.aload 0), e_a 43 (.getfield 0) 0 2 1, e_0 44 (.iload 4), e_0 45 .iaload, e_0 46 .ixor, e_0 47 (.istore 2), e_0 48 (.iload 3), e_0 49 (.aload 0), e_a 50 (.getfield 0) 1 2 1, e_0 51 (.iload 4), e_0 52 .iaload, e_0 53 .ixor, e_0 54 (.istore 3), e_i 55 4 (-1), e_j 56 (.goto 0) 15 [(0,1),(0,0),(0,1),(0,1),(0,1)], e_v 57 0, e_a 58 .ireturn 1 0 0]
abbrev n_Span_add : Nat := 113
def p_Space_coordinatesOf : List Ent := [e_0 0 (.aload 0), e_0 1 (.aload 0), e_c 2 (.invokevirtual 0) 115 1 1 [(0,4)], e_c 3 (.invokevirtual 0) 111 2 1 [(0,4)], e_0 4 .pop, e_0 5 (.aload 0), e_a 6 (.getfield 0) 1 2 4, e_0 7 (.iload 1), e_c 8 (.invokevirtual 0) 116 2 1 [(0,1)], e_a 9 .ireturn 0 0 0]
abbrev n_Space_coordinatesOf : Nat := 114
def p_Space_leastNormal : List Ent := [e_v 0 1, e_0 1 (.istore 1), e_0 2 (.iload 1), e_0 3 (.aload 0), e_a 4 (.getfield 0) 0 2 4, e_a 5 (.getfield 0) 1 0 2, e_j 6 (.if_icmp .ge 0) 19 [], e_0 7 (.aload 0), e_a 8 (.getfield 0) 3 0 4, e_j 9 (.ifCond .ne 0) 19 [], e_0 10 (.aload 0), e_0 11 (.iload 1), e_c 12 (.invokevirtual 0) 107 2 1 [(0,4)], e_j 13 (.ifCond .eq 0) 17 [], e_0 14 (.aload 0), e_0 15 (.iload 1), e_a 16 (.putfield 0) 3 0 4, e_i 17 1 (1), e_j 18 (.goto 0) 2 [(0,1),(0,1)], e_0 19 (.aload 0), e_a 20 (.getfield 0) 3 0 4, e_a 21 .ireturn 0 0 0]
abbrev n_Space_leastNormal : Nat := 115
def p_Span_express : List Ent := [e_0 0 (.iload 1), e_0 1 (.istore 2), e_v 2 0, e_0 3 (.istore 3), e_v 4 11, e_0 5 (.istore 4), e_0 6 (.iload 4), e_j 7 (.ifCond .lt 0) 38 [], e_0 8 (.iload 2), e_0 9 (.iload 4), e_0 10 .ishr, e_v 11 1, e_0 12 .iand, e_j 13 (.ifCond .ne 0) 15 [], e_j 14 (.goto 0) 36 [], e_0 15 (.aload 0), e_a 16 (.getfield 0) 0 2 1, e_0 17 (.iload 4), e_0 18 .iaload, e_j 19 (.ifCond .ne 0) 22 [], e_v 20 (-1), e_a 21 .ireturn 0 0 0, e_0 22 (.iload 2), e_0 23 (.aload 0), e_a 24 (.getfield 0) 0 2 1, e_0 25 (.iload 4), e_0 26 .iaload, e_0 27 .ixor, e_0 28 (.istore 2), e_0 29 (.iload 3), e_0 30 (.aload 0), e_a 31 (.getfield 0) 1 2 1, e_0 32 (.iload 4), e_0 33 .iaload, e_0 34 .ixor, e_0 35 (.istore 3), e_i 36 4 (-1), e_j 37 (.goto 0) 6 [(0,1),(0,0),(0,1),(0,1),(0,1)], e_0 38 (.iload 3), e_a 39 .ireturn 0 0 0]
abbrev n_Span_express : Nat := 116
def p_Space_dualOf : List Ent := [e_0 0 (.aload 0), e_a 1 (.getfield 0) 1 2 4, e_c 2 (.invokevirtual 0) 112 1 0 [(0,1)], e_v 3 0, e_0 4 (.istore 2), e_0 5 (.iload 2), e_0 6 (.aload 0), e_a 7 (.getfield 0) 0 2 4, e_a 8 (.getfield 0) 0 0 2, e_j 9 (.if_icmp .ge 0) 22 [], e_0 10 (.aload 0), e_a 11 (.getfield 0) 1 2 4, e_0 12 (.aload 0), e_v 13 1, e_0 14 (.iload 2), e_0 15 .ishl, e_0 16 (.iload 1), e_c 17 (.invokevirtual 0) 118 3 1 [(0,4)], e_c 18 (.invokevirtual 0) 113 2 1 [(0,1)], e_0 19 .pop, e_i 20 2 (1), e_j 21 (.goto 0) 5 [(0,1),(0,1),(0,1)], e_0 22 (.aload 0), e_a 23 (.getfield 0) 1 2 4, e_v 24 1, e_c 25 (.invokevirtual 0) 116 2 1 [(0,1)], e_a 26 .ireturn 0 0 0]
abbrev n_Space_dualOf : Nat := 117
def p_Space_tracesWith : List Ent := [e_v 0 0, e_0 1 (.istore 3), e_0 2 (.iload 2), e_0 3 (.istore 4), e_v 4 0, e_0 5 (.istore 5), e_0 6 (.iload 5), e_0 7 (.aload 0), e_a 8 (.getfield 0) 0 2 4, e_a 9 (.getfield 0) 0 0 2, e_j 10 (.if_icmp .ge 0) 31 [], e_0 11 (.iload 3), e_0 12 (.aload 0), e_0 13 (.aload 0), e_a 14 (.getfield 0) 0 2 4, e_0 15 (.iload 1), e_0 16 (.iload 4), e_c 17 (.invokevirtual 0) 53 3 1 [(0,2)], e_c 18 (.invokevirtual 0) 108 2 1 [(0,4)], e_0 19 (.iload 5), e_0 20 .ishl, e_0 21 .ior, e_0 22 (.istore 3), e_0 23 (.aload 0), e_a 24 (.getfield 0) 0 2 4, e_0 25 (.iload 4), e_0 26 (.iload 4), e_c 27 (.invokevirtual 0) 53 3 1 [(0,2)], e_0 28 (.istore 4), e_i 29 5 (1), e_j 30 (.goto 0) 6 [(0,1),(0,1),(0,0),(0,1),(0,1),(0,1)], e_0 31 (.iload 3), e_a 32 .ireturn 0 0 0]
abbrev n_Space_tracesWith : Nat := 118
def p_FT_solve : List Ent := [e_0 0 (.iload 1), e_0 1 (.iload 2), e_c 2 (.invokestatic 0) 84 2 1 [(0,0)], e_j 3 (.ifCond .eq 0) 13 [], e_0 4 (.iload 1), e_0 5 (.iload 3), e_c 6 (.invokestatic 0) 84 2 1 [(0,0)], e_j 7 (.ifCond .eq 0) 13 [], e_0 8 (.iload 4), e_j 9 (.ifCond .lt 0) 13 [], e_0 10 (.iload 4), e_v 11 1, e_j 12 (.if_icmp .le 0) 15 [], e_v 13 (-1), e_a 14 .ireturn 0 0 0, e_0 15 (.aload 0), e_a 16 (.getfield 0) 1 2 9, e_a 17 (.getfield 0) 2 2 5, e_0 18 (.iload 1), e_0 19 .aaload, e_0 20 (.iload 2), e_0 21 (.iload 3), e_c 22 (.invokevirtual 0) 120 3 1 [(0,4)], e_0 23 (.istore 5), e_0 24 (.iload 5), e_v 25 (-1), e_j 26 (.if_icmp .ne 0) 33 [], e_0 27 (.iload 4), e_j 28 (.ifCond .ne 0) 31 [], e_v 29 0, e_j 30 (.goto 0) 32 [], e_v 31 (-2), e_a 32 .ireturn 0 0 0, e_0 33 (.iload 4), e_j 34 (.ifCond .ne 0) 41 [], e_0 35 (.iload 2), e_j 36 (.ifCond .ne 0) 39 [], e_v 37 1, e_j 38 (.goto 0) 40 [], e_v 39 2, e_a 40 .ireturn 0 0 0, e_0 41 (.iload 5), e_0 42 (.iload 5), e_0 43 (.iload 2), e_0 44 .ixor, e_c 45 (.invokestatic 0) 96 2 1 [(0,0)], e_a 46 .ireturn 0 0 0]
abbrev n_FT_solve : Nat := 119
def p_Space_solveSquare : List Ent := [e_0 0 (.aload 0), e_a 1 (.getfield 0) 1 2 4, e_c 2 (.invokevirtual 0) 112 1 0 [(0,1)], e_v 3 0, e_0 4 (.istore 3), e_0 5 (.iload 3), e_0 6 (.aload 0), e_a 7 (.getfield 0) 0 2 4, e_a 8 (.getfield 0) 0 0 2, e_j 9 (.if_icmp .ge 0) 27 [], e_0 10 (.aload 0), e_a 11 (.getfield 0) 1 2 4, e_0 12 (.aload 0), e_a 13 (.getfield 0) 0 2 4, e_v 14 1, e_0 15 (.iload 3), e_0 16 .ishl, e_v 17 1, e_0 18 (.iload 3), e_0 19 .ishl, e_0 20 (.iload 1), e_0 21 .ixor, e_c 22 (.invokevirtual 0) 53 3 1 [(0,2)], e_c 23 (.invokevirtual 0) 113 2 1 [(0,1)], e_0 24 .pop, e_i 25 3 (1), e_j 26 (.goto 0) 5 [(0,1),(0,1),(0,1),(0,1)], e_0 27 (.aload 0), e_a 28 (.getfield 0) 1 2 4, e_0 29 (.iload 2), e_c 30 (.invokevirtual 0) 116 2 1 [(0,1)], e_a 31 .ireturn 0 0 0]
abbrev n_Space_solveSquare : Nat := 120
def p_FT_roots : List Ent := [e_0 0 (.iload 1), e_0 1 (.iload 2), e_c 2 (.invokestatic 0) 84 2 1 [(0,0)], e_j 3 (.ifCond .eq 0) 15 [], e_0 4 (.iload 3), e_v 5 1, e_j 6 (.if_icmp .lt 0) 15 [], e_0 7 (.iload 3), e_v 8 9999, e_j 9 (.if_icmp .gt 0) 15 [], e_0 10 (.iload 4), e_j 11 (.ifCond .lt 0) 15 [], e_0 12 (.iload 4), e_v 13 1, e_j 14 (.if_icmp .le 0) 17 [], e_v 15 (-1), e_a 16 .ireturn 0 0 0, e_0 17 (.iload 2), e_j 18 (.ifCond .ne 0) 25 [], e_0 19 (.iload 4), e_j 20 (.ifCond .ne 0) 23 [], e_v 21 1, e_j 22 (.goto 0) 24 [], e_v 23 0, e_a 24 .ireturn 0 0 0, e_0 25 (.aload 0), e_a 26 (.getfield 0) 1 2 9, e_a 27 (.getfield 0) 1 2 5, e_0 28 (.iload 1), e_0 29 .aaload, e_0 30 (.iload 2), e_0 31 (.iload 3), e_c 32 (.invokevirtual 0) 122 3 1 [(0,3),(0,1),(0,4096)], e_0 33 (.istore 5), e_0 34 (.iload 4), e_j 35 (.ifCond .ne 0) 38 [], e_0 36 (.iload 5), e_a 37 .ireturn 0 0 0, e_0 38 (.iload 5), e_j 39 (.ifCond .ne 0) 42 [], e_v 40 (-2), e_j 41 (.goto 0) 50 [], e_0 42 (.aload 0), e_a 43 (.getfield 0) 1 2 9, e_a 44 (.getfield 0) 1 2 5, e_0 45 (.iload 1), e_0 46 .aaload, e_0 47 (.iload 2), e_0 48 (.iload 3), e_c 49 (.invokevirtual 0) 123 3 1 [(0,3),(0,1),(0,4096)], e_a 50 .ireturn 0 0 0]
abbrev n_FT_roots : Nat := 121
def p_Cycle_rootCount : List Ent := [e_0 0 (.iload 2), e_0 1 (.aload 0), e_a 2 (.getfield 0) 1 0 3, e_c 3 (.invokestatic 0) 59 2 1 [(0,0)], e_0 4 (.istore 3), e_0 5 (.iload 3), e_0 6 (.aload 0), e_0 7 (.iload 1), e_c 8 (.invokevirtual 0) 102 2 1 [(0,3),(0,1),(0,4096)], e_c 9 (.invokestatic 0) 41 2 1 [(0,0)], e_j 10 (.ifCond .eq 0) 13 [], e_0 11 (.iload 3), e_j 12 (.goto 0) 14 [], e_v 13 0, e_a 14 .ireturn 0 0 0]
abbrev n_Cycle_rootCount : Nat := 122
def p_Cycle_leastRoot : List Ent := [e_0 0 (.iload 2), e_0 1 (.aload 0), e_a 2 (.getfield 0) 1 0 3, e_c 3 (.invokestatic 0) 59 2 1 [(0,0)], e_0 4 (.istore 3), e_0 5 (.iload 3), e_v 6 1, e_j 7 (.if_icmp .ge 0) 10 [], e_v 8 (-1), e_a 9 .ireturn 0 0 0, e_0 10 (.aload 0), e_a 11 (.getfield 0) 0 2 3, e_0 12 (.aload 0), e_c 13 (.invokevirtual 0) 54 1 1 [(0,3)], e_0 14 (.aload 0), e_0 15 (.aload 0), e_0 16 (.iload 1), e_c 17 (.invokevirtual 0) 102 2 1 [(0,3),(0,1),(0,4096)], e_0 18 (.iload 2), e_c 19 (.invokevirtual 0) 124 3 1 [(0,3)], e_0 20 .i2l, e_c 21 (.invokevirtual 0) 56 3 1 [(0,2)], e_0 22 (.istore 4), e_0 23 (.aload 0), e_a 24 (.getfield 0) 0 2 3, e_0 25 (.aload 0), e_c 26 (.invokevirtual 0) 54 1 1 [(0,3)], e_0 27 (.aload 0), e_a 28 (.getfield 0) 1 0 3, e_0 29 (.iload 3), e_0 30 .idiv, e_0 31 .i2l, e_c 32 (.invokevirtual 0) 56 3 1 [(0,2)], e_0 33 (.istore 5), e_0 34 (.iload 4), e_0 35 (.istore 6), e_v 36 1, e_0 37 (.istore 7), e_0 38 (.iload 7), e_0 39 (.iload 3), e_j 40 (.if_icmp .ge 0) 53 [], e_0 41 (.aload 0), e_a 42 (.getfield 0) 0 2 3, e_0 43 (.iload 4), e_0 44 (.iload 5), e_c 45 (.invokevirtual 0) 53 3 1 [(0,2)], e_0 46 (.istore 4), e_0 47 (.iload 6), e_0 48 (.iload 4), e_c 49 (.invokestatic 0) 96 2 1 [(0,0)], e_0 50 (.istore 6), e_i 51 7 (1), e_j 52 (.goto 0) 38 [(0,1),(0,0),(0,0),(0,1),(0,1),(0,1),(0,1),(0,1)], e_0 53 (.iload 6), e_a 54 .ireturn 0 0 0]
abbrev n_Cycle_leastRoot : Nat := 123
def p_Cycle_rootLogarithm : List Ent := [e_0 0 (.aload 0), e_a 1 (.getfield 0) 1 0 3, e_j 2 (.ifCond .le 0) 8 [], e_0 3 (.iload 2), e_0 4 (.aload 0), e_a 5 (.getfield 0) 1 0 3, e_0 6 .irem, e_j 7 (.goto 0) 9 [], e_v 8 0, e_0 9 (.istore 3), e_v 10 0, e_0 11 (.istore 4), e_v 12 0, e_0 13 (.istore 5), e_0 14 (.iload 5), e_0 15 (.aload 0), e_a 16 (.getfield 0) 1 0 3, e_j 17 (.if_icmp .ge 0) 38 [], e_0 18 (.iload 4), e_0 19 (.iload 1), e_j 20 (.if_icmp .ne 0) 23 [], e_0 21 (.iload 5), e_a 22 .ireturn 0 0 0, e_0 23 (.iload 4), e_0 24 (.iload 3), e_0 25 .iadd, e_0 26 (.istore 4), e_0 27 (.iload 4), e_0 28 (.aload 0), e_a 29 (.getfield 0) 1 0 3, e_j 30 (.if_icmp .lt 0) 36 [], e_0 31 (.iload 4), e_0 32 (.aload 0), e_a 33 (.getfield 0) 1 0 3, e_0 34 .isub, e_0 35 (.istore 4), e_i 36 5 (1), e_j 37 (.goto 0) 14 [(0,1),(0,1),(0,0),(0,1),(0,1),(0,1)], e_v 38 0, e_a 39 .ireturn 0 0 0]
abbrev n_Cycle_rootLogarithm : Nat := 124
def p_FT_coset : List Ent := [e_0 0 (.iload 1), e_c 1 (.invokestatic 0) 33 1 1 [(0,0)], e_j 2 (.ifCond .eq 0) 17 [], e_0 3 (.iload 2), e_j 4 (.ifCond .lt 0) 17 [], e_0 5 (.iload 2), e_v 6 1, e_0 7 (.iload 1), e_0 8 .ishl, e_v 9 2, e_0 10 .isub, e_j 11 (.if_icmp .gt 0) 17 [], e_0 12 (.iload 3), e_j 13 (.ifCond .lt 0) 17 [], e_0 14 (.iload 3), e_v 15 1, e_j 16 (.if_icmp .le 0) 19 [], e_v 17 (-1), e_a 18 .ireturn 0 0 0, e_v 19 1, e_0 20 (.iload 1), e_0 21 .ishl, e_v 22 1, e_0 23 .isub, e_0 24 (.istore 4), e_0 25 (.iload 2), e_0 26 (.istore 5), e_v 27 1, e_0 28 (.istore 6), e_0 29 (.iload 2), e_0 30 (.iload 4), e_c 31 (.invokestatic 0) 126 2 1 [(0,0)], e_0 32 (.istore 7), e_v 33 1, e_0 34 (.istore 8), e_0 35 (.iload 8), e_0 36 (.iload 1), e_j 37 (.if_icmp .ge 0) 52 [], e_0 38 (.iload 7), e_0 39 (.iload 2), e_j 40 (.if_icmp .eq 0) 52 [], e_0 41 (.iload 5), e_0 42 (.iload 7), e_c 43 (.invokestatic 0) 96 2 1 [(0,0)], e_0 44 (.istore 5), e_i 45 6 (1), e_0 46 (.iload 7), e_0 47 (.iload 4), e_c 48 (.invokestatic 0) 126 2 1 [(0,0)], e_0 49 (.istore 7), e_i 50 8 (1), e_j 51 (.goto 0) 35 [(0,0),(0,1),(0,1),(0,1),(0,1),(0,1),(0,1),(0,1),(0,1)], e_0 52 (.iload 3), e_j 53 (.ifCond .ne 0) 56 [], e_0 54 (.iload 5), e_j 55 (.goto 0) 57 [], e_0 56 (.iload 6), e_a 57 .ireturn 0 0 0]
abbrev n_FT_coset : Nat := 125
def p_FT_doubled : List Ent := [e_v 0 2, e_0 1 (.iload 0), e_0 2 .imul, e_0 3 (.iload 1), e_j 4 (.if_icmp .ge 0) 9 [], e_v 5 2, e_0 6 (.iload 0), e_0 7 .imul, e_j 8 (.goto 0) 14 [], e_v 9 2, e_0 10 (.iload 0), e_0 11 .imul, e_0 12 (.iload 1), e_0 13 .isub, e_a 14 .ireturn 0 0 0]
abbrev n_FT_doubled : Nat := 126
def p_FT_raise : List Ent := [e_0 0 (.iload 2), e_c 1 (.invokestatic 0) 33 1 1 [(0,0)], e_j 2 (.ifCond .eq 0) 7 [], e_0 3 (.iload 1), e_0 4 (.iload 3), e_c 5 (.invokestatic 0) 84 2 1 [(0,0)], e_j 6 (.ifCond .ne 0) 9 [], e_v 7 (-1), e_a 8 .ireturn 0 0 0, e_0 9 (.iload 1), e_0 10 (.iload 2), e_c 11 (.invokestatic 0) 41 2 1 [(0,0)], e_j 12 (.ifCond .ne 0) 15 [], e_v 13 (-2), e_a 14 .ireturn 0 0 0, e_0 15 (.aload 0), e_a 16 (.getfield 0) 1 2 9, e_0 17 (.iload 2), e_c 18 (.invokevirtual 0) 48 2 0 [(0,5)], e_0 19 (.aload 0), e_a 20 (.getfield 0) 1 2 9, e_0 21 (.iload 1), e_0 22 (.iload 2), e_0 23 (.iload 3), e_c 24 (.invokevirtual 0) 63 4 1 [(0,5)], e_a 25 .ireturn 0 0 0]
abbrev n_FT_raise : Nat := 127
def p_FT_lower : List Ent := [e_0 0 (.iload 2), e_c 1 (.invokestatic 0) 33 1 1 [(0,0)], e_j 2 (.ifCond .eq 0) 7 [], e_0 3 (.iload 1), e_0 4 (.iload 3), e_c 5 (.invokestatic 0) 84 2 1 [(0,0)], e_j 6 (.ifCond .ne 0) 9 [], e_v 7 (-1), e_a 8 .ireturn 0 0 0, e_0 9 (.iload 2), e_0 10 (.iload 1), e_c 11 (.invokestatic 0) 41 2 1 [(0,0)], e_j 12 (.ifCond .ne 0) 15 [], e_v 13 (-2), e_a 14 .ireturn 0 0 0, e_0 15 (.aload 0), e_a 16 (.getfield 0) 1 2 9, e_0 17 (.iload 1), e_c 18 (.invokevirtual 0) 48 2 0 [(0,5)], e_0 19 (.aload 0), e_a 20 (.getfield 0) 1 2 9, e_0 21 (.iload 1), e_0 22 (.iload 2), e_0 23 (.iload 3), e_c 24 (.invokevirtual 0) 129 4 1 [(0,5)], e_a 25 .ireturn 0 0 0]
abbrev n_FT_lower : Nat := 128
def p_Tower_lowered : List Ent := [e_0 0 (.aload 0), e_a 1 (.getfield 0) 3 2 5, e_c 2 (.invokevirtual 0) 112 1 0 [(0,1)], e_v 3 1, e_0 4 (.istore 4), e_v 5 0, e_0 6 (.istore 5), e_0 7 (.iload 5), e_0 8 (.iload 2), e_j 9 (.if_icmp .ge 0) 30 [], e_0 10 (.aload 0), e_a 11 (.getfield 0) 3 2 5, e_0 12 (.iload 4), e_c 13 (.invokevirtual 0) 113 2 1 [(0,1)], e_0 14 .pop, e_0 15 (.aload 0), e_a 16 (.getfield 0) 0 2 5, e_0 17 (.iload 1), e_0 18 .aaload, e_0 19 (.iload 4), e_0 20 (.aload 0), e_a 21 (.getfield 0) 4 2 5, e_0 22 (.iload 1), e_0 23 .aaload, e_0 24 (.iload 2), e_0 25 .iaload, e_c 26 (.invokevirtual 0) 53 3 1 [(0,2)], e_0 27 (.istore 4), e_i 28 5 (1), e_j 29 (.goto 0) 7 [(0,1),(0,1),(0,1),(0,1),(0,1),(0,1)], e_0 30 (.aload 0), e_a 31 (.getfield 0) 3 2 5, e_0 32 (.iload 3), e_c 33 (.invokevirtual 0) 116 2 1 [(0,1)], e_0 34 (.istore 5), e_0 35 (.iload 5), e_v 36 (-1), e_j 37 (.if_icmp .ne 0) 40 [], e_v 38 (-2), e_j 39 (.goto 0) 41 [], e_0 40 (.iload 5), e_a 41 .ireturn 0 0 0]
abbrev n_Tower_lowered : Nat := 129
def p_FT_down : List Ent := [e_0 0 (.iload 2), e_c 1 (.invokestatic 0) 33 1 1 [(0,0)], e_j 2 (.ifCond .eq 0) 7 [], e_0 3 (.iload 1), e_0 4 (.iload 3), e_c 5 (.invokestatic 0) 84 2 1 [(0,0)], e_j 6 (.ifCond .ne 0) 9 [], e_v 7 (-1), e_a 8 .ireturn 0 0 0, e_0 9 (.iload 2), e_0 10 (.iload 1), e_c 11 (.invokestatic 0) 41 2 1 [(0,0)], e_j 12 (.ifCond .ne 0) 15 [], e_v 13 (-2), e_a 14 .ireturn 0 0 0, e_0 15 (.aload 0), e_a 16 (.getfield 0) 1 2 9, e_0 17 (.iload 1), e_c 18 (.invokevirtual 0) 48 2 0 [(0,5)], e_0 19 (.aload 0), e_a 20 (.getfield 0) 1 2 9, e_0 21 (.iload 1), e_0 22 (.iload 2), e_0 23 (.iload 4), e_j 24 (.ifCond .eq 0) 34 [], e_0 25 (.aload 0), e_a 26 (.getfield 0) 1 2 9, e_a 27 (.getfield 0) 0 2 5, e_0 28 (.iload 1), e_0 29 .aaload, e_0 30 (.iload 2), e_0 31 (.iload 3), e_c 32 (.invokevirtual 0) 131 3 1 [(0,2)], e_j 33 (.goto 0) 42 [], e_0 34 (.aload 0), e_a 35 (.getfield 0) 1 2 9, e_a 36 (.getfield 0) 0 2 5, e_0 37 (.iload 1), e_0 38 .aaload, e_0 39 (.iload 2), e_0 40 (.iload 3), e_c 41 (.invokevirtual 0) 109 3 1 [(0,2)], e_c 42 (.invokevirtual 0) 129 4 1 [(0,5)], e_a 43 .ireturn 0 0 0]
abbrev n_FT_down : Nat := 130
def p_Field_normTo : List Ent := [e_v 0 1, e_0 1 (.istore 3), e_0 2 (.iload 2), e_0 3 (.istore 4), e_v 4 0, e_0 5 (.istore 5), e_0 6 (.iload 5), e_0 7 (.aload 0), e_a 8 (.getfield 0) 0 0 2, e_j 9 (.if_icmp .ge 0) 27 [], e_0 10 (.iload 1), e_j 11 (.ifCond .le 0) 27 [], e_0 12 (.aload 0), e_0 13 (.iload 3), e_0 14 (.iload 4), e_c 15 (.invokevirtual 0) 53 3 1 [(0,2)], e_0 16 (.istore 3), e_0 17 (.aload 0), e_0 18 (.iload 4), e_0 19 (.iload 1), e_c 20 (.invokevirtual 0) 95 3 1 [(0,2)], e_0 21 (.istore 4), e_0 22 (.iload 5), e_0 23 (.iload 1), e_0 24 .iadd, e_0 25 (.istore 5), e_j 26 (.goto 0) 6 [(0,1),(0,1),(0,0),(0,1),(0,1),(0,1)], e_0 27 (.iload 3), e_a 28 .ireturn 0 0 0]
abbrev n_Field_normTo : Nat := 131
def p_FT_least : List Ent := [e_0 0 (.iload 2), e_c 1 (.invokestatic 0) 33 1 1 [(0,0)], e_j 2 (.ifCond .eq 0) 10 [], e_0 3 (.iload 1), e_0 4 (.iload 3), e_c 5 (.invokestatic 0) 84 2 1 [(0,0)], e_j 6 (.ifCond .eq 0) 10 [], e_0 7 (.iload 4), e_v 8 (-1), e_j 9 (.if_icmp .ge 0) 12 [], e_v 10 (-1), e_a 11 .ireturn 0 0 0, e_0 12 (.iload 2), e_0 13 (.iload 1), e_c 14 (.invokestatic 0) 41 2 1 [(0,0)], e_j 15 (.ifCond .ne 0) 18 [], e_v 16 (-2), e_a 17 .ireturn 0 0 0, e_0 18 (.aload 0), e_a 19 (.getfield 0) 1 2 9, e_a 20 (.getfield 0) 0 2 5, e_0 21 (.iload 1), e_0 22 .aaload, e_0 23 (.iload 2), e_0 24 (.iload 3), e_c 25 (.invokevirtual 0) 94 3 1 [(0,2)], e_0 26 (.istore 5), e_0 27 (.iload 4), e_v 28 (-1), e_j 29 (.if_icmp .ne 0) 32 [], e_0 30 (.iload 5), e_a 31 .ireturn 0 0 0, e_0 32 (.iload 4), e_0 33 (.iload 5), e_j 34 (.if_icmp .le 0) 37 [], e_v 35 (-1), e_a 36 .ireturn 0 0 0, e_0 37 (.aload 0), e_a 38 (.getfield 0) 1 2 9, e_0 39 (.iload 1), e_c 40 (.invokevirtual 0) 48 2 0 [(0,5)], e_0 41 (.aload 0), e_a 42 (.getfield 0) 1 2 9, e_0 43 (.iload 1), e_0 44 (.iload 2), e_0 45 (.aload 0), e_a 46 (.getfield 0) 1 2 9, e_a 47 (.getfield 0) 0 2 5, e_0 48 (.iload 1), e_0 49 .aaload, e_0 50 (.iload 2), e_0 51 (.iload 3), e_0 52 (.iload 4), e_c 53 (.invokevirtual 0) 133 4 1 [(0,2)], e_c 54 (.invokevirtual 0) 129 4 1 [(0,5)], e_a 55 .ireturn 0 0 0]
abbrev n_FT_least : Nat := 132
def p_Field_leastCoefficient : List Ent := [e_0 0 (.aload 0), e_0 1 (.iload 1), e_0 2 (.iload 2), e_c 3 (.invokevirtual 0) 93 3 1 [(0,2)], e_0 4 (.istore 4), e_0 5 (.iload 3), e_j 6 (.ifCond .lt 0) 15 [], e_0 7 (.iload 3), e_0 8 (.iload 4), e_j 9 (.if_icmp .gt 0) 15 [], e_0 10 (.aload 0), e_a 11 (.getfield 0) 3 2 2, e_0 12 (.iload 3), e_0 13 .iaload, e_j 14 (.goto 0) 16 [], e_v 15 0, e_a 16 .ireturn 0 0 0]
abbrev n_Field_leastCoefficient : Nat := 133
def p_FT_field : List Ent := [e_0 0 (.iload 1), e_c 1 (.invokestatic 0) 33 1 1 [(0,0)], e_j 2 (.ifCond .ne 0) 5 [], e_v 3 (-1), e_a 4 .ireturn 0 0 0, e_0 5 (.iload 2), e_j 6 (.lookupswitch 0 #[]) 41 [(0,7),(1,14),(2,21),(3,28),(4,32),(5,38)], e_0 7 (.aload 0), e_a 8 (.getfield 0) 1 2 9, e_a 9 (.getfield 0) 1 2 5, e_0 10 (.iload 1), e_0 11 .aaload, e_c 12 (.invokevirtual 0) 54 1 1 [(0,3)], e_a 13 .ireturn 0 0 0, e_0 14 (.aload 0), e_a 15 (.getfield 0) 1 2 9, e_a 16 (.getfield 0) 1 2 5, e_0 17 (.iload 1), e_0 18 .aaload, e_c 19 (.invokevirtual 0) 135 1 1 [(0,3)], e_a 20 .ireturn 0 0 0, e_0 21 (.aload 0), e_a 22 (.getfield 0) 1 2 9, e_a 23 (.getfield 0) 2 2 5, e_0 24 (.iload 1), e_0 25 .aaload, e_c 26 (.invokevirtual 0) 115 1 1 [(0,4)], e_a 27 .ireturn 0 0 0, e_a 28 (.getstatic 0) 4 0 0, e_0 29 (.iload 1), e_0 30 .iaload, e_a 31 .ireturn 0 0 0, e_0 32 (.iload 1), e_a 33 (.getstatic 0) 3 0 0, e_0 34 (.iload 1), e_0 35 .iaload, e_0 36 .imul, e_a 37 .ireturn 0 0 0, e_0 38 (.iload 1), e_c 39 (.invokestatic 0) 136 1 1 [(0,0)], e_a 40 .ireturn 0 0 0, e_v 41 (-1), e_a 42 .ireturn 0 0 0]
abbrev n_FT_field : Nat := 134
def p_Cycle_primitiveCount : List Ent := [e_0 0 (.aload 0), e_a 1 (.getfield 0) 1 0 3, e_0 2 (.istore 1), e_0 3 (.aload 0), e_a 4 (.getfield 0) 1 0 3, e_0 5 (.istore 2), e_v 6 2, e_0 7 (.istore 3), e_0 8 (.iload 3), e_0 9 (.iload 2), e_j 10 (.if_icmp .gt 0) 38 [], e_0 11 (.iload 2), e_0 12 (.iload 3), e_0 13 .irem, e_j 14 (.ifCond .ne 0) 21 [], e_0 15 (.iload 1), e_0 16 (.iload 1), e_0 17 (.iload 3), e_0 18 .idiv, e_0 19 .isub, e_0 20 (.istore 1), e_v 21 0, e_0 22 (.istore 4), e_0 23 (.iload 4), e_v 24 12, e_j 25 (.if_icmp .ge 0) 36 [], e_0 26 (.iload 2), e_0 27 (.iload 3), e_0 28 .irem, e_j 29 (.ifCond .ne 0) 36 [], e_0 30 (.iload 2), e_0 31 (.iload 3), e_0 32 .idiv, e_0 33 (.istore 2), e_i 34 4 (1), e_j 35 (.goto 0) 23 [(0,0),(0,1),(0,1),(0,1),(0,1)], e_i 36 3 (1), e_j 37 (.goto 0) 8 [(0,0),(0,1),(0,1),(0,1),(0,0)], e_0 38 (.iload 1), e_a 39 .ireturn 0 0 0]
abbrev n_Cycle_primitiveCount : Nat := 135
def p_FT_divisorBits : List Ent := [e_v 0 0, e_0 1 (.istore 1), e_v 2 1, e_0 3 (.istore 2), e_0 4 (.iload 2), e_0 5 (.iload 0), e_j 6 (.if_icmp .gt 0) 21 [], e_0 7 (.iload 2), e_0 8 (.iload 0), e_c 9 (.invokestatic 0) 41 2 1 [(0,0)], e_j 10 (.ifCond .eq 0) 19 [], e_0 11 (.iload 1), e_v 12 1, e_0 13 (.iload 2), e_v 14 1, e_0 15 .isub, e_0 16 .ishl, e_0 17 .ior, e_0 18 (.istore 1), e_i 19 2 (1), e_j 20 (.goto 0) 4 [(0,1),(0,1),(0,1)], e_0 21 (.iload 1), e_a 22 .ireturn 0 0 0]
abbrev n_FT_divisorBits : Nat := 136
def p_FT_written : List Ent := [e_0 0 (.iload 1), e_0 1 (.iload 2), e_c 2 (.invokestatic 0) 84 2 1 [(0,0)], e_j 3 (.ifCond .eq 0) 12 [], e_0 4 (.iload 3), e_j 5 (.ifCond .lt 0) 12 [], e_0 6 (.iload 3), e_v 7 26, e_j 8 (.if_icmp .ge 0) 12 [], e_0 9 (.iload 4), e_v 10 (-1), e_j 11 (.if_icmp .ge 0) 14 [], e_v 12 (-1), e_a 13 .ireturn 0 0 0, e_0 14 (.aload 0), e_0 15 (.iload 2), e_v 16 97, e_0 17 (.iload 3), e_0 18 .iadd, e_c 19 (.invokevirtual 0) 138 3 1 [(0,9)], e_0 20 (.istore 5), e_0 21 (.iload 4), e_v 22 (-1), e_j 23 (.if_icmp .ne 0) 26 [], e_0 24 (.iload 5), e_a 25 .ireturn 0 0 0, e_0 26 (.iload 4), e_0 27 (.iload 5), e_j 28 (.if_icmp .ge 0) 34 [], e_0 29 (.aload 0), e_a 30 (.getfield 0) 8 2 9, e_0 31 (.iload 4), e_0 32 .iaload, e_j 33 (.goto 0) 35 [], e_v 34 (-1), e_a 35 .ireturn 0 0 0]
abbrev n_FT_written : Nat := 137
def p_FT_writeOut : List Ent := [e_v 0 0, e_0 1 (.istore 3), e_v 2 11, e_0 3 (.istore 4), e_0 4 (.iload 4), e_j 5 (.ifCond .lt 0) 20 [], e_0 6 (.iload 1), e_0 7 (.iload 4), e_0 8 .ishr, e_v 9 1, e_0 10 .iand, e_j 11 (.ifCond .eq 0) 18 [], e_0 12 (.aload 0), e_0 13 (.iload 4), e_0 14 (.iload 2), e_0 15 (.iload 3), e_c 16 (.invokevirtual 0) 139 4 1 [(0,9)], e_0 17 (.istore 3), e_i 18 4 (-1), e_j 19 (.goto 0) 4 [(0,1),(0,1),(0,1),(0,1),(0,1)], e_0 20 (.iload 3), e_j 21 (.ifCond .le 0) 24 [], e_0 22 (.iload 3), e_j 23 (.goto 0) 28 [], e_0 24 (.aload 0), e_v 25 48, e_v 26 0, e_c 27 (.invokevirtual 0) 140 3 1 [(0,9)], e_a 28 .ireturn 0 0 0]
abbrev n_FT_writeOut : Nat := 138
def p_FT_writePower : List Ent := [e_0 0 (.iload 3), e_j 1 (.ifCond .le 0) 7 [], e_0 2 (.aload 0), e_v 3 43, e_0 4 (.iload 3), e_c 5 (.invokevirtual 0) 140 3 1 [(0,9)], e_j 6 (.goto 0) 8 [], e_0 7 (.iload 3), e_0 8 (.istore 4), e_0 9 (.iload 1), e_j 10 (.ifCond .ne 0) 16 [], e_0 11 (.aload 0), e_v 12 49, e_0 13 (.iload 4), e_c 14 (.invokevirtual 0) 140 3 1 [(0,9)], e_a 15 .ireturn 0 0 0, e_0 16 (.aload 0), e_0 17 (.iload 2), e_0 18 (.iload 4), e_c 19 (.invokevirtual 0) 140 3 1 [(0,9)], e_0 20 (.istore 4), e_0 21 (.iload 1), e_v 22 1, e_j 23 (.if_icmp .ne 0) 26 [], e_0 24 (.iload 4), e_a 25 .ireturn 0 0 0, e_0 26 (.aload 0), e_v 27 94, e_0 28 (.iload 4), e_c 29 (.invokevirtual 0) 140 3 1 [(0,9)], e_0 30 (.istore 4), e_0 31 (.iload 1), e_v 32 10, e_j 33 (.if_icmp .lt 0) 39 [], e_0 34 (.aload 0), e_v 35 49, e_0 36 (.iload 4), e_c 37 (.invokevirtual 0) 140 3 1 [(0,9)], e_0 38 (.istore 4), e_0 39 (.aload 0), e_v 40 48, e_0 41 (.iload 1), e_v 42 10, e_0 43 .irem, e_0 44 .iadd, e_0 45 (.iload 4), e_c 46 (.invokevirtual 0) 140 3 1 [(0,9)], e_a 47 .ireturn 0 0 0]
abbrev n_FT_writePower : Nat := 139
def p_FT_writeByte : List Ent := [e_0 0 (.iload 2), e_j 1 (.ifCond .lt 0) 5 [], e_0 2 (.iload 2), e_v 3 64, e_j 4 (.if_icmp .lt 0) 7 [], e_0 5 (.iload 2), e_a 6 .ireturn 0 0 0, e_0 7 (.aload 0), e_a 8 (.getfield 0) 8 2 9, e_0 9 (.iload 2), e_0 10 (.iload 1), e_0 11 .iastore, e_0 12 (.iload 2), e_v 13 1, e_0 14 .iadd, e_a 15 .ireturn 0 0 0]
abbrev n_FT_writeByte : Nat := 140
def p_FT_let : List Ent := [e_0 0 (.iload 1), e_j 1 (.ifCond .lt 0) 10 [], e_0 2 (.iload 1), e_0 3 (.aload 0), e_a 4 (.getfield 0) 9 2 9, e_a 5 (.getfield 0) 6 0 8, e_j 6 (.if_icmp .ge 0) 10 [], e_0 7 (.iload 1), e_v 8 8, e_j 9 (.if_icmp .lt 0) 12 [], e_v 10 (-1), e_a 11 .ireturn 0 0 0, e_0 12 (.aload 0), e_a 13 (.getfield 0) 9 2 9, e_a 14 (.getfield 0) 8 2 8, e_0 15 (.iload 1), e_0 16 .iaload, e_0 17 (.istore 3), e_0 18 (.aload 0), e_a 19 (.getfield 0) 4 2 9, e_0 20 (.iload 1), e_0 21 .iaload, e_0 22 (.istore 4), e_0 23 (.iload 3), e_0 24 (.iload 4), e_c 25 (.invokestatic 0) 84 2 1 [(0,0)], e_j 26 (.ifCond .ne 0) 29 [], e_v 27 (-1), e_a 28 .ireturn 0 0 0, e_0 29 (.iload 2), e_j 30 (.lookupswitch 0 #[]) 60 [(0,31),(1,33),(2,35),(3,43)], e_0 31 (.iload 3), e_a 32 .ireturn 0 0 0, e_0 33 (.iload 4), e_a 34 .ireturn 0 0 0, e_0 35 (.aload 0), e_a 36 (.getfield 0) 1 2 9, e_a 37 (.getfield 0) 0 2 5, e_0 38 (.iload 3), e_0 39 .aaload, e_0 40 (.iload 4), e_c 41 (.invokevirtual 0) 104 2 1 [(0,2)], e_a 42 .ireturn 0 0 0, e_0 43 (.aload 0), e_a 44 (.getfield 0) 1 2 9, e_0 45 (.iload 3), e_c 46 (.invokevirtual 0) 48 2 0 [(0,5)], e_0 47 (.aload 0), e_a 48 (.getfield 0) 1 2 9, e_0 49 (.iload 3), e_0 50 (.aload 0), e_a 51 (.getfield 0) 1 2 9, e_a 52 (.getfield 0) 0 2 5, e_0 53 (.iload 3), e_0 54 .aaload, e_0 55 (.iload 4), e_c 56 (.invokevirtual 0) 104 2 1 [(0,2)], e_0 57 (.iload 4), e_c 58 (.invokevirtual 0) 129 4 1 [(0,5)], e_a 59 .ireturn 0 0 0, e_v 60 (-1), e_a 61 .ireturn 0 0 0]
abbrev n_FT_let : Nat := 141
def p_FT_count : List Ent := [e_0 0 (.iload 1), e_j 1 (.lookupswitch 0 #[]) 21 [(0,2),(1,6),(2,10),(3,14),(4,17)], e_0 2 (.aload 0), e_a 3 (.getfield 0) 9 2 9, e_a 4 (.getfield 0) 6 0 8, e_a 5 .ireturn 0 0 0, e_0 6 (.aload 0), e_a 7 (.getfield 0) 0 2 9, e_a 8 (.getfield 0) 1 0 0, e_a 9 .ireturn 0 0 0, e_0 10 (.aload 0), e_a 11 (.getfield 0) 3 2 9, e_a 12 (.getfield 0) 2 0 7, e_a 13 .ireturn 0 0 0, e_0 14 (.aload 0), e_c 15 (.invokevirtual 0) 143 1 1 [(0,9)], e_a 16 .ireturn 0 0 0, e_0 17 (.aload 0), e_a 18 (.getfield 0) 1 2 9, e_c 19 (.invokevirtual 0) 144 1 1 [(0,5)], e_a 20 .ireturn 0 0 0, e_v 21 (-1), e_a 22 .ireturn 0 0 0]
abbrev n_FT_count : Nat := 142
def p_FT_heldSlots : List Ent := [e_v 0 0, e_0 1 (.istore 1), e_v 2 0, e_0 3 (.istore 2), e_0 4 (.iload 2), e_v 5 3, e_j 6 (.if_icmp .ge 0) 15 [], e_0 7 (.aload 0), e_a 8 (.getfield 0) 7 2 9, e_0 9 (.iload 2), e_0 10 .baload, e_j 11 (.ifCond .eq 0) 13 [], e_i 12 1 (1), e_i 13 2 (1), e_j 14 (.goto 0) 4 [(0,1),(0,1),(0,1)], e_0 15 (.iload 1), e_a 16 .ireturn 0 0 0]
abbrev n_FT_heldSlots : Nat := 143
def p_Tower_otherModuli : List Ent := [e_v 0 0, e_0 1 (.istore 1), e_v 2 1, e_0 3 (.istore 2), e_0 4 (.iload 2), e_v 5 12, e_j 6 (.if_icmp .gt 0) 26 [], e_0 7 (.aload 0), e_a 8 (.getfield 0) 0 2 5, e_0 9 (.iload 2), e_0 10 .aaload, e_a 11 (.getfield 0) 2 0 2, e_a 12 (.getstatic 0) 2 0 0, e_0 13 (.iload 2), e_0 14 .iaload, e_j 15 (.if_icmp .eq 0) 24 [], e_0 16 (.iload 1), e_v 17 1, e_0 18 (.iload 2), e_v 19 1, e_0 20 .isub, e_0 21 .ishl, e_0 22 .ior, e_0 23 (.istore 1), e_i 24 2 (1), e_j 25 (.goto 0) 4 [(0,1),(0,1),(0,1)], e_0 26 (.iload 1), e_a 27 .ireturn 0 0 0]
abbrev n_Tower_otherModuli : Nat := 144
def p_M_init : List Ent := [e_0 0 (.aload 0), e_a 1 (.invokespecial 0) 0 1 9, e_0 2 (.aload 0), e_v 3 2000, e_a 4 (.newarray .byte) 21 2000 0, e_a 5 (.putfield 0) 1 2 10, e_0 6 (.aload 0), e_v 7 2000, e_a 8 (.newarray .byte) 21 2000 0, e_a 9 (.putfield 0) 3 2 10, e_0 10 (.aload 0), e_v 11 403, e_a 12 (.newarray .int) 20 403 0, e_a 13 (.putfield 0) 5 2 10, e_0 14 (.aload 0), e_v 15 403, e_a 16 (.newarray .int) 20 403 0, e_a 17 (.putfield 0) 6 2 10, e_0 18 (.aload 0), e_v 19 403, e_a 20 (.newarray .int) 20 403 0, e_a 21 (.putfield 0) 7 2 10, e_0 22 (.aload 0), e_v 23 403, e_a 24 (.newarray .long) 23 403 0, e_a 25 (.putfield 0) 8 2 10, e_0 26 (.aload 0), e_v 27 3, e_a 28 (.newarray .long) 23 3 0, e_a 29 (.putfield 0) 9 2 10, e_0 30 (.aload 0), e_v 31 (-1), e_a 32 (.putfield 0) 16 0 10, e_0 33 (.aload 0), e_v 34 8192, e_a 35 (.newarray .boolean) 22 8192 0, e_a 36 (.putfield 0) 17 2 10, e_0 37 (.aload 0), e_v 38 13, e_a 39 (.newarray .int) 20 13 0, e_a 40 (.putfield 0) 18 2 10, e_0 41 (.aload 0), e_v 42 13, e_a 43 (.newarray .int) 20 13 0, e_a 44 (.putfield 0) 19 2 10, e_0 45 (.aload 0), e_v 46 410, e_a 47 (.newarray .int) 20 410 0, e_a 48 (.putfield 0) 21 2 10, e_0 49 (.aload 0), e_v 50 410, e_a 51 (.newarray .int) 20 410 0, e_a 52 (.putfield 0) 22 2 10, e_0 53 (.aload 0), e_v 54 410, e_a 55 (.newarray .int) 20 410 0, e_a 56 (.putfield 0) 23 2 10, e_0 57 (.aload 0), e_v 58 9, e_a 59 (.newarray .int) 20 9 0, e_a 60 (.putfield 0) 25 2 10, e_0 61 (.aload 0), e_v 62 8, e_a 63 (.newarray .int) 20 8 0, e_a 64 (.putfield 0) 26 2 10, e_0 65 (.aload 0), e_v 66 8, e_a 67 (.newarray .int) 20 8 0, e_a 68 (.putfield 0) 27 2 10, e_0 69 (.aload 0), e_v 70 8, e_a 71 (.newarray .long) 23 8 0, e_a 72 (.putfield 0) 28 2 10, e_0 73 (.aload 0), e_v 74 410, e_a 75 (.newarray .int) 20 410 0, e_a 76 (.putfield 0) 30 2 10, e_0 77 (.aload 0), e_v 78 410, e_a 79 (.newarray .int) 20 410 0, e_a 80 (.putfield 0) 31 2 10, e_0 81 (.aload 0), e_v 82 410, e_a 83 (.newarray .int) 20 410 0, e_a 84 (.putfield 0) 32 2 10, e_0 85 (.aload 0), e_v 86 26, e_a 87 (.newarray .int) 20 26 0, e_a 88 (.putfield 0) 33 2 10, e_0 89 (.aload 0), e_v 90 13, e_a 91 (.newarray .int) 20 13 0, e_a 92 (.putfield 0) 34 2 10, e_0 93 (.aload 0), e_v 94 400, e_a 95 (.newarray .int) 20 400 0, e_a 96 (.putfield 0) 36 2 10, e_0 97 (.aload 0), e_v 98 410, e_a 99 (.newarray .int) 20 410 0, e_a 100 (.putfield 0) 38 2 10, e_0 101 (.aload 0), e_v 102 390, e_a 103 (.newarray .int) 20 390 0, e_a 104 (.putfield 0) 39 2 10, e_0 105 (.aload 0), e_v 106 39, e_a 107 (.newarray .int) 20 39 0, e_a 108 (.putfield 0) 42 2 10, e_0 109 (.aload 0), e_v 110 3, e_a 111 (.newarray .boolean) 22 3 0, e_a 112 (.putfield 0) 43 2 10, e_0 113 (.aload 0), e_v 114 169, e_a 115 (.newarray .int) 20 169 0, e_a 116 (.putfield 0) 44 2 10, e_0 117 (.aload 0), e_v 118 12, e_a 119 (.newarray .int) 20 12 0, e_a 120 (.putfield 0) 45 2 10, e_0 121 (.aload 0), e_v 122 12, e_a 123 (.newarray .int) 20 12 0, e_a 124 (.putfield 0) 46 2 10, e_0 125 (.aload 0), e_v 126 14, e_a 127 (.newarray .int) 20 14 0, e_a 128 (.putfield 0) 47 2 10, e_0 129 (.aload 0), e_v 130 80, e_a 131 (.newarray .int) 20 80 0, e_a 132 (.putfield 0) 48 2 10, e_0 133 (.aload 0), e_a 134 (.getfield 0) 9 2 10, e_v 135 0, e_v 136 109, e_v 137 111, e_v 138 100, e_v 139 117, e_v 140 108, e_v 141 117, e_v 142 115, e_c 143 (.invokestatic 0) 146 7 2 [(0,0)], e_0 144 .lastore, e_0 145 (.aload 0), e_a 146 (.getfield 0) 9 2 10, e_v 147 1, e_v 148 108, e_v 149 101, e_v 150 116, e_v 151 0, e_v 152 0, e_v 153 0, e_v 154 0, e_c 155 (.invokestatic 0) 146 7 2 [(0,0)], e_0 156 .lastore, e_0 157 (.aload 0), e_a 158 (.getfield 0) 9 2 10, e_v 159 2, e_v 160 120, e_v 161 0, e_v 162 0, e_v 163 0, e_v 164 0, e_v 165 0, e_v 166 0, e_c 167 (.invokestatic 0) 146 7 2 [(0,0)], e_0 168 .lastore, e_v 169 2, e_0 170 (.istore 1), e_0 171 (.iload 1), e_v 172 8192, e_j 173 (.if_icmp .ge 0) 197 [], e_v 174 2, e_0 175 (.istore 2), e_0 176 (.iload 2), e_0 177 (.iload 1), e_j 178 (.if_icmp .gt 0) 195 [], e_0 179 (.iload 1), e_c 180 (.invokestatic 0) 148 1 1 [(0,0)], e_0 181 (.iload 2), e_c 182 (.invokestatic 0) 148 1 1 [(0,0)], e_0 183 .iadd, e_v 184 12, e_j 185 (.if_icmp .gt 0) 195 [], e_0 186 (.aload 0), e_a 187 (.getfield 0) 17 2 10, e_0 188 (.iload 1), e_0 189 (.iload 2), e_c 190 (.invokestatic 0) 149 2 1 [(0,0)], e_v 191 1, e_0 192 .bastore, e_i 193 2 (1), e_j 194 (.goto 0) 176 [(0,1),(0,1),(0,1)], e_i 195 1 (1), e_j 196 (.goto 0) 171 [(0,1),(0,1),(0,0)], e_v 197 1, e_0 198 (.istore 1), e_0 199 (.iload 1), e_v 200 12, e_j 201 (.if_icmp .gt 0) 211 [], e_0 202 (.aload 0), e_a 203 (.getfield 0) 18 2 10, e_0 204 (.iload 1), e_0 205 (.aload 0), e_0 206 (.iload 1), e_c 207 (.invokevirtual 0) 151 2 1 [(0,10)], e_0 208 .iastore, e_i 209 1 (1), e_j 210 (.goto 0) 199 [(0,1),(0,1),(0,0)], e_0 211 (.aload 0), e_c 212 (.invokevirtual 0) 152 1 0 [(0,10)], e_0 213 .return_]
abbrev n_M_init : Nat := 145
def p_M_letters : List Ent := [e_w 0 0, e_0 1 (.iload 0), e_c 2 (.invokestatic 0) 147 2 2 [(0,0)], e_0 3 (.iload 1), e_c 4 (.invokestatic 0) 147 2 2 [(0,0)], e_0 5 (.iload 2), e_c 6 (.invokestatic 0) 147 2 2 [(0,0)], e_0 7 (.iload 3), e_c 8 (.invokestatic 0) 147 2 2 [(0,0)], e_0 9 (.iload 4), e_c 10 (.invokestatic 0) 147 2 2 [(0,0)], e_0 11 (.iload 5), e_c 12 (.invokestatic 0) 147 2 2 [(0,0)], e_0 13 (.iload 6), e_c 14 (.invokestatic 0) 147 2 2 [(0,0)], e_0 15 .lreturn]
abbrev n_M_letters : Nat := 146
def p_M_appends : List Ent := [e_0 0 (.iload 2), e_j 1 (.ifCond .ne 0) 4 [], e_0 2 (.lload 0), e_j 3 (.goto 0) 14 [], e_w 4 (27), e_0 5 (.lload 0), e_0 6 .lmul, e_0 7 (.iload 2), e_v 8 97, e_0 9 .isub, e_v 10 1, e_0 11 .iadd, e_0 12 .i2l, e_0 13 .ladd, e_0 14 .lreturn]
abbrev n_M_appends : Nat := 147
def p_M_degree : List Ent := [e_v 0 0, e_0 1 (.istore 1), e_0 2 (.iload 0), e_0 3 (.iload 1), e_0 4 .ishr, e_v 5 1, e_j 6 (.if_icmp .le 0) 9 [], e_i 7 1 (1), e_j 8 (.goto 0) 2 [(0,1),(0,1)], e_0 9 (.iload 1), e_a 10 .ireturn 0 0 0]
abbrev n_M_degree : Nat := 148
def p_M_times : List Ent := [e_v 0 0, e_0 1 (.istore 2), e_v 2 0, e_0 3 (.istore 3), e_0 4 (.iload 1), e_0 5 (.iload 3), e_0 6 .ishr, e_j 7 (.ifCond .le 0) 20 [], e_0 8 (.iload 1), e_0 9 (.iload 3), e_c 10 (.invokestatic 0) 150 2 1 [(0,0)], e_j 11 (.ifCond .eq 0) 18 [], e_0 12 (.iload 2), e_0 13 (.iload 0), e_0 14 (.iload 3), e_0 15 .ishl, e_0 16 .ixor, e_0 17 (.istore 2), e_i 18 3 (1), e_j 19 (.goto 0) 4 [(0,1),(0,1),(0,1),(0,1)], e_0 20 (.iload 2), e_a 21 .ireturn 0 0 0]
abbrev n_M_times : Nat := 149
def p_M_has : List Ent := [e_0 0 (.iload 0), e_0 1 (.iload 1), e_0 2 .ishr, e_v 3 1, e_0 4 .iand, e_v 5 1, e_j 6 (.if_icmp .ne 0) 9 [], e_v 7 1, e_j 8 (.goto 0) 10 [], e_v 9 0, e_a 10 .ireturn 1 0 0]
abbrev n_M_has : Nat := 150
def p_M_leastWhole : List Ent := [e_v 0 1, e_0 1 (.iload 1), e_0 2 .ishl, e_0 3 (.istore 2), e_0 4 (.aload 0), e_a 5 (.getfield 0) 17 2 10, e_0 6 (.iload 2), e_0 7 .baload, e_j 8 (.ifCond .eq 0) 11 [], e_i 9 2 (1), e_j 10 (.goto 0) 4 [(0,1),(0,0),(0,1)], e_0 11 (.iload 2), e_a 12 .ireturn 0 0 0]
abbrev n_M_leastWhole : Nat := 151
def p_M_laysTower : List Ent := [e_v 0 1, e_0 1 (.istore 1), e_0 2 (.iload 1), e_v 3 12, e_j 4 (.if_icmp .gt 0) 38 [], e_0 5 (.aload 0), e_a 6 (.getfield 0) 44 2 10, e_v 7 13, e_0 8 (.iload 1), e_0 9 .imul, e_0 10 (.iload 1), e_0 11 .iadd, e_v 12 2, e_0 13 (.aload 0), e_a 14 (.getfield 0) 18 2 10, e_0 15 (.iload 1), e_0 16 .iaload, e_c 17 (.invokestatic 0) 153 2 1 [(0,0)], e_0 18 .iastore, e_0 19 (.iload 1), e_v 20 1, e_0 21 .isub, e_0 22 (.istore 2), e_0 23 (.iload 2), e_v 24 1, e_j 25 (.if_icmp .lt 0) 36 [], e_0 26 (.iload 1), e_0 27 (.iload 2), e_0 28 .irem, e_j 29 (.ifCond .ne 0) 34 [], e_0 30 (.aload 0), e_0 31 (.iload 2), e_0 32 (.iload 1), e_c 33 (.invokevirtual 0) 154 3 0 [(0,10)], e_i 34 2 (-1), e_j 35 (.goto 0) 23 [(0,1),(0,1),(0,1)], e_i 36 1 (1), e_j 37 (.goto 0) 2 [(0,1),(0,1),(0,0)], e_0 38 .return_]
abbrev n_M_laysTower : Nat := 152
def p_M_rest : List Ent := [e_0 0 (.iload 0), e_0 1 (.istore 2), e_0 2 (.iload 1), e_c 3 (.invokestatic 0) 148 1 1 [(0,0)], e_0 4 (.istore 3), e_0 5 (.iload 0), e_c 6 (.invokestatic 0) 148 1 1 [(0,0)], e_0 7 (.istore 4), e_0 8 (.iload 4), e_0 9 (.iload 3), e_j 10 (.if_icmp .lt 0) 25 [], e_0 11 (.iload 2), e_0 12 (.iload 4), e_c 13 (.invokestatic 0) 150 2 1 [(0,0)], e_j 14 (.ifCond .eq 0) 23 [], e_0 15 (.iload 2), e_0 16 (.iload 1), e_0 17 (.iload 4), e_0 18 (.iload 3), e_0 19 .isub, e_0 20 .ishl, e_0 21 .ixor, e_0 22 (.istore 2), e_i 23 4 (-1), e_j 24 (.goto 0) 8 [(0,0),(0,1),(0,1),(0,1),(0,1)], e_0 25 (.iload 2), e_a 26 .ireturn 0 0 0]
abbrev n_M_rest : Nat := 153
def p_M_laysUp : List Ent := [e_0 0 (.iload 2), e_v 1 1, e_0 2 .isub, e_0 3 (.istore 3), e_0 4 (.iload 3), e_0 5 (.iload 1), e_j 6 (.if_icmp .le 0) 39 [], e_0 7 (.iload 2), e_0 8 (.iload 3), e_0 9 .irem, e_j 10 (.ifCond .ne 0) 37 [], e_0 11 (.iload 3), e_0 12 (.iload 1), e_0 13 .irem, e_j 14 (.ifCond .eq 0) 16 [], e_j 15 (.goto 0) 37 [], e_0 16 (.aload 0), e_a 17 (.getfield 0) 44 2 10, e_v 18 13, e_0 19 (.iload 1), e_0 20 .imul, e_0 21 (.iload 2), e_0 22 .iadd, e_0 23 (.aload 0), e_0 24 (.iload 3), e_0 25 (.iload 2), e_0 26 (.aload 0), e_a 27 (.getfield 0) 44 2 10, e_v 28 13, e_0 29 (.iload 1), e_0 30 .imul, e_0 31 (.iload 3), e_0 32 .iadd, e_0 33 .iaload, e_c 34 (.invokevirtual 0) 155 4 1 [(0,10)], e_0 35 .iastore, e_0 36 .return_, e_i 37 3 (-1), e_j 38 (.goto 0) 4 [(0,1),(0,1),(0,1),(0,1)], e_v 39 0, e_0 40 (.istore 3), e_0 41 (.aload 0), e_0 42 (.iload 1), e_0 43 (.iload 2), e_0 44 (.iload 3), e_c 45 (.invokevirtual 0) 157 4 1 [(0,10)], e_j 46 (.ifCond .ne 0) 49 [], e_i 47 3 (1), e_j 48 (.goto 0) 41 [(0,1),(0,1),(0,1),(0,1)], e_0 49 (.aload 0), e_a 50 (.getfield 0) 44 2 10, e_v 51 13, e_0 52 (.iload 1), e_0 53 .imul, e_0 54 (.iload 2), e_0 55 .iadd, e_0 56 (.iload 3), e_0 57 .iastore, e_0 58 .return_]
abbrev n_M_laysUp : Nat := 154
def p_M_up : List Ent := [e_v 0 0, e_0 1 (.istore 4), e_0 2 (.iload 1), e_v 3 1, e_0 4 .isub, e_0 5 (.istore 5), e_0 6 (.iload 5), e_j 7 (.ifCond .lt 0) 31 [], e_0 8 (.aload 0), e_0 9 (.iload 2), e_0 10 (.iload 4), e_0 11 (.aload 0), e_a 12 (.getfield 0) 44 2 10, e_v 13 13, e_0 14 (.iload 1), e_0 15 .imul, e_0 16 (.iload 2), e_0 17 .iadd, e_0 18 .iaload, e_c 19 (.invokevirtual 0) 156 4 1 [(0,10)], e_0 20 (.iload 3), e_0 21 (.iload 5), e_c 22 (.invokestatic 0) 150 2 1 [(0,0)], e_j 23 (.ifCond .eq 0) 26 [], e_v 24 1, e_j 25 (.goto 0) 27 [], e_v 26 0, e_0 27 .ixor, e_0 28 (.istore 4), e_i 29 5 (-1), e_j 30 (.goto 0) 6 [(0,1),(0,1),(0,1),(0,1),(0,1),(0,1)], e_0 31 (.iload 4), e_a 32 .ireturn 0 0 0]
abbrev n_M_up : Nat := 155
def p_M_product : List Ent := [e_v 0 0, e_0 1 (.istore 4), e_0 2 (.iload 2), e_0 3 (.istore 5), e_v 4 0, e_0 5 (.istore 6), e_0 6 (.iload 6), e_0 7 (.iload 1), e_j 8 (.if_icmp .ge 0) 34 [], e_0 9 (.iload 3), e_0 10 (.iload 6), e_c 11 (.invokestatic 0) 150 2 1 [(0,0)], e_j 12 (.ifCond .eq 0) 17 [], e_0 13 (.iload 4), e_0 14 (.iload 5), e_0 15 .ixor, e_0 16 (.istore 4), e_0 17 (.iload 5), e_v 18 1, e_0 19 .ishl, e_0 20 (.istore 5), e_0 21 (.iload 5), e_0 22 (.iload 1), e_c 23 (.invokestatic 0) 150 2 1 [(0,0)], e_j 24 (.ifCond .eq 0) 32 [], e_0 25 (.iload 5), e_0 26 (.aload 0), e_a 27 (.getfield 0) 18 2 10, e_0 28 (.iload 1), e_0 29 .iaload, e_0 30 .ixor, e_0 31 (.istore 5), e_i 32 6 (1), e_j 33 (.goto 0) 6 [(0,1),(0,1),(0,0),(0,1),(0,1),(0,1),(0,1)], e_0 34 (.iload 4), e_a 35 .ireturn 0 0 0]
abbrev n_M_product : Nat := 156
def p_M_agrees : List Ent := [e_0 0 (.aload 0), e_0 1 (.iload 2), e_0 2 (.aload 0), e_a 3 (.getfield 0) 18 2 10, e_0 4 (.iload 1), e_0 5 .iaload, e_0 6 (.iload 3), e_c 7 (.invokevirtual 0) 158 4 1 [(0,10)], e_j 8 (.ifCond .eq 0) 11 [], e_v 9 0, e_a 10 .ireturn 1 0 0, e_0 11 (.aload 0), e_a 12 (.getfield 0) 44 2 10, e_v 13 13, e_0 14 (.iload 1), e_0 15 .imul, e_0 16 (.iload 2), e_0 17 .iadd, e_0 18 (.iload 3), e_0 19 .iastore, e_0 20 (.iload 2), e_v 21 1, e_0 22 .isub, e_0 23 (.istore 4), e_0 24 (.iload 4), e_0 25 (.iload 1), e_j 26 (.if_icmp .le 0) 68 [], e_0 27 (.iload 2), e_0 28 (.iload 4), e_0 29 .irem, e_j 30 (.ifCond .eq 0) 32 [], e_j 31 (.goto 0) 66 [], e_0 32 (.iload 1), e_0 33 (.iload 4), e_c 34 (.invokestatic 0) 159 2 1 [(0,0)], e_0 35 (.istore 5), e_v 36 0, e_0 37 (.istore 6), e_0 38 (.iload 6), e_v 39 1, e_0 40 (.iload 5), e_0 41 .ishl, e_j 42 (.if_icmp .ge 0) 66 [], e_0 43 (.aload 0), e_0 44 (.iload 1), e_0 45 (.iload 2), e_0 46 (.aload 0), e_0 47 (.iload 5), e_0 48 (.iload 1), e_0 49 (.iload 6), e_c 50 (.invokevirtual 0) 155 4 1 [(0,10)], e_c 51 (.invokevirtual 0) 155 4 1 [(0,10)], e_0 52 (.aload 0), e_0 53 (.iload 4), e_0 54 (.iload 2), e_0 55 (.aload 0), e_0 56 (.iload 5), e_0 57 (.iload 4), e_0 58 (.iload 6), e_c 59 (.invokevirtual 0) 155 4 1 [(0,10)], e_c 60 (.invokevirtual 0) 155 4 1 [(0,10)], e_j 61 (.if_icmp .eq 0) 64 [], e_v 62 0, e_a 63 .ireturn 1 0 0, e_i 64 6 (1), e_j 65 (.goto 0) 38 [(0,1),(0,1),(0,1),(0,0),(0,1),(0,1),(0,1)], e_i 66 4 (-1), e_j 67 (.goto 0) 24 [(0,1),(0,1),(0,1),(0,0),(0,1),(0,0),(0,0)], e_v 68 1, e_a 69 .ireturn 1 0 0]
abbrev n_M_agrees : Nat := 157
def p_M_valueAt : List Ent := [e_v 0 0, e_0 1 (.istore 4), e_0 2 (.iload 2), e_c 3 (.invokestatic 0) 148 1 1 [(0,0)], e_0 4 (.istore 5), e_0 5 (.iload 5), e_j 6 (.ifCond .lt 0) 23 [], e_0 7 (.aload 0), e_0 8 (.iload 1), e_0 9 (.iload 4), e_0 10 (.iload 3), e_c 11 (.invokevirtual 0) 156 4 1 [(0,10)], e_0 12 (.iload 2), e_0 13 (.iload 5), e_c 14 (.invokestatic 0) 150 2 1 [(0,0)], e_j 15 (.ifCond .eq 0) 18 [], e_v 16 1, e_j 17 (.goto 0) 19 [], e_v 18 0, e_0 19 .ixor, e_0 20 (.istore 4), e_i 21 5 (-1), e_j 22 (.goto 0) 5 [(0,1),(0,1),(0,1),(0,1),(0,1),(0,1)], e_0 23 (.iload 4), e_a 24 .ireturn 0 0 0]
abbrev n_M_valueAt : Nat := 158
def p_M_common : List Ent := [e_0 0 (.iload 0), e_0 1 (.istore 2), e_0 2 (.iload 1), e_0 3 (.istore 3), e_0 4 (.iload 3), e_j 5 (.ifCond .le 0) 15 [], e_0 6 (.iload 2), e_0 7 (.iload 3), e_0 8 .irem, e_0 9 (.istore 4), e_0 10 (.iload 3), e_0 11 (.istore 2), e_0 12 (.iload 4), e_0 13 (.istore 3), e_j 14 (.goto 0) 4 [(0,0),(0,0),(0,1),(0,1),(0,0)], e_0 15 (.iload 2), e_a 16 .ireturn 0 0 0]
abbrev n_M_common : Nat := 159
def p_M_feed : List Ent := [e_0 0 (.aload 0), e_a 1 (.getfield 0) 2 0 10, e_v 2 20, e_0 3 .iadd, e_v 4 2000, e_j 5 (.if_icmp .le 0) 8 [], e_v 6 (-1), e_a 7 .ireturn 0 0 0, e_0 8 (.aload 0), e_0 9 (.iload 1), e_c 10 (.invokevirtual 0) 161 2 0 [(0,10)], e_0 11 (.aload 0), e_0 12 (.iload 2), e_c 13 (.invokevirtual 0) 161 2 0 [(0,10)], e_0 14 (.aload 0), e_0 15 (.iload 3), e_c 16 (.invokevirtual 0) 161 2 0 [(0,10)], e_0 17 (.aload 0), e_0 18 (.iload 4), e_c 19 (.invokevirtual 0) 161 2 0 [(0,10)], e_0 20 (.aload 0), e_0 21 (.iload 5), e_c 22 (.invokevirtual 0) 161 2 0 [(0,10)], e_0 23 (.aload 0), e_a 24 (.getfield 0) 2 0 10, e_a 25 .ireturn 0 0 0]
abbrev n_M_feed : Nat := 160
def p_M_lays : List Ent := [e_v 0 24, e_0 1 (.istore 2), e_0 2 (.iload 2), e_j 3 (.ifCond .lt 0) 21 [], e_0 4 (.aload 0), e_a 5 (.getfield 0) 1 2 10, e_0 6 (.aload 0), e_a 7 (.getfield 0) 2 0 10, e_0 8 (.iload 1), e_0 9 (.iload 2), e_0 10 .ishr, e_0 11 .i2b, e_0 12 .bastore, e_0 13 (.aload 0), e_0 14 .dup, e_a 15 (.getfield 0) 2 0 10, e_v 16 1, e_0 17 .iadd, e_a 18 (.putfield 0) 2 0 10, e_i 19 2 (-8), e_j 20 (.goto 0) 2 [(0,1),(0,1),(0,1)], e_0 21 .return_]
abbrev n_M_lays : Nat := 161
def p_M_back : List Ent := [e_0 0 (.iload 1), e_j 1 (.ifCond .lt 0) 6 [], e_0 2 (.iload 1), e_0 3 (.aload 0), e_a 4 (.getfield 0) 2 0 10, e_j 5 (.if_icmp .le 0) 8 [], e_v 6 (-1), e_a 7 .ireturn 0 0 0, e_0 8 (.aload 0), e_0 9 .dup, e_a 10 (.getfield 0) 2 0 10, e_0 11 (.iload 1), e_0 12 .isub, e_a 13 (.putfield 0) 2 0 10, e_0 14 (.aload 0), e_a 15 (.getfield 0) 2 0 10, e_a 16 .ireturn 0 0 0]
abbrev n_M_back : Nat := 162
def p_M_read : List Ent := [e_0 0 (.aload 0), e_0 1 (.aload 0), e_a 2 (.getfield 0) 2 0 10, e_a 3 (.putfield 0) 4 0 10, e_v 4 0, e_0 5 (.istore 1), e_0 6 (.iload 1), e_0 7 (.aload 0), e_a 8 (.getfield 0) 4 0 10, e_j 9 (.if_icmp .ge 0) 20 [], e_0 10 (.aload 0), e_a 11 (.getfield 0) 3 2 10, e_0 12 (.iload 1), e_0 13 (.aload 0), e_a 14 (.getfield 0) 1 2 10, e_0 15 (.iload 1), e_0 16 .baload, e_0 17 .bastore, e_i 18 1 (1), e_j 19 (.goto 0) 6 [(0,1),(0,1)], e_0 20 (.aload 0), e_v 21 0, e_a 22 (.putfield 0) 2 0 10, e_0 23 (.aload 0), e_c 24 (.invokevirtual 0) 164 1 0 [(0,10)], e_0 25 (.aload 0), e_v 26 0, e_a 27 (.putfield 0) 11 0 10, e_0 28 (.aload 0), e_v 29 0, e_a 30 (.putfield 0) 12 0 10, e_0 31 (.aload 0), e_v 32 0, e_a 33 (.putfield 0) 14 0 10, e_0 34 (.aload 0), e_v 35 0, e_a 36 (.putfield 0) 20 0 10, e_0 37 (.aload 0), e_a 38 (.getfield 0) 12 0 10, e_j 39 (.ifCond .ne 0) 47 [], e_0 40 (.aload 0), e_v 41 0, e_c 42 (.invokevirtual 0) 170 2 1 [(0,10)], e_j 43 (.ifCond .ne 0) 47 [], e_0 44 (.aload 0), e_c 45 (.invokevirtual 0) 171 1 0 [(0,10)], e_j 46 (.goto 0) 37 [(0,1),(0,0)], e_0 47 (.aload 0), e_a 48 (.getfield 0) 12 0 10, e_j 49 (.ifCond .le 0) 57 [], e_0 50 (.aload 0), e_0 51 (.aload 0), e_a 52 (.getfield 0) 13 0 10, e_a 53 (.putfield 0) 16 0 10, e_0 54 (.aload 0), e_a 55 (.getfield 0) 12 0 10, e_a 56 .ireturn 0 0 0, e_0 57 (.aload 0), e_c 58 (.invokevirtual 0) 177 1 0 [(0,10)], e_0 59 (.aload 0), e_c 60 (.invokevirtual 0) 178 1 0 [(0,10)], e_0 61 (.aload 0), e_a 62 (.getfield 0) 14 0 10, e_j 63 (.ifCond .ne 0) 92 [], e_v 64 1, e_0 65 (.istore 1), e_0 66 (.iload 1), e_v 67 12, e_j 68 (.if_icmp .gt 0) 79 [], e_0 69 (.aload 0), e_a 70 (.getfield 0) 18 2 10, e_0 71 (.iload 1), e_0 72 (.aload 0), e_a 73 (.getfield 0) 19 2 10, e_0 74 (.iload 1), e_0 75 .iaload, e_0 76 .iastore, e_i 77 1 (1), e_j 78 (.goto 0) 66 [(0,1),(0,1)], e_0 79 (.aload 0), e_c 80 (.invokevirtual 0) 152 1 0 [(0,10)], e_0 81 (.aload 0), e_c 82 (.invokevirtual 0) 191 1 1 [(0,10)], e_0 83 (.istore 1), e_0 84 (.iload 1), e_j 85 (.ifCond .lt 0) 92 [], e_0 86 (.aload 0), e_v 87 7, e_a 88 (.putfield 0) 14 0 10, e_0 89 (.aload 0), e_0 90 (.iload 1), e_a 91 (.putfield 0) 15 0 10, e_0 92 (.aload 0), e_0 93 (.aload 0), e_a 94 (.getfield 0) 14 0 10, e_j 95 (.ifCond .le 0) 99 [], e_0 96 (.aload 0), e_a 97 (.getfield 0) 15 0 10, e_j 98 (.goto 0) 100 [], e_v 99 (-1), e_a 100 (.putfield 0) 16 0 10, e_0 101 (.aload 0), e_a 102 (.getfield 0) 14 0 10, e_j 103 (.ifCond .le 0) 109 [], e_0 104 (.aload 0), e_c 105 (.invokevirtual 0) 195 1 0 [(0,10)], e_0 106 (.aload 0), e_a 107 (.getfield 0) 14 0 10, e_a 108 .ireturn 0 0 0, e_0 109 (.aload 0), e_v 110 0, e_a 111 (.putfield 0) 41 0 10, e_v 112 0, e_0 113 (.istore 1), e_0 114 (.iload 1), e_v 115 3, e_j 116 (.if_icmp .ge 0) 124 [], e_0 117 (.aload 0), e_a 118 (.getfield 0) 43 2 10, e_0 119 (.iload 1), e_v 120 0, e_0 121 .bastore, e_i 122 1 (1), e_j 123 (.goto 0) 114 [(0,1),(0,1)], e_v 124 0, e_a 125 .ireturn 0 0 0]
abbrev n_M_read : Nat := 163
def p_M_cutsText : List Ent := [e_0 0 (.aload 0), e_v 1 0, e_a 2 (.putfield 0) 10 0 10, e_v 3 0, e_0 4 (.istore 1), e_0 5 (.aload 0), e_a 6 (.getfield 0) 10 0 10, e_v 7 400, e_j 8 (.if_icmp .gt 0) 160 [], e_0 9 (.aload 0), e_0 10 (.iload 1), e_c 11 (.invokevirtual 0) 165 2 1 [(0,10)], e_0 12 (.istore 2), e_0 13 (.iload 1), e_0 14 (.aload 0), e_a 15 (.getfield 0) 4 0 10, e_j 16 (.if_icmp .lt 0) 25 [], e_0 17 (.aload 0), e_v 18 0, e_0 19 (.aload 0), e_a 20 (.getfield 0) 4 0 10, e_v 21 0, e_w 22 0, e_c 23 (.invokevirtual 0) 166 5 0 [(0,10)], e_0 24 .return_, e_0 25 (.iload 2), e_v 26 9, e_j 27 (.if_icmp .eq 0) 37 [], e_0 28 (.iload 2), e_v 29 10, e_j 30 (.if_icmp .eq 0) 37 [], e_0 31 (.iload 2), e_v 32 13, e_j 33 (.if_icmp .eq 0) 37 [], e_0 34 (.iload 2), e_v 35 32, e_j 36 (.if_icmp .ne 0) 39 [], e_i 37 1 (1), e_j 38 (.goto 0) 159 [], e_0 39 (.iload 2), e_c 40 (.invokestatic 0) 167 1 1 [(0,0)], e_j 41 (.ifCond .eq 0) 105 [], e_v 42 0, e_0 43 (.istore 3), e_w 44 0, e_0 45 (.lstore 4), e_0 46 (.aload 0), e_0 47 (.iload 1), e_0 48 (.iload 3), e_0 49 .iadd, e_c 50 (.invokevirtual 0) 165 2 1 [(0,10)], e_c 51 (.invokestatic 0) 167 1 1 [(0,0)], e_j 52 (.ifCond .eq 0) 66 [], e_0 53 (.iload 3), e_v 54 8, e_j 55 (.if_icmp .ge 0) 64 [], e_0 56 (.lload 4), e_0 57 (.aload 0), e_0 58 (.iload 1), e_0 59 (.iload 3), e_0 60 .iadd, e_c 61 (.invokevirtual 0) 165 2 1 [(0,10)], e_c 62 (.invokestatic 0) 147 2 2 [(0,0)], e_0 63 (.lstore 4), e_i 64 3 (1), e_j 65 (.goto 0) 46 [(0,1),(0,1),(0,0),(0,1),(0,1),(0,0),(0,0),(0,0)], e_0 66 (.iload 3), e_v 67 8, e_j 68 (.if_icmp .le 0) 71 [], e_v 69 3, e_j 70 (.goto 0) 72 [], e_v 71 1, e_0 72 (.istore 6), e_0 73 (.iload 3), e_v 74 8, e_j 75 (.if_icmp .gt 0) 94 [], e_v 76 0, e_0 77 (.istore 7), e_0 78 (.iload 7), e_v 79 3, e_j 80 (.if_icmp .ge 0) 94 [], e_0 81 (.aload 0), e_a 82 (.getfield 0) 9 2 10, e_0 83 (.iload 7), e_0 84 .laload, e_0 85 (.lload 4), e_0 86 .lcmp, e_j 87 (.ifCond .ne 0) 92 [], e_v 88 20, e_0 89 (.iload 7), e_0 90 .iadd, e_0 91 (.istore 6), e_i 92 7 (1), e_j 93 (.goto 0) 78 [(0,1),(0,1),(0,0),(0,1),(0,1),(0,0),(0,1),(0,1)], e_0 94 (.aload 0), e_0 95 (.iload 6), e_0 96 (.iload 1), e_v 97 0, e_0 98 (.lload 4), e_c 99 (.invokevirtual 0) 166 5 0 [(0,10)], e_0 100 (.iload 1), e_0 101 (.iload 3), e_0 102 .iadd, e_0 103 (.istore 1), e_j 104 (.goto 0) 159 [], e_0 105 (.iload 2), e_c 106 (.invokestatic 0) 168 1 1 [(0,0)], e_j 107 (.ifCond .eq 0) 152 [], e_v 108 0, e_0 109 (.istore 3), e_v 110 0, e_0 111 (.istore 4), e_0 112 (.aload 0), e_0 113 (.iload 1), e_0 114 (.iload 3), e_0 115 .iadd, e_c 116 (.invokevirtual 0) 165 2 1 [(0,10)], e_c 117 (.invokestatic 0) 168 1 1 [(0,0)], e_j 118 (.ifCond .eq 0) 136 [], e_0 119 (.iload 4), e_v 120 100000, e_j 121 (.if_icmp .ge 0) 134 [], e_v 122 10, e_0 123 (.iload 4), e_0 124 .imul, e_0 125 (.aload 0), e_0 126 (.iload 1), e_0 127 (.iload 3), e_0 128 .iadd, e_c 129 (.invokevirtual 0) 165 2 1 [(0,10)], e_0 130 .iadd, e_v 131 48, e_0 132 .isub, e_0 133 (.istore 4), e_i 134 3 (1), e_j 135 (.goto 0) 112 [(0,1),(0,1),(0,0),(0,1),(0,1),(0,0),(0,0),(0,0)], e_0 136 (.aload 0), e_0 137 (.iload 3), e_v 138 13, e_j 139 (.if_icmp .le 0) 142 [], e_v 140 3, e_j 141 (.goto 0) 143 [], e_v 142 2, e_0 143 (.iload 1), e_0 144 (.iload 4), e_w 145 0, e_c 146 (.invokevirtual 0) 166 5 0 [(0,10)], e_0 147 (.iload 1), e_0 148 (.iload 3), e_0 149 .iadd, e_0 150 (.istore 1), e_j 151 (.goto 0) 159 [], e_0 152 (.iload 1), e_0 153 (.aload 0), e_0 154 (.iload 1), e_0 155 (.iload 2), e_c 156 (.invokevirtual 0) 169 3 1 [(0,10)], e_0 157 .iadd, e_0 158 (.istore 1), e_j 159 (.goto 0) 5 [(0,1),(0,1),(0,0),(0,0),(0,0),(0,0),(0,0),(0,0)], e_0 160 .return_]
abbrev n_M_cutsText : Nat := 164
def p_M_byteAt : List Ent := [e_0 0 (.iload 1), e_0 1 (.aload 0), e_a 2 (.getfield 0) 4 0 10, e_j 3 (.if_icmp .ge 0) 11 [], e_0 4 (.aload 0), e_a 5 (.getfield 0) 3 2 10, e_0 6 (.iload 1), e_0 7 .baload, e_v 8 255, e_0 9 .iand, e_j 10 (.goto 0) 12 [], e_v 11 0, e_a 12 .ireturn 0 0 0]
abbrev n_M_byteAt : Nat := 165
def p_M_token : List Ent := [e_0 0 (.aload 0), e_a 1 (.getfield 0) 5 2 10, e_0 2 (.aload 0), e_a 3 (.getfield 0) 10 0 10, e_0 4 (.iload 1), e_0 5 .iastore, e_0 6 (.aload 0), e_a 7 (.getfield 0) 6 2 10, e_0 8 (.aload 0), e_a 9 (.getfield 0) 10 0 10, e_0 10 (.iload 2), e_0 11 .iastore, e_0 12 (.aload 0), e_a 13 (.getfield 0) 7 2 10, e_0 14 (.aload 0), e_a 15 (.getfield 0) 10 0 10, e_0 16 (.iload 3), e_0 17 .iastore, e_0 18 (.aload 0), e_a 19 (.getfield 0) 8 2 10, e_0 20 (.aload 0), e_a 21 (.getfield 0) 10 0 10, e_0 22 (.lload 4), e_0 23 .lastore, e_0 24 (.aload 0), e_0 25 .dup, e_a 26 (.getfield 0) 10 0 10, e_v 27 1, e_0 28 .iadd, e_a 29 (.putfield 0) 10 0 10, e_0 30 .return_]
abbrev n_M_token : Nat := 166
def p_M_isLetter : List Ent := [e_0 0 (.iload 0), e_v 1 97, e_j 2 (.if_icmp .lt 0) 8 [], e_0 3 (.iload 0), e_v 4 122, e_j 5 (.if_icmp .gt 0) 8 [], e_v 6 1, e_j 7 (.goto 0) 9 [], e_v 8 0, e_a 9 .ireturn 1 0 0]
abbrev n_M_isLetter : Nat := 167
def p_M_isDigit : List Ent := [e_0 0 (.iload 0), e_v 1 48, e_j 2 (.if_icmp .lt 0) 8 [], e_0 3 (.iload 0), e_v 4 57, e_j 5 (.if_icmp .gt 0) 8 [], e_v 6 1, e_j 7 (.goto 0) 9 [], e_v 8 0, e_a 9 .ireturn 1 0 0]
abbrev n_M_isDigit : Nat := 168
def p_M_sign : List Ent := [e_0 0 (.aload 0), e_0 1 (.iload 2), e_v 2 59, e_j 3 (.if_icmp .ne 0) 6 [], e_v 4 4, e_j 5 (.goto 0) 37 [], e_0 6 (.iload 2), e_v 7 43, e_j 8 (.if_icmp .ne 0) 11 [], e_v 9 5, e_j 10 (.goto 0) 37 [], e_0 11 (.iload 2), e_v 12 42, e_j 13 (.if_icmp .ne 0) 16 [], e_v 14 6, e_j 15 (.goto 0) 37 [], e_0 16 (.iload 2), e_v 17 47, e_j 18 (.if_icmp .ne 0) 21 [], e_v 19 7, e_j 20 (.goto 0) 37 [], e_0 21 (.iload 2), e_v 22 94, e_j 23 (.if_icmp .ne 0) 26 [], e_v 24 8, e_j 25 (.goto 0) 37 [], e_0 26 (.iload 2), e_v 27 40, e_j 28 (.if_icmp .ne 0) 31 [], e_v 29 9, e_j 30 (.goto 0) 37 [], e_0 31 (.iload 2), e_v 32 41, e_j 33 (.if_icmp .ne 0) 36 [], e_v 34 10, e_j 35 (.goto 0) 37 [], e_v 36 3, e_0 37 (.iload 1), e_v 38 0, e_w 39 0, e_c 40 (.invokevirtual 0) 166 5 0 [(0,10)], e_v 41 1, e_a 42 .ireturn 0 0 0]
abbrev n_M_sign : Nat := 169
def p_M_is : List Ent := [e_0 0 (.aload 0), e_a 1 (.getfield 0) 12 0 10, e_j 2 (.ifCond .ne 0) 12 [], e_0 3 (.aload 0), e_a 4 (.getfield 0) 5 2 10, e_0 5 (.aload 0), e_a 6 (.getfield 0) 11 0 10, e_0 7 .iaload, e_0 8 (.iload 1), e_j 9 (.if_icmp .ne 0) 12 [], e_v 10 1, e_j 11 (.goto 0) 13 [], e_v 12 0, e_a 13 .ireturn 1 0 0]
abbrev n_M_is : Nat := 170
def p_M_tell : List Ent := [e_0 0 (.aload 0), e_a 1 (.getfield 0) 5 2 10, e_0 2 (.aload 0), e_a 3 (.getfield 0) 11 0 10, e_0 4 .iaload, e_0 5 (.istore 1), e_0 6 (.iload 1), e_v 7 20, e_j 8 (.if_icmp .eq 0) 16 [], e_0 9 (.iload 1), e_v 10 21, e_j 11 (.if_icmp .eq 0) 16 [], e_0 12 (.aload 0), e_v 13 1, e_c 14 (.invokevirtual 0) 172 2 0 [(0,10)], e_0 15 .return_, e_0 16 (.iload 1), e_v 17 21, e_j 18 (.if_icmp .ne 0) 27 [], e_0 19 (.aload 0), e_a 20 (.getfield 0) 20 0 10, e_v 21 8, e_j 22 (.if_icmp .ne 0) 27 [], e_0 23 (.aload 0), e_v 24 2, e_c 25 (.invokevirtual 0) 172 2 0 [(0,10)], e_0 26 .return_, e_0 27 (.aload 0), e_c 28 (.invokevirtual 0) 173 1 0 [(0,10)], e_0 29 (.iload 1), e_v 30 21, e_j 31 (.if_icmp .ne 0) 47 [], e_0 32 (.aload 0), e_0 33 .dup, e_a 34 (.getfield 0) 20 0 10, e_v 35 1, e_0 36 .iadd, e_a 37 (.putfield 0) 20 0 10, e_0 38 (.aload 0), e_v 39 1, e_c 40 (.invokevirtual 0) 174 2 0 [(0,10)], e_0 41 (.aload 0), e_v 42 2, e_c 43 (.invokevirtual 0) 174 2 0 [(0,10)], e_0 44 (.aload 0), e_c 45 (.invokevirtual 0) 175 1 0 [(0,10)], e_j 46 (.goto 0) 53 [], e_0 47 (.aload 0), e_v 48 2, e_c 49 (.invokevirtual 0) 174 2 0 [(0,10)], e_0 50 (.aload 0), e_v 51 2, e_c 52 (.invokevirtual 0) 174 2 0 [(0,10)], e_0 53 (.aload 0), e_v 54 4, e_c 55 (.invokevirtual 0) 174 2 0 [(0,10)], e_0 56 .return_]
abbrev n_M_tell : Nat := 171
def p_M_fail : List Ent := [e_0 0 (.aload 0), e_a 1 (.getfield 0) 12 0 10, e_j 2 (.ifCond .le 0) 4 [], e_0 3 .return_, e_0 4 (.aload 0), e_0 5 (.iload 1), e_a 6 (.putfield 0) 12 0 10, e_0 7 (.aload 0), e_0 8 (.aload 0), e_a 9 (.getfield 0) 6 2 10, e_0 10 (.aload 0), e_a 11 (.getfield 0) 11 0 10, e_0 12 .iaload, e_a 13 (.putfield 0) 13 0 10, e_0 14 .return_]
abbrev n_M_fail : Nat := 172
def p_M_passes : List Ent := [e_0 0 (.aload 0), e_a 1 (.getfield 0) 11 0 10, e_v 2 400, e_j 3 (.if_icmp .ne 0) 8 [], e_0 4 (.aload 0), e_v 5 2, e_c 6 (.invokevirtual 0) 172 2 0 [(0,10)], e_j 7 (.goto 0) 14 [], e_0 8 (.aload 0), e_0 9 .dup, e_a 10 (.getfield 0) 11 0 10, e_v 11 1, e_0 12 .iadd, e_a 13 (.putfield 0) 11 0 10, e_0 14 .return_]
abbrev n_M_passes : Nat := 173
def p_M_must : List Ent := [e_0 0 (.aload 0), e_0 1 (.iload 1), e_c 2 (.invokevirtual 0) 170 2 1 [(0,10)], e_j 3 (.ifCond .eq 0) 7 [], e_0 4 (.aload 0), e_c 5 (.invokevirtual 0) 173 1 0 [(0,10)], e_j 6 (.goto 0) 10 [], e_0 7 (.aload 0), e_v 8 1, e_c 9 (.invokevirtual 0) 172 2 0 [(0,10)], e_0 10 .return_]
abbrev n_M_must : Nat := 174
def p_M_expression : List Ent := [e_v 0 1, e_0 1 (.istore 1), e_v 2 0, e_0 3 (.istore 2), e_0 4 (.aload 0), e_a 5 (.getfield 0) 12 0 10, e_j 6 (.ifCond .ne 0) 76 [], e_0 7 (.iload 1), e_j 8 (.ifCond .eq 0) 24 [], e_0 9 (.aload 0), e_v 10 9, e_c 11 (.invokevirtual 0) 170 2 1 [(0,10)], e_j 12 (.ifCond .eq 0) 24 [], e_0 13 (.iload 2), e_v 14 8, e_j 15 (.if_icmp .ne 0) 20 [], e_0 16 (.aload 0), e_v 17 2, e_c 18 (.invokevirtual 0) 172 2 0 [(0,10)], e_j 19 (.goto 0) 22 [], e_0 20 (.aload 0), e_c 21 (.invokevirtual 0) 173 1 0 [(0,10)], e_i 22 2 (1), e_j 23 (.goto 0) 4 [(0,1),(0,1),(0,1)], e_0 24 (.iload 1), e_j 25 (.ifCond .eq 0) 49 [], e_0 26 (.aload 0), e_v 27 22, e_c 28 (.invokevirtual 0) 170 2 1 [(0,10)], e_j 29 (.ifCond .ne 0) 38 [], e_0 30 (.aload 0), e_v 31 2, e_c 32 (.invokevirtual 0) 170 2 1 [(0,10)], e_j 33 (.ifCond .ne 0) 38 [], e_0 34 (.aload 0), e_v 35 1, e_c 36 (.invokevirtual 0) 170 2 1 [(0,10)], e_j 37 (.ifCond .eq 0) 41 [], e_0 38 (.aload 0), e_c 39 (.invokevirtual 0) 173 1 0 [(0,10)], e_j 40 (.goto 0) 44 [], e_0 41 (.aload 0), e_v 42 1, e_c 43 (.invokevirtual 0) 172 2 0 [(0,10)], e_0 44 (.aload 0), e_c 45 (.invokevirtual 0) 176 1 0 [(0,10)], e_v 46 0, e_0 47 (.istore 1), e_j 48 (.goto 0) 4 [(0,1),(0,1),(0,1)], e_0 49 (.aload 0), e_v 50 5, e_c 51 (.invokevirtual 0) 170 2 1 [(0,10)], e_j 52 (.ifCond .ne 0) 61 [], e_0 53 (.aload 0), e_v 54 6, e_c 55 (.invokevirtual 0) 170 2 1 [(0,10)], e_j 56 (.ifCond .ne 0) 61 [], e_0 57 (.aload 0), e_v 58 7, e_c 59 (.invokevirtual 0) 170 2 1 [(0,10)], e_j 60 (.ifCond .eq 0) 66 [], e_0 61 (.aload 0), e_c 62 (.invokevirtual 0) 173 1 0 [(0,10)], e_v 63 1, e_0 64 (.istore 1), e_j 65 (.goto 0) 4 [(0,1),(0,1),(0,1)], e_0 66 (.iload 2), e_j 67 (.ifCond .ne 0) 69 [], e_0 68 .return_, e_0 69 (.aload 0), e_v 70 10, e_c 71 (.invokevirtual 0) 174 2 0 [(0,10)], e_i 72 2 (-1), e_0 73 (.aload 0), e_c 74 (.invokevirtual 0) 176 1 0 [(0,10)], e_j 75 (.goto 0) 4 [(0,1),(0,1),(0,1)], e_0 76 .return_]
abbrev n_M_expression : Nat := 175
def p_M_maybePower : List Ent := [e_0 0 (.aload 0), e_v 1 8, e_c 2 (.invokevirtual 0) 170 2 1 [(0,10)], e_j 3 (.ifCond .ne 0) 5 [], e_0 4 .return_, e_0 5 (.aload 0), e_c 6 (.invokevirtual 0) 173 1 0 [(0,10)], e_0 7 (.aload 0), e_v 8 2, e_c 9 (.invokevirtual 0) 174 2 0 [(0,10)], e_0 10 .return_]
abbrev n_M_maybePower : Nat := 176
def p_M_puts : List Ent := [e_v 0 0, e_0 1 (.istore 1), e_0 2 (.iload 1), e_0 3 (.aload 0), e_a 4 (.getfield 0) 24 0 10, e_j 5 (.if_icmp .ge 0) 32 [], e_0 6 (.aload 0), e_a 7 (.getfield 0) 30 2 10, e_0 8 (.iload 1), e_0 9 (.aload 0), e_a 10 (.getfield 0) 21 2 10, e_0 11 (.iload 1), e_0 12 .iaload, e_0 13 .iastore, e_0 14 (.aload 0), e_a 15 (.getfield 0) 31 2 10, e_0 16 (.iload 1), e_0 17 (.aload 0), e_a 18 (.getfield 0) 22 2 10, e_0 19 (.iload 1), e_0 20 .iaload, e_0 21 .iastore, e_0 22 (.aload 0), e_a 23 (.getfield 0) 32 2 10, e_0 24 (.iload 1), e_0 25 (.aload 0), e_a 26 (.getfield 0) 23 2 10, e_0 27 (.iload 1), e_0 28 .iaload, e_0 29 .iastore, e_i 30 1 (1), e_j 31 (.goto 0) 2 [(0,1),(0,1)], e_0 32 (.aload 0), e_0 33 (.aload 0), e_a 34 (.getfield 0) 24 0 10, e_a 35 (.putfield 0) 35 0 10, e_0 36 (.aload 0), e_a 37 (.getfield 0) 33 2 10, e_v 38 25, e_0 39 (.aload 0), e_a 40 (.getfield 0) 29 0 10, e_0 41 .iastore, e_v 42 0, e_0 43 (.istore 1), e_0 44 (.iload 1), e_v 45 8, e_j 46 (.if_icmp .ge 0) 77 [], e_0 47 (.aload 0), e_a 48 (.getfield 0) 33 2 10, e_0 49 (.iload 1), e_0 50 (.aload 0), e_a 51 (.getfield 0) 25 2 10, e_0 52 (.iload 1), e_0 53 .iaload, e_0 54 .iastore, e_0 55 (.aload 0), e_a 56 (.getfield 0) 33 2 10, e_v 57 8, e_0 58 (.iload 1), e_0 59 .iadd, e_0 60 (.aload 0), e_a 61 (.getfield 0) 26 2 10, e_0 62 (.iload 1), e_0 63 .iaload, e_0 64 .iastore, e_0 65 (.aload 0), e_a 66 (.getfield 0) 33 2 10, e_v 67 16, e_0 68 (.iload 1), e_0 69 .iadd, e_0 70 (.aload 0), e_a 71 (.getfield 0) 27 2 10, e_0 72 (.iload 1), e_0 73 .iaload, e_0 74 .iastore, e_i 75 1 (1), e_j 76 (.goto 0) 44 [(0,1),(0,1)], e_0 77 (.aload 0), e_a 78 (.getfield 0) 33 2 10, e_v 79 24, e_0 80 (.aload 0), e_a 81 (.getfield 0) 25 2 10, e_v 82 8, e_0 83 .iaload, e_0 84 .iastore, e_v 85 1, e_0 86 (.istore 1), e_0 87 (.iload 1), e_v 88 12, e_j 89 (.if_icmp .gt 0) 100 [], e_0 90 (.aload 0), e_a 91 (.getfield 0) 34 2 10, e_0 92 (.iload 1), e_0 93 (.aload 0), e_a 94 (.getfield 0) 18 2 10, e_0 95 (.iload 1), e_0 96 .iaload, e_0 97 .iastore, e_i 98 1 (1), e_j 99 (.goto 0) 87 [(0,1),(0,1)], e_0 100 .return_]
abbrev n_M_puts : Nat := 177
def p_M_means : List Ent := [e_v 0 1, e_0 1 (.istore 1), e_0 2 (.iload 1), e_v 3 12, e_j 4 (.if_icmp .gt 0) 14 [], e_0 5 (.aload 0), e_a 6 (.getfield 0) 19 2 10, e_0 7 (.iload 1), e_0 8 (.aload 0), e_0 9 (.iload 1), e_c 10 (.invokevirtual 0) 151 2 1 [(0,10)], e_0 11 .iastore, e_i 12 1 (1), e_j 13 (.goto 0) 2 [(0,1),(0,1)], e_0 14 (.aload 0), e_v 15 0, e_a 16 (.putfield 0) 24 0 10, e_0 17 (.aload 0), e_v 18 0, e_a 19 (.putfield 0) 29 0 10, e_v 20 0, e_0 21 (.istore 1), e_0 22 (.iload 1), e_0 23 (.aload 0), e_a 24 (.getfield 0) 10 0 10, e_j 25 (.if_icmp .ge 0) 57 [], e_0 26 (.iload 1), e_j 27 (.ifCond .le 0) 37 [], e_0 28 (.aload 0), e_a 29 (.getfield 0) 5 2 10, e_0 30 (.iload 1), e_v 31 1, e_0 32 .isub, e_0 33 .iaload, e_v 34 4, e_j 35 (.if_icmp .eq 0) 37 [], e_j 36 (.goto 0) 55 [], e_0 37 (.aload 0), e_a 38 (.getfield 0) 5 2 10, e_0 39 (.iload 1), e_0 40 .iaload, e_v 41 20, e_j 42 (.if_icmp .ne 0) 46 [], e_0 43 (.aload 0), e_0 44 (.iload 1), e_c 45 (.invokevirtual 0) 179 2 0 [(0,10)], e_0 46 (.aload 0), e_a 47 (.getfield 0) 5 2 10, e_0 48 (.iload 1), e_0 49 .iaload, e_v 50 21, e_j 51 (.if_icmp .ne 0) 55 [], e_0 52 (.aload 0), e_0 53 (.iload 1), e_c 54 (.invokevirtual 0) 185 2 0 [(0,10)], e_i 55 1 (1), e_j 56 (.goto 0) 22 [(0,1),(0,1)], e_0 57 .return_]
abbrev n_M_means : Nat := 178
def p_M_meansModulus : List Ent := [e_0 0 (.aload 0), e_a 1 (.getfield 0) 7 2 10, e_0 2 (.iload 1), e_v 3 1, e_0 4 .iadd, e_0 5 .iaload, e_0 6 (.istore 2), e_0 7 (.iload 2), e_c 8 (.invokestatic 0) 180 1 1 [(0,0)], e_j 9 (.ifCond .ne 0) 17 [], e_0 10 (.aload 0), e_v 11 5, e_0 12 (.iload 1), e_v 13 1, e_0 14 .iadd, e_c 15 (.invokevirtual 0) 182 3 0 [(0,10)], e_0 16 .return_, e_0 17 (.aload 0), e_0 18 (.iload 1), e_v 19 2, e_0 20 .iadd, e_c 21 (.invokevirtual 0) 183 2 1 [(0,10)], e_0 22 (.istore 3), e_0 23 (.aload 0), e_0 24 (.iload 3), e_c 25 (.invokevirtual 0) 184 2 1 [(0,10)], e_j 26 (.ifCond .eq 0) 31 [], e_0 27 (.iload 3), e_c 28 (.invokestatic 0) 148 1 1 [(0,0)], e_0 29 (.iload 2), e_j 30 (.if_icmp .eq 0) 38 [], e_0 31 (.aload 0), e_v 32 5, e_0 33 (.iload 1), e_v 34 2, e_0 35 .iadd, e_c 36 (.invokevirtual 0) 182 3 0 [(0,10)], e_j 37 (.goto 0) 43 [], e_0 38 (.aload 0), e_a 39 (.getfield 0) 19 2 10, e_0 40 (.iload 2), e_0 41 (.iload 3), e_0 42 .iastore, e_0 43 .return_]
abbrev n_M_meansModulus : Nat := 179
def p_M_isField : List Ent := [e_0 0 (.iload 0), e_v 1 1, e_v 2 12, e_c 3 (.invokestatic 0) 181 3 1 [(0,0)], e_a 4 .ireturn 1 0 0]
abbrev n_M_isField : Nat := 180
def p_M_in : List Ent := [e_0 0 (.iload 0), e_0 1 (.iload 1), e_j 2 (.if_icmp .lt 0) 8 [], e_0 3 (.iload 0), e_0 4 (.iload 2), e_j 5 (.if_icmp .gt 0) 8 [], e_v 6 1, e_j 7 (.goto 0) 9 [], e_v 8 0, e_a 9 .ireturn 1 0 0]
abbrev n_M_in : Nat := 181
def p_M_wrong : List Ent := [e_0 0 (.aload 0), e_a 1 (.getfield 0) 6 2 10, e_0 2 (.iload 2), e_0 3 .iaload, e_0 4 (.istore 3), e_0 5 (.aload 0), e_a 6 (.getfield 0) 12 0 10, e_j 7 (.ifCond .gt 0) 23 [], e_0 8 (.aload 0), e_a 9 (.getfield 0) 14 0 10, e_j 10 (.ifCond .eq 0) 24 [], e_0 11 (.iload 3), e_0 12 (.aload 0), e_a 13 (.getfield 0) 15 0 10, e_j 14 (.if_icmp .gt 0) 23 [], e_0 15 (.iload 3), e_0 16 (.aload 0), e_a 17 (.getfield 0) 15 0 10, e_j 18 (.if_icmp .ne 0) 24 [], e_0 19 (.iload 1), e_0 20 (.aload 0), e_a 21 (.getfield 0) 14 0 10, e_j 22 (.if_icmp .lt 0) 24 [], e_0 23 .return_, e_0 24 (.aload 0), e_0 25 (.iload 1), e_a 26 (.putfield 0) 14 0 10, e_0 27 (.aload 0), e_0 28 (.iload 3), e_a 29 (.putfield 0) 15 0 10, e_0 30 .return_]
abbrev n_M_wrong : Nat := 182
def p_M_rowAt : List Ent := [e_v 0 0, e_0 1 (.istore 2), e_0 2 (.aload 0), e_a 3 (.getfield 0) 6 2 10, e_0 4 (.iload 1), e_0 5 .iaload, e_0 6 (.istore 3), e_0 7 (.aload 0), e_0 8 (.iload 3), e_c 9 (.invokevirtual 0) 165 2 1 [(0,10)], e_c 10 (.invokestatic 0) 168 1 1 [(0,0)], e_j 11 (.ifCond .eq 0) 31 [], e_0 12 (.aload 0), e_0 13 (.iload 3), e_c 14 (.invokevirtual 0) 165 2 1 [(0,10)], e_v 15 49, e_j 16 (.if_icmp .le 0) 19 [], e_v 17 (-1), e_a 18 .ireturn 0 0 0, e_v 19 2, e_0 20 (.iload 2), e_0 21 .imul, e_0 22 (.aload 0), e_0 23 (.iload 3), e_c 24 (.invokevirtual 0) 165 2 1 [(0,10)], e_0 25 .iadd, e_v 26 48, e_0 27 .isub, e_0 28 (.istore 2), e_i 29 3 (1), e_j 30 (.goto 0) 7 [(0,1),(0,0),(0,1),(0,1)], e_0 31 (.iload 2), e_a 32 .ireturn 0 0 0]
abbrev n_M_rowAt : Nat := 183
def p_M_isWhole : List Ent := [e_0 0 (.iload 1), e_v 1 2, e_v 2 8191, e_c 3 (.invokestatic 0) 181 3 1 [(0,0)], e_j 4 (.ifCond .eq 0) 12 [], e_0 5 (.aload 0), e_a 6 (.getfield 0) 17 2 10, e_0 7 (.iload 1), e_0 8 .baload, e_j 9 (.ifCond .ne 0) 12 [], e_v 10 1, e_j 11 (.goto 0) 13 [], e_v 12 0, e_a 13 .ireturn 1 0 0]
abbrev n_M_isWhole : Nat := 184
def p_M_meansLet : List Ent := [e_0 0 (.aload 0), e_a 1 (.getfield 0) 7 2 10, e_0 2 (.iload 1), e_v 3 2, e_0 4 .iadd, e_0 5 .iaload, e_0 6 (.istore 2), e_0 7 (.iload 2), e_c 8 (.invokestatic 0) 180 1 1 [(0,0)], e_j 9 (.ifCond .ne 0) 16 [], e_0 10 (.aload 0), e_v 11 5, e_0 12 (.iload 1), e_v 13 2, e_0 14 .iadd, e_c 15 (.invokevirtual 0) 182 3 0 [(0,10)], e_0 16 (.aload 0), e_0 17 (.aload 0), e_a 18 (.getfield 0) 8 2 10, e_0 19 (.iload 1), e_v 20 1, e_0 21 .iadd, e_0 22 .laload, e_c 23 (.invokevirtual 0) 186 2 1 [(0,10)], e_j 24 (.ifCond .lt 0) 31 [], e_0 25 (.aload 0), e_v 26 3, e_0 27 (.iload 1), e_v 28 1, e_0 29 .iadd, e_c 30 (.invokevirtual 0) 182 3 0 [(0,10)], e_0 31 (.aload 0), e_a 32 (.getfield 0) 25 2 10, e_0 33 (.aload 0), e_a 34 (.getfield 0) 29 0 10, e_0 35 (.aload 0), e_a 36 (.getfield 0) 24 0 10, e_0 37 .iastore, e_0 38 (.aload 0), e_v 39 0, e_a 40 (.putfield 0) 37 0 10, e_0 41 (.iload 1), e_v 42 3, e_0 43 .iadd, e_0 44 (.istore 3), e_0 45 (.aload 0), e_a 46 (.getfield 0) 5 2 10, e_0 47 (.iload 3), e_0 48 .iaload, e_v 49 4, e_j 50 (.if_icmp .eq 0) 57 [], e_0 51 (.aload 0), e_0 52 (.iload 3), e_0 53 (.iload 2), e_c 54 (.invokevirtual 0) 187 3 0 [(0,10)], e_i 55 3 (1), e_j 56 (.goto 0) 45 [(0,1),(0,1),(0,1),(0,1)], e_0 57 (.aload 0), e_v 58 1, e_c 59 (.invokevirtual 0) 189 2 0 [(0,10)], e_0 60 (.aload 0), e_a 61 (.getfield 0) 28 2 10, e_0 62 (.aload 0), e_a 63 (.getfield 0) 29 0 10, e_0 64 (.aload 0), e_a 65 (.getfield 0) 8 2 10, e_0 66 (.iload 1), e_v 67 1, e_0 68 .iadd, e_0 69 .laload, e_0 70 .lastore, e_0 71 (.aload 0), e_a 72 (.getfield 0) 26 2 10, e_0 73 (.aload 0), e_a 74 (.getfield 0) 29 0 10, e_0 75 (.iload 2), e_0 76 .iastore, e_0 77 (.aload 0), e_0 78 .dup, e_a 79 (.getfield 0) 29 0 10, e_v 80 1, e_0 81 .iadd, e_a 82 (.putfield 0) 29 0 10, e_0 83 (.aload 0), e_a 84 (.getfield 0) 25 2 10, e_0 85 (.aload 0), e_a 86 (.getfield 0) 29 0 10, e_0 87 (.aload 0), e_a 88 (.getfield 0) 24 0 10, e_0 89 .iastore, e_0 90 .return_]
abbrev n_M_meansLet : Nat := 185
def p_M_named : List Ent := [e_v 0 0, e_0 1 (.istore 3), e_0 2 (.iload 3), e_0 3 (.aload 0), e_a 4 (.getfield 0) 29 0 10, e_j 5 (.if_icmp .ge 0) 17 [], e_0 6 (.aload 0), e_a 7 (.getfield 0) 28 2 10, e_0 8 (.iload 3), e_0 9 .laload, e_0 10 (.lload 1), e_0 11 .lcmp, e_j 12 (.ifCond .ne 0) 15 [], e_0 13 (.iload 3), e_a 14 .ireturn 0 0 0, e_i 15 3 (1), e_j 16 (.goto 0) 2 [(0,1),(0,1),(0,0),(0,1)], e_v 17 (-1), e_a 18 .ireturn 0 0 0]
abbrev n_M_named : Nat := 186
def p_M_meansToken : List Ent := [e_0 0 (.aload 0), e_a 1 (.getfield 0) 5 2 10, e_0 2 (.iload 1), e_0 3 .iaload, e_j 4 (.lookupswitch 0 #[]) 137 [(1,54),(2,11),(3,137),(4,137),(5,117),(6,117),(7,117),(8,137),(9,94),(10,107),(11,137),(12,137),(13,137),(14,137),(15,137),(16,137),(17,137),(18,137),(19,137),(20,137),(21,137),(22,5)], e_0 5 (.aload 0), e_v 6 0, e_v 7 0, e_v 8 0, e_c 9 (.invokevirtual 0) 188 4 0 [(0,10)], e_j 10 (.goto 0) 137 [], e_0 11 (.aload 0), e_a 12 (.getfield 0) 5 2 10, e_0 13 (.iload 1), e_v 14 1, e_0 15 .isub, e_0 16 .iaload, e_v 17 8, e_j 18 (.if_icmp .ne 0) 38 [], e_0 19 (.aload 0), e_a 20 (.getfield 0) 7 2 10, e_0 21 (.iload 1), e_0 22 .iaload, e_v 23 9999, e_j 24 (.if_icmp .le 0) 29 [], e_0 25 (.aload 0), e_v 26 5, e_0 27 (.iload 1), e_c 28 (.invokevirtual 0) 182 3 0 [(0,10)], e_0 29 (.aload 0), e_v 30 6, e_0 31 (.aload 0), e_a 32 (.getfield 0) 7 2 10, e_0 33 (.iload 1), e_0 34 .iaload, e_v 35 0, e_c 36 (.invokevirtual 0) 188 4 0 [(0,10)], e_j 37 (.goto 0) 137 [], e_0 38 (.aload 0), e_0 39 (.iload 1), e_c 40 (.invokevirtual 0) 183 2 1 [(0,10)], e_j 41 (.ifCond .ge 0) 46 [], e_0 42 (.aload 0), e_v 43 5, e_0 44 (.iload 1), e_c 45 (.invokevirtual 0) 182 3 0 [(0,10)], e_0 46 (.aload 0), e_v 47 1, e_0 48 (.aload 0), e_0 49 (.iload 1), e_c 50 (.invokevirtual 0) 183 2 1 [(0,10)], e_v 51 0, e_c 52 (.invokevirtual 0) 188 4 0 [(0,10)], e_j 53 (.goto 0) 137 [], e_0 54 (.aload 0), e_0 55 (.aload 0), e_a 56 (.getfield 0) 8 2 10, e_0 57 (.iload 1), e_0 58 .laload, e_c 59 (.invokevirtual 0) 186 2 1 [(0,10)], e_0 60 (.istore 3), e_0 61 (.iload 3), e_j 62 (.ifCond .ge 0) 68 [], e_0 63 (.aload 0), e_v 64 4, e_0 65 (.iload 1), e_c 66 (.invokevirtual 0) 182 3 0 [(0,10)], e_j 67 (.goto 0) 88 [], e_0 68 (.iload 2), e_c 69 (.invokestatic 0) 180 1 1 [(0,0)], e_j 70 (.ifCond .eq 0) 88 [], e_0 71 (.aload 0), e_a 72 (.getfield 0) 26 2 10, e_0 73 (.iload 3), e_0 74 .iaload, e_c 75 (.invokestatic 0) 180 1 1 [(0,0)], e_j 76 (.ifCond .eq 0) 88 [], e_0 77 (.iload 2), e_0 78 (.aload 0), e_a 79 (.getfield 0) 26 2 10, e_0 80 (.iload 3), e_0 81 .iaload, e_0 82 .irem, e_j 83 (.ifCond .eq 0) 88 [], e_0 84 (.aload 0), e_v 85 6, e_0 86 (.iload 1), e_c 87 (.invokevirtual 0) 182 3 0 [(0,10)], e_0 88 (.aload 0), e_v 89 2, e_0 90 (.iload 3), e_v 91 0, e_c 92 (.invokevirtual 0) 188 4 0 [(0,10)], e_j 93 (.goto 0) 137 [], e_0 94 (.aload 0), e_a 95 (.getfield 0) 36 2 10, e_0 96 (.aload 0), e_a 97 (.getfield 0) 37 0 10, e_0 98 (.iload 1), e_0 99 .iastore, e_0 100 (.aload 0), e_0 101 .dup, e_a 102 (.getfield 0) 37 0 10, e_v 103 1, e_0 104 .iadd, e_a 105 (.putfield 0) 37 0 10, e_j 106 (.goto 0) 137 [], e_0 107 (.aload 0), e_v 108 1, e_c 109 (.invokevirtual 0) 189 2 0 [(0,10)], e_0 110 (.aload 0), e_0 111 .dup, e_a 112 (.getfield 0) 37 0 10, e_v 113 1, e_0 114 .isub, e_a 115 (.putfield 0) 37 0 10, e_j 116 (.goto 0) 137 [], e_0 117 (.aload 0), e_0 118 (.aload 0), e_a 119 (.getfield 0) 5 2 10, e_0 120 (.iload 1), e_0 121 .iaload, e_c 122 (.invokestatic 0) 190 1 1 [(0,0)], e_c 123 (.invokevirtual 0) 189 2 0 [(0,10)], e_0 124 (.aload 0), e_a 125 (.getfield 0) 36 2 10, e_0 126 (.aload 0), e_a 127 (.getfield 0) 37 0 10, e_0 128 (.iload 1), e_0 129 .iastore, e_0 130 (.aload 0), e_0 131 .dup, e_a 132 (.getfield 0) 37 0 10, e_v 133 1, e_0 134 .iadd, e_a 135 (.putfield 0) 37 0 10, e_j 136 (.goto 0) 137 [], e_0 137 .return_]
abbrev n_M_meansToken : Nat := 187
def p_M_step : List Ent := [e_0 0 (.aload 0), e_a 1 (.getfield 0) 21 2 10, e_0 2 (.aload 0), e_a 3 (.getfield 0) 24 0 10, e_0 4 (.iload 1), e_0 5 .iastore, e_0 6 (.aload 0), e_a 7 (.getfield 0) 22 2 10, e_0 8 (.aload 0), e_a 9 (.getfield 0) 24 0 10, e_0 10 (.iload 2), e_0 11 .iastore, e_0 12 (.aload 0), e_a 13 (.getfield 0) 23 2 10, e_0 14 (.aload 0), e_a 15 (.getfield 0) 24 0 10, e_0 16 (.iload 3), e_0 17 .iastore, e_0 18 (.aload 0), e_0 19 .dup, e_a 20 (.getfield 0) 24 0 10, e_v 21 1, e_0 22 .iadd, e_a 23 (.putfield 0) 24 0 10, e_0 24 .return_]
abbrev n_M_step : Nat := 188
def p_M_settles : List Ent := [e_0 0 (.aload 0), e_a 1 (.getfield 0) 37 0 10, e_j 2 (.ifCond .le 0) 54 [], e_0 3 (.aload 0), e_a 4 (.getfield 0) 5 2 10, e_0 5 (.aload 0), e_a 6 (.getfield 0) 36 2 10, e_0 7 (.aload 0), e_a 8 (.getfield 0) 37 0 10, e_v 9 1, e_0 10 .isub, e_0 11 .iaload, e_0 12 .iaload, e_c 13 (.invokestatic 0) 190 1 1 [(0,0)], e_0 14 (.iload 1), e_j 15 (.if_icmp .lt 0) 54 [], e_0 16 (.aload 0), e_0 17 .dup, e_a 18 (.getfield 0) 37 0 10, e_v 19 1, e_0 20 .isub, e_a 21 (.putfield 0) 37 0 10, e_0 22 (.aload 0), e_a 23 (.getfield 0) 5 2 10, e_0 24 (.aload 0), e_a 25 (.getfield 0) 36 2 10, e_0 26 (.aload 0), e_a 27 (.getfield 0) 37 0 10, e_0 28 .iaload, e_0 29 .iaload, e_0 30 (.istore 2), e_0 31 (.aload 0), e_0 32 (.iload 2), e_v 33 5, e_j 34 (.if_icmp .ne 0) 37 [], e_v 35 3, e_j 36 (.goto 0) 43 [], e_0 37 (.iload 2), e_v 38 6, e_j 39 (.if_icmp .ne 0) 42 [], e_v 40 4, e_j 41 (.goto 0) 43 [], e_v 42 5, e_v 43 0, e_0 44 (.aload 0), e_a 45 (.getfield 0) 6 2 10, e_0 46 (.aload 0), e_a 47 (.getfield 0) 36 2 10, e_0 48 (.aload 0), e_a 49 (.getfield 0) 37 0 10, e_0 50 .iaload, e_0 51 .iaload, e_c 52 (.invokevirtual 0) 188 4 0 [(0,10)], e_j 53 (.goto 0) 0 [(0,1),(0,1),(0,0)], e_0 54 .return_]
abbrev n_M_settles : Nat := 189
def p_M_rank : List Ent := [e_0 0 (.iload 0), e_v 1 5, e_j 2 (.if_icmp .ne 0) 5 [], e_v 3 1, e_j 4 (.goto 0) 14 [], e_0 5 (.iload 0), e_v 6 6, e_j 7 (.if_icmp .eq 0) 11 [], e_0 8 (.iload 0), e_v 9 7, e_j 10 (.if_icmp .ne 0) 13 [], e_v 11 2, e_j 12 (.goto 0) 14 [], e_v 13 0, e_a 14 .ireturn 0 0 0]
abbrev n_M_rank : Nat := 190
def p_M_works : List Ent := [e_v 0 0, e_0 1 (.istore 1), e_0 2 (.iload 1), e_0 3 (.aload 0), e_a 4 (.getfield 0) 29 0 10, e_j 5 (.if_icmp .ge 0) 16 [], e_0 6 (.aload 0), e_0 7 (.iload 1), e_c 8 (.invokevirtual 0) 192 2 1 [(0,10)], e_0 9 (.istore 2), e_0 10 (.iload 2), e_j 11 (.ifCond .lt 0) 14 [], e_0 12 (.iload 2), e_a 13 .ireturn 0 0 0, e_i 14 1 (1), e_j 15 (.goto 0) 2 [(0,1),(0,1),(0,0)], e_v 16 (-1), e_a 17 .ireturn 0 0 0]
abbrev n_M_works : Nat := 191
def p_M_worksOne : List Ent := [e_0 0 (.aload 0), e_a 1 (.getfield 0) 26 2 10, e_0 2 (.iload 1), e_0 3 .iaload, e_0 4 (.istore 2), e_v 5 0, e_0 6 (.istore 3), e_0 7 (.aload 0), e_a 8 (.getfield 0) 25 2 10, e_0 9 (.iload 1), e_0 10 .iaload, e_0 11 (.istore 4), e_0 12 (.iload 4), e_0 13 (.aload 0), e_a 14 (.getfield 0) 25 2 10, e_0 15 (.iload 1), e_v 16 1, e_0 17 .iadd, e_0 18 .iaload, e_j 19 (.if_icmp .ge 0) 152 [], e_0 20 (.aload 0), e_a 21 (.getfield 0) 22 2 10, e_0 22 (.iload 4), e_0 23 .iaload, e_0 24 (.istore 5), e_0 25 (.aload 0), e_a 26 (.getfield 0) 21 2 10, e_0 27 (.iload 4), e_0 28 .iaload, e_j 29 (.lookupswitch 0 #[]) 88 [(0,30),(1,42),(2,54),(3,88),(4,88),(5,88),(6,71)], e_0 30 (.aload 0), e_a 31 (.getfield 0) 38 2 10, e_0 32 (.iload 3), e_v 33 2, e_0 34 (.aload 0), e_a 35 (.getfield 0) 18 2 10, e_0 36 (.iload 2), e_0 37 .iaload, e_c 38 (.invokestatic 0) 153 2 1 [(0,0)], e_0 39 .iastore, e_i 40 3 (1), e_j 41 (.goto 0) 150 [], e_0 42 (.aload 0), e_a 43 (.getfield 0) 38 2 10, e_0 44 (.iload 3), e_0 45 (.iload 5), e_0 46 (.aload 0), e_a 47 (.getfield 0) 18 2 10, e_0 48 (.iload 2), e_0 49 .iaload, e_c 50 (.invokestatic 0) 153 2 1 [(0,0)], e_0 51 .iastore, e_i 52 3 (1), e_j 53 (.goto 0) 150 [], e_0 54 (.aload 0), e_a 55 (.getfield 0) 38 2 10, e_0 56 (.iload 3), e_0 57 (.aload 0), e_0 58 (.aload 0), e_a 59 (.getfield 0) 26 2 10, e_0 60 (.iload 5), e_0 61 .iaload, e_0 62 (.iload 2), e_0 63 (.aload 0), e_a 64 (.getfield 0) 27 2 10, e_0 65 (.iload 5), e_0 66 .iaload, e_c 67 (.invokevirtual 0) 155 4 1 [(0,10)], e_0 68 .iastore, e_i 69 3 (1), e_j 70 (.goto 0) 150 [], e_0 71 (.aload 0), e_a 72 (.getfield 0) 38 2 10, e_0 73 (.iload 3), e_v 74 1, e_0 75 .isub, e_0 76 (.aload 0), e_0 77 (.iload 2), e_0 78 (.aload 0), e_a 79 (.getfield 0) 38 2 10, e_0 80 (.iload 3), e_v 81 1, e_0 82 .isub, e_0 83 .iaload, e_0 84 (.iload 5), e_c 85 (.invokevirtual 0) 193 4 1 [(0,10)], e_0 86 .iastore, e_j 87 (.goto 0) 150 [], e_i 88 3 (-1), e_0 89 (.aload 0), e_a 90 (.getfield 0) 38 2 10, e_0 91 (.iload 3), e_v 92 1, e_0 93 .isub, e_0 94 .iaload, e_0 95 (.istore 6), e_0 96 (.aload 0), e_a 97 (.getfield 0) 38 2 10, e_0 98 (.iload 3), e_0 99 .iaload, e_0 100 (.istore 7), e_0 101 (.aload 0), e_a 102 (.getfield 0) 21 2 10, e_0 103 (.iload 4), e_0 104 .iaload, e_v 105 5, e_j 106 (.if_icmp .ne 0) 114 [], e_0 107 (.iload 7), e_j 108 (.ifCond .ne 0) 114 [], e_0 109 (.aload 0), e_a 110 (.getfield 0) 23 2 10, e_0 111 (.iload 4), e_0 112 .iaload, e_a 113 .ireturn 0 0 0, e_0 114 (.aload 0), e_a 115 (.getfield 0) 38 2 10, e_0 116 (.iload 3), e_v 117 1, e_0 118 .isub, e_0 119 (.aload 0), e_a 120 (.getfield 0) 21 2 10, e_0 121 (.iload 4), e_0 122 .iaload, e_v 123 3, e_j 124 (.if_icmp .ne 0) 129 [], e_0 125 (.iload 6), e_0 126 (.iload 7), e_0 127 .ixor, e_j 128 (.goto 0) 149 [], e_0 129 (.aload 0), e_a 130 (.getfield 0) 21 2 10, e_0 131 (.iload 4), e_0 132 .iaload, e_v 133 4, e_j 134 (.if_icmp .ne 0) 141 [], e_0 135 (.aload 0), e_0 136 (.iload 2), e_0 137 (.iload 6), e_0 138 (.iload 7), e_c 139 (.invokevirtual 0) 156 4 1 [(0,10)], e_j 140 (.goto 0) 149 [], e_0 141 (.aload 0), e_0 142 (.iload 2), e_0 143 (.iload 6), e_0 144 (.aload 0), e_0 145 (.iload 2), e_0 146 (.iload 7), e_c 147 (.invokevirtual 0) 194 3 1 [(0,10)], e_c 148 (.invokevirtual 0) 156 4 1 [(0,10)], e_0 149 .iastore, e_i 150 4 (1), e_j 151 (.goto 0) 12 [(0,1),(0,1),(0,1),(0,1),(0,1),(0,0),(0,0),(0,0)], e_0 152 (.aload 0), e_a 153 (.getfield 0) 27 2 10, e_0 154 (.iload 1), e_0 155 (.aload 0), e_a 156 (.getfield 0) 38 2 10, e_v 157 0, e_0 158 .iaload, e_0 159 .iastore, e_v 160 (-1), e_a 161 .ireturn 0 0 0]
abbrev n_M_worksOne : Nat := 192
def p_M_powered : List Ent := [e_v 0 1, e_0 1 (.istore 4), e_0 2 (.iload 2), e_0 3 (.istore 5), e_0 4 (.iload 3), e_0 5 (.istore 6), e_0 6 (.iload 6), e_j 7 (.ifCond .le 0) 29 [], e_0 8 (.iload 6), e_v 9 0, e_c 10 (.invokestatic 0) 150 2 1 [(0,0)], e_j 11 (.ifCond .eq 0) 18 [], e_0 12 (.aload 0), e_0 13 (.iload 1), e_0 14 (.iload 4), e_0 15 (.iload 5), e_c 16 (.invokevirtual 0) 156 4 1 [(0,10)], e_0 17 (.istore 4), e_0 18 (.aload 0), e_0 19 (.iload 1), e_0 20 (.iload 5), e_0 21 (.iload 5), e_c 22 (.invokevirtual 0) 156 4 1 [(0,10)], e_0 23 (.istore 5), e_0 24 (.iload 6), e_v 25 1, e_0 26 .ishr, e_0 27 (.istore 6), e_j 28 (.goto 0) 6 [(0,1),(0,1),(0,0),(0,0),(0,1),(0,1),(0,1)], e_0 29 (.iload 4), e_a 30 .ireturn 0 0 0]
abbrev n_M_powered : Nat := 193
def p_M_inverse : List Ent := [e_0 0 (.aload 0), e_0 1 (.iload 1), e_0 2 (.iload 2), e_v 3 1, e_0 4 (.iload 1), e_0 5 .ishl, e_v 6 2, e_0 7 .isub, e_c 8 (.invokevirtual 0) 193 4 1 [(0,10)], e_a 9 .ireturn 0 0 0]
abbrev n_M_inverse : Nat := 194
def p_M_takes : List Ent := [e_0 0 (.aload 0), e_0 1 (.aload 0), e_a 2 (.getfield 0) 35 0 10, e_a 3 (.putfield 0) 24 0 10, e_v 4 0, e_0 5 (.istore 1), e_0 6 (.iload 1), e_0 7 (.aload 0), e_a 8 (.getfield 0) 24 0 10, e_j 9 (.if_icmp .ge 0) 36 [], e_0 10 (.aload 0), e_a 11 (.getfield 0) 21 2 10, e_0 12 (.iload 1), e_0 13 (.aload 0), e_a 14 (.getfield 0) 30 2 10, e_0 15 (.iload 1), e_0 16 .iaload, e_0 17 .iastore, e_0 18 (.aload 0), e_a 19 (.getfield 0) 22 2 10, e_0 20 (.iload 1), e_0 21 (.aload 0), e_a 22 (.getfield 0) 31 2 10, e_0 23 (.iload 1), e_0 24 .iaload, e_0 25 .iastore, e_0 26 (.aload 0), e_a 27 (.getfield 0) 23 2 10, e_0 28 (.iload 1), e_0 29 (.aload 0), e_a 30 (.getfield 0) 32 2 10, e_0 31 (.iload 1), e_0 32 .iaload, e_0 33 .iastore, e_i 34 1 (1), e_j 35 (.goto 0) 6 [(0,1),(0,1)], e_0 36 (.aload 0), e_0 37 (.aload 0), e_a 38 (.getfield 0) 33 2 10, e_v 39 25, e_0 40 .iaload, e_a 41 (.putfield 0) 29 0 10, e_v 42 0, e_0 43 (.istore 1), e_0 44 (.iload 1), e_v 45 8, e_j 46 (.if_icmp .ge 0) 77 [], e_0 47 (.aload 0), e_a 48 (.getfield 0) 25 2 10, e_0 49 (.iload 1), e_0 50 (.aload 0), e_a 51 (.getfield 0) 33 2 10, e_0 52 (.iload 1), e_0 53 .iaload, e_0 54 .iastore, e_0 55 (.aload 0), e_a 56 (.getfield 0) 26 2 10, e_0 57 (.iload 1), e_0 58 (.aload 0), e_a 59 (.getfield 0) 33 2 10, e_v 60 8, e_0 61 (.iload 1), e_0 62 .iadd, e_0 63 .iaload, e_0 64 .iastore, e_0 65 (.aload 0), e_a 66 (.getfield 0) 27 2 10, e_0 67 (.iload 1), e_0 68 (.aload 0), e_a 69 (.getfield 0) 33 2 10, e_v 70 16, e_0 71 (.iload 1), e_0 72 .iadd, e_0 73 .iaload, e_0 74 .iastore, e_i 75 1 (1), e_j 76 (.goto 0) 44 [(0,1),(0,1)], e_0 77 (.aload 0), e_a 78 (.getfield 0) 25 2 10, e_v 79 8, e_0 80 (.aload 0), e_a 81 (.getfield 0) 33 2 10, e_v 82 24, e_0 83 .iaload, e_0 84 .iastore, e_v 85 1, e_0 86 (.istore 1), e_0 87 (.iload 1), e_v 88 12, e_j 89 (.if_icmp .gt 0) 100 [], e_0 90 (.aload 0), e_a 91 (.getfield 0) 18 2 10, e_0 92 (.iload 1), e_0 93 (.aload 0), e_a 94 (.getfield 0) 34 2 10, e_0 95 (.iload 1), e_0 96 .iaload, e_0 97 .iastore, e_i 98 1 (1), e_j 99 (.goto 0) 87 [(0,1),(0,1)], e_0 100 (.aload 0), e_c 101 (.invokevirtual 0) 152 1 0 [(0,10)], e_0 102 .return_]
abbrev n_M_takes : Nat := 195
def p_M_place : List Ent := [e_0 0 (.aload 0), e_a 1 (.getfield 0) 16 0 10, e_a 2 .ireturn 0 0 0]
abbrev n_M_place : Nat := 196
def p_M_change : List Ent := [e_0 0 (.iload 1), e_c 1 (.invokestatic 0) 180 1 1 [(0,0)], e_j 2 (.ifCond .eq 0) 17 [], e_0 3 (.aload 0), e_0 4 (.iload 2), e_c 5 (.invokevirtual 0) 184 2 1 [(0,10)], e_j 6 (.ifCond .eq 0) 17 [], e_0 7 (.iload 2), e_c 8 (.invokestatic 0) 148 1 1 [(0,0)], e_0 9 (.iload 1), e_j 10 (.if_icmp .ne 0) 17 [], e_0 11 (.iload 2), e_0 12 (.aload 0), e_a 13 (.getfield 0) 18 2 10, e_0 14 (.iload 1), e_0 15 .iaload, e_j 16 (.if_icmp .ne 0) 19 [], e_v 17 0, e_a 18 .ireturn 1 0 0, e_0 19 (.aload 0), e_a 20 (.getfield 0) 18 2 10, e_0 21 (.iload 1), e_0 22 .iaload, e_0 23 (.istore 3), e_0 24 (.aload 0), e_a 25 (.getfield 0) 18 2 10, e_0 26 (.iload 1), e_0 27 (.iload 2), e_0 28 .iastore, e_0 29 (.aload 0), e_c 30 (.invokevirtual 0) 152 1 0 [(0,10)], e_0 31 (.aload 0), e_c 32 (.invokevirtual 0) 191 1 1 [(0,10)], e_j 33 (.ifCond .lt 0) 46 [], e_0 34 (.aload 0), e_a 35 (.getfield 0) 18 2 10, e_0 36 (.iload 1), e_0 37 (.iload 3), e_0 38 .iastore, e_0 39 (.aload 0), e_c 40 (.invokevirtual 0) 152 1 0 [(0,10)], e_0 41 (.aload 0), e_c 42 (.invokevirtual 0) 191 1 1 [(0,10)], e_0 43 (.istore 4), e_v 44 0, e_a 45 .ireturn 1 0 0, e_0 46 (.aload 0), e_a 47 (.getfield 0) 41 0 10, e_v 48 30, e_j 49 (.if_icmp .ne 0) 64 [], e_0 50 (.aload 0), e_0 51 (.aload 0), e_a 52 (.getfield 0) 40 0 10, e_v 53 1, e_0 54 .iadd, e_v 55 30, e_0 56 .irem, e_a 57 (.putfield 0) 40 0 10, e_0 58 (.aload 0), e_0 59 .dup, e_a 60 (.getfield 0) 41 0 10, e_v 61 1, e_0 62 .isub, e_a 63 (.putfield 0) 41 0 10, e_v 64 13, e_0 65 (.aload 0), e_a 66 (.getfield 0) 40 0 10, e_0 67 (.aload 0), e_a 68 (.getfield 0) 41 0 10, e_0 69 .iadd, e_v 70 30, e_0 71 .irem, e_0 72 .imul, e_0 73 (.istore 4), e_v 74 1, e_0 75 (.istore 5), e_0 76 (.iload 5), e_v 77 12, e_j 78 (.if_icmp .gt 0) 96 [], e_0 79 (.aload 0), e_a 80 (.getfield 0) 39 2 10, e_0 81 (.iload 4), e_0 82 (.iload 5), e_0 83 .iadd, e_0 84 (.iload 5), e_0 85 (.iload 1), e_j 86 (.if_icmp .ne 0) 89 [], e_0 87 (.iload 3), e_j 88 (.goto 0) 93 [], e_0 89 (.aload 0), e_a 90 (.getfield 0) 18 2 10, e_0 91 (.iload 5), e_0 92 .iaload, e_0 93 .iastore, e_i 94 5 (1), e_j 95 (.goto 0) 76 [(0,1),(0,1),(0,0),(0,1),(0,1),(0,1)], e_0 96 (.aload 0), e_0 97 .dup, e_a 98 (.getfield 0) 41 0 10, e_v 99 1, e_0 100 .iadd, e_a 101 (.putfield 0) 41 0 10, e_v 102 1, e_a 103 .ireturn 1 0 0]
abbrev n_M_change : Nat := 197
def p_M_undo : List Ent := [e_0 0 (.aload 0), e_a 1 (.getfield 0) 41 0 10, e_j 2 (.ifCond .ne 0) 5 [], e_v 3 0, e_a 4 .ireturn 1 0 0, e_0 5 (.aload 0), e_0 6 .dup, e_a 7 (.getfield 0) 41 0 10, e_v 8 1, e_0 9 .isub, e_a 10 (.putfield 0) 41 0 10, e_0 11 (.aload 0), e_0 12 (.aload 0), e_a 13 (.getfield 0) 39 2 10, e_v 14 13, e_0 15 (.aload 0), e_a 16 (.getfield 0) 40 0 10, e_0 17 (.aload 0), e_a 18 (.getfield 0) 41 0 10, e_0 19 .iadd, e_v 20 30, e_0 21 .irem, e_0 22 .imul, e_c 23 (.invokevirtual 0) 199 3 0 [(0,10)], e_v 24 1, e_a 25 .ireturn 1 0 0]
abbrev n_M_undo : Nat := 198
def p_M_lays2 : List Ent := [e_v 0 1, e_0 1 (.istore 3), e_0 2 (.iload 3), e_v 3 12, e_j 4 (.if_icmp .gt 0) 16 [], e_0 5 (.aload 0), e_a 6 (.getfield 0) 18 2 10, e_0 7 (.iload 3), e_0 8 (.aload 1), e_0 9 (.iload 2), e_0 10 (.iload 3), e_0 11 .iadd, e_0 12 .iaload, e_0 13 .iastore, e_i 14 3 (1), e_j 15 (.goto 0) 2 [(0,1),(0,1),(0,1),(0,1)], e_0 16 (.aload 0), e_c 17 (.invokevirtual 0) 152 1 0 [(0,10)], e_0 18 (.aload 0), e_c 19 (.invokevirtual 0) 191 1 1 [(0,10)], e_0 20 (.istore 3), e_0 21 .return_]
abbrev n_M_lays2 : Nat := 199
def p_M_hold : List Ent := [e_0 0 (.iload 1), e_v 1 0, e_v 2 2, e_c 3 (.invokestatic 0) 181 3 1 [(0,0)], e_j 4 (.ifCond .ne 0) 7 [], e_v 5 0, e_a 6 .ireturn 1 0 0, e_v 7 1, e_0 8 (.istore 2), e_0 9 (.iload 2), e_v 10 12, e_j 11 (.if_icmp .gt 0) 26 [], e_0 12 (.aload 0), e_a 13 (.getfield 0) 42 2 10, e_v 14 13, e_0 15 (.iload 1), e_0 16 .imul, e_0 17 (.iload 2), e_0 18 .iadd, e_0 19 (.aload 0), e_a 20 (.getfield 0) 18 2 10, e_0 21 (.iload 2), e_0 22 .iaload, e_0 23 .iastore, e_i 24 2 (1), e_j 25 (.goto 0) 9 [(0,1),(0,1),(0,1)], e_0 26 (.aload 0), e_a 27 (.getfield 0) 43 2 10, e_0 28 (.iload 1), e_v 29 1, e_0 30 .bastore, e_v 31 1, e_a 32 .ireturn 1 0 0]
abbrev n_M_hold : Nat := 200
def p_M_restore : List Ent := [e_0 0 (.iload 1), e_v 1 0, e_v 2 2, e_c 3 (.invokestatic 0) 181 3 1 [(0,0)], e_j 4 (.ifCond .eq 0) 10 [], e_0 5 (.aload 0), e_a 6 (.getfield 0) 43 2 10, e_0 7 (.iload 1), e_0 8 .baload, e_j 9 (.ifCond .ne 0) 12 [], e_v 10 0, e_a 11 .ireturn 1 0 0, e_0 12 (.aload 0), e_0 13 (.aload 0), e_a 14 (.getfield 0) 42 2 10, e_v 15 13, e_0 16 (.iload 1), e_0 17 .imul, e_c 18 (.invokevirtual 0) 199 3 0 [(0,10)], e_0 19 (.aload 0), e_v 20 0, e_a 21 (.putfield 0) 41 0 10, e_v 22 1, e_a 23 .ireturn 1 0 0]
abbrev n_M_restore : Nat := 201
def p_M_modulus : List Ent := [e_0 0 (.iload 1), e_c 1 (.invokestatic 0) 180 1 1 [(0,0)], e_j 2 (.ifCond .eq 0) 8 [], e_0 3 (.aload 0), e_a 4 (.getfield 0) 18 2 10, e_0 5 (.iload 1), e_0 6 .iaload, e_j 7 (.goto 0) 9 [], e_v 8 (-1), e_a 9 .ireturn 0 0 0]
abbrev n_M_modulus : Nat := 202
def p_M_whole : List Ent := [e_0 0 (.iload 1), e_v 1 2, e_v 2 8191, e_c 3 (.invokestatic 0) 181 3 1 [(0,0)], e_j 4 (.ifCond .eq 0) 14 [], e_0 5 (.aload 0), e_a 6 (.getfield 0) 17 2 10, e_0 7 (.iload 1), e_0 8 .baload, e_j 9 (.ifCond .eq 0) 12 [], e_v 10 0, e_j 11 (.goto 0) 15 [], e_v 12 1, e_j 13 (.goto 0) 15 [], e_v 14 (-1), e_a 15 .ireturn 0 0 0]
abbrev n_M_whole : Nat := 203
def p_M_next : List Ent := [e_0 0 (.iload 1), e_j 1 (.ifCond .lt 0) 5 [], e_0 2 (.iload 1), e_v 3 8192, e_j 4 (.if_icmp .lt 0) 7 [], e_v 5 (-1), e_a 6 .ireturn 0 0 0, e_0 7 (.iload 1), e_v 8 1, e_0 9 .iadd, e_0 10 (.istore 2), e_0 11 (.iload 2), e_v 12 8192, e_j 13 (.if_icmp .ge 0) 22 [], e_0 14 (.aload 0), e_0 15 (.iload 2), e_c 16 (.invokevirtual 0) 184 2 1 [(0,10)], e_j 17 (.ifCond .eq 0) 20 [], e_0 18 (.iload 2), e_a 19 .ireturn 0 0 0, e_i 20 2 (1), e_j 21 (.goto 0) 11 [(0,1),(0,0),(0,1)], e_v 22 (-1), e_a 23 .ireturn 0 0 0]
abbrev n_M_next : Nat := 204
def p_M_wholes : List Ent := [e_0 0 (.iload 1), e_c 1 (.invokestatic 0) 180 1 1 [(0,0)], e_j 2 (.ifCond .ne 0) 5 [], e_v 3 (-1), e_a 4 .ireturn 0 0 0, e_v 5 0, e_0 6 (.istore 2), e_v 7 1, e_0 8 (.iload 1), e_0 9 .ishl, e_0 10 (.istore 3), e_0 11 (.iload 3), e_v 12 2, e_0 13 (.iload 1), e_0 14 .ishl, e_j 15 (.if_icmp .ge 0) 24 [], e_0 16 (.aload 0), e_a 17 (.getfield 0) 17 2 10, e_0 18 (.iload 3), e_0 19 .baload, e_j 20 (.ifCond .ne 0) 22 [], e_i 21 2 (1), e_i 22 3 (1), e_j 23 (.goto 0) 11 [(0,1),(0,1),(0,1),(0,1)], e_0 24 (.iload 2), e_a 25 .ireturn 0 0 0]
abbrev n_M_wholes : Nat := 205
def p_M_factor : List Ent := [e_0 0 (.iload 1), e_v 1 2, e_v 2 8191, e_c 3 (.invokestatic 0) 181 3 1 [(0,0)], e_j 4 (.ifCond .ne 0) 7 [], e_v 5 (-1), e_a 6 .ireturn 0 0 0, e_0 7 (.iload 1), e_0 8 (.istore 3), e_v 9 0, e_0 10 (.istore 4), e_v 11 2, e_0 12 (.istore 5), e_0 13 (.iload 5), e_0 14 (.iload 3), e_j 15 (.if_icmp .gt 0) 45 [], e_0 16 (.iload 3), e_v 17 1, e_j 18 (.if_icmp .le 0) 43 [], e_0 19 (.aload 0), e_0 20 (.iload 5), e_c 21 (.invokevirtual 0) 184 2 1 [(0,10)], e_j 22 (.ifCond .eq 0) 43 [], e_0 23 (.iload 5), e_c 24 (.invokestatic 0) 148 1 1 [(0,0)], e_0 25 (.iload 3), e_c 26 (.invokestatic 0) 148 1 1 [(0,0)], e_j 27 (.if_icmp .gt 0) 43 [], e_0 28 (.iload 3), e_0 29 (.iload 5), e_c 30 (.invokestatic 0) 153 2 1 [(0,0)], e_j 31 (.ifCond .ne 0) 43 [], e_0 32 (.iload 4), e_0 33 (.iload 2), e_j 34 (.if_icmp .ne 0) 37 [], e_0 35 (.iload 5), e_a 36 .ireturn 0 0 0, e_i 37 4 (1), e_0 38 (.iload 3), e_0 39 (.iload 5), e_c 40 (.invokestatic 0) 207 2 1 [(0,0)], e_0 41 (.istore 3), e_j 42 (.goto 0) 16 [(0,1),(0,0),(0,1),(0,1),(0,1),(0,1)], e_i 43 5 (1), e_j 44 (.goto 0) 13 [(0,1),(0,0),(0,1),(0,1),(0,1),(0,1)], e_0 45 (.iload 2), e_v 46 (-1), e_j 47 (.if_icmp .ne 0) 50 [], e_0 48 (.iload 4), e_j 49 (.goto 0) 51 [], e_v 50 (-1), e_a 51 .ireturn 0 0 0]
abbrev n_M_factor : Nat := 206
def p_M_quotient : List Ent := [e_0 0 (.iload 0), e_0 1 (.istore 2), e_v 2 0, e_0 3 (.istore 3), e_0 4 (.iload 1), e_c 5 (.invokestatic 0) 148 1 1 [(0,0)], e_0 6 (.istore 4), e_0 7 (.iload 0), e_c 8 (.invokestatic 0) 148 1 1 [(0,0)], e_0 9 (.istore 5), e_0 10 (.iload 5), e_0 11 (.iload 4), e_j 12 (.if_icmp .lt 0) 36 [], e_0 13 (.iload 2), e_0 14 (.iload 5), e_c 15 (.invokestatic 0) 150 2 1 [(0,0)], e_j 16 (.ifCond .ne 0) 18 [], e_j 17 (.goto 0) 34 [], e_0 18 (.iload 2), e_0 19 (.iload 1), e_0 20 (.iload 5), e_0 21 (.iload 4), e_0 22 .isub, e_0 23 .ishl, e_0 24 .ixor, e_0 25 (.istore 2), e_0 26 (.iload 3), e_v 27 1, e_0 28 (.iload 5), e_0 29 (.iload 4), e_0 30 .isub, e_0 31 .ishl, e_0 32 .ior, e_0 33 (.istore 3), e_i 34 5 (-1), e_j 35 (.goto 0) 10 [(0,0),(0,1),(0,1),(0,1),(0,1),(0,1)], e_0 36 (.iload 3), e_a 37 .ireturn 0 0 0]
abbrev n_M_quotient : Nat := 207
def p_M_period : List Ent := [e_0 0 (.iload 1), e_v 1 2, e_v 2 8191, e_c 3 (.invokestatic 0) 181 3 1 [(0,0)], e_j 4 (.ifCond .ne 0) 7 [], e_v 5 (-1), e_a 6 .ireturn 0 0 0, e_0 7 (.iload 1), e_v 8 0, e_c 9 (.invokestatic 0) 150 2 1 [(0,0)], e_j 10 (.ifCond .ne 0) 13 [], e_v 11 (-2), e_a 12 .ireturn 0 0 0, e_v 13 1, e_0 14 (.istore 2), e_v 15 2, e_0 16 (.iload 1), e_c 17 (.invokestatic 0) 153 2 1 [(0,0)], e_0 18 (.istore 3), e_0 19 (.iload 3), e_v 20 1, e_j 21 (.if_icmp .eq 0) 30 [], e_0 22 (.iload 3), e_v 23 1, e_0 24 .ishl, e_0 25 (.iload 1), e_c 26 (.invokestatic 0) 153 2 1 [(0,0)], e_0 27 (.istore 3), e_i 28 2 (1), e_j 29 (.goto 0) 19 [(0,0),(0,1),(0,1),(0,1)], e_0 30 (.iload 2), e_a 31 .ireturn 0 0 0]
abbrev n_M_period : Nat := 208
def p_M_coset : List Ent := [e_0 0 (.iload 1), e_c 1 (.invokestatic 0) 180 1 1 [(0,0)], e_j 2 (.ifCond .eq 0) 17 [], e_0 3 (.iload 2), e_v 4 0, e_v 5 1, e_0 6 (.iload 1), e_0 7 .ishl, e_v 8 2, e_0 9 .isub, e_c 10 (.invokestatic 0) 181 3 1 [(0,0)], e_j 11 (.ifCond .eq 0) 17 [], e_0 12 (.iload 3), e_v 13 0, e_v 14 1, e_c 15 (.invokestatic 0) 181 3 1 [(0,0)], e_j 16 (.ifCond .ne 0) 19 [], e_v 17 (-1), e_a 18 .ireturn 0 0 0, e_0 19 (.iload 2), e_0 20 (.istore 4), e_v 21 0, e_0 22 (.istore 5), e_0 23 (.iload 2), e_0 24 (.istore 6), e_v 25 1, e_0 26 (.istore 7), e_0 27 (.iload 7), e_j 28 (.ifCond .eq 0) 64 [], e_i 29 5 (1), e_0 30 (.iload 6), e_0 31 (.iload 4), e_j 32 (.if_icmp .ge 0) 35 [], e_0 33 (.iload 6), e_j 34 (.goto 0) 36 [], e_0 35 (.iload 4), e_0 36 (.istore 4), e_0 37 (.iload 6), e_v 38 2, e_0 39 .imul, e_0 40 (.istore 6), e_0 41 (.iload 6), e_v 42 1, e_0 43 (.iload 1), e_0 44 .ishl, e_v 45 1, e_0 46 .isub, e_j 47 (.if_icmp .lt 0) 56 [], e_0 48 (.iload 6), e_v 49 1, e_0 50 (.iload 1), e_0 51 .ishl, e_v 52 1, e_0 53 .isub, e_0 54 .isub, e_0 55 (.istore 6), e_0 56 (.iload 6), e_0 57 (.iload 2), e_j 58 (.if_icmp .eq 0) 61 [], e_v 59 1, e_j 60 (.goto 0) 62 [], e_v 61 0, e_0 62 (.istore 7), e_j 63 (.goto 0) 27 [(0,0),(0,1),(0,1),(0,1),(0,1),(0,1),(0,1),(0,1)], e_0 64 (.iload 3), e_j 65 (.ifCond .ne 0) 68 [], e_0 66 (.iload 4), e_j 67 (.goto 0) 69 [], e_0 68 (.iload 5), e_a 69 .ireturn 0 0 0]
abbrev n_M_coset : Nat := 209
def p_M_both : List Ent := [e_0 0 (.iload 1), e_0 1 (.iload 2), e_c 2 (.invokestatic 0) 211 2 1 [(0,0)], e_j 3 (.ifCond .eq 0) 13 [], e_0 4 (.iload 1), e_0 5 (.iload 3), e_c 6 (.invokestatic 0) 211 2 1 [(0,0)], e_j 7 (.ifCond .eq 0) 13 [], e_0 8 (.iload 4), e_v 9 0, e_v 10 2, e_c 11 (.invokestatic 0) 181 3 1 [(0,0)], e_j 12 (.ifCond .ne 0) 15 [], e_v 13 (-1), e_a 14 .ireturn 0 0 0, e_0 15 (.iload 4), e_j 16 (.ifCond .ne 0) 21 [], e_0 17 (.iload 2), e_0 18 (.iload 3), e_0 19 .ixor, e_a 20 .ireturn 0 0 0, e_0 21 (.iload 4), e_v 22 1, e_j 23 (.if_icmp .ne 0) 30 [], e_0 24 (.aload 0), e_0 25 (.iload 1), e_0 26 (.iload 2), e_0 27 (.iload 3), e_c 28 (.invokevirtual 0) 156 4 1 [(0,10)], e_a 29 .ireturn 0 0 0, e_0 30 (.iload 3), e_j 31 (.ifCond .ne 0) 34 [], e_v 32 (-2), e_j 33 (.goto 0) 42 [], e_0 34 (.aload 0), e_0 35 (.iload 1), e_0 36 (.iload 2), e_0 37 (.aload 0), e_0 38 (.iload 1), e_0 39 (.iload 3), e_c 40 (.invokevirtual 0) 194 3 1 [(0,10)], e_c 41 (.invokevirtual 0) 156 4 1 [(0,10)], e_a 42 .ireturn 0 0 0]
abbrev n_M_both : Nat := 210
def p_M_isOf : List Ent := [e_0 0 (.iload 0), e_c 1 (.invokestatic 0) 180 1 1 [(0,0)], e_j 2 (.ifCond .eq 0) 14 [], e_0 3 (.iload 1), e_v 4 0, e_v 5 1, e_0 6 (.iload 0), e_0 7 .ishl, e_v 8 1, e_0 9 .isub, e_c 10 (.invokestatic 0) 181 3 1 [(0,0)], e_j 11 (.ifCond .eq 0) 14 [], e_v 12 1, e_j 13 (.goto 0) 15 [], e_v 14 0, e_a 15 .ireturn 1 0 0]
abbrev n_M_isOf : Nat := 211
def p_M_power : List Ent := [e_0 0 (.iload 1), e_0 1 (.iload 2), e_c 2 (.invokestatic 0) 211 2 1 [(0,0)], e_j 3 (.ifCond .ne 0) 6 [], e_v 4 (-1), e_a 5 .ireturn 0 0 0, e_0 6 (.iload 2), e_j 7 (.ifCond .ne 0) 18 [], e_0 8 (.iload 3), e_j 9 (.ifCond .ge 0) 12 [], e_v 10 (-2), e_j 11 (.goto 0) 17 [], e_0 12 (.iload 3), e_j 13 (.ifCond .ne 0) 16 [], e_v 14 1, e_j 15 (.goto 0) 17 [], e_v 16 0, e_a 17 .ireturn 0 0 0, e_v 18 1, e_0 19 (.iload 1), e_0 20 .ishl, e_v 21 1, e_0 22 .isub, e_0 23 (.istore 4), e_0 24 (.iload 3), e_0 25 (.iload 4), e_0 26 .irem, e_0 27 (.istore 5), e_0 28 (.aload 0), e_0 29 (.iload 1), e_0 30 (.iload 2), e_0 31 (.iload 5), e_j 32 (.ifCond .ge 0) 37 [], e_0 33 (.iload 5), e_0 34 (.iload 4), e_0 35 .iadd, e_j 36 (.goto 0) 38 [], e_0 37 (.iload 5), e_c 38 (.invokevirtual 0) 193 4 1 [(0,10)], e_a 39 .ireturn 0 0 0]
abbrev n_M_power : Nat := 212
def p_M_element : List Ent := [e_0 0 (.iload 1), e_0 1 (.iload 2), e_c 2 (.invokestatic 0) 211 2 1 [(0,0)], e_j 3 (.ifCond .ne 0) 6 [], e_v 4 (-1), e_a 5 .ireturn 0 0 0, e_0 6 (.iload 3), e_j 7 (.lookupswitch 0 #[]) 81 [(0,8),(1,17),(2,25),(3,34),(4,43),(5,48),(6,43),(7,53),(8,62),(9,71),(10,76)], e_0 8 (.iload 2), e_j 9 (.ifCond .ne 0) 12 [], e_v 10 (-2), e_j 11 (.goto 0) 16 [], e_0 12 (.aload 0), e_0 13 (.iload 1), e_0 14 (.iload 2), e_c 15 (.invokevirtual 0) 194 3 1 [(0,10)], e_a 16 .ireturn 0 0 0, e_0 17 (.aload 0), e_0 18 (.iload 1), e_0 19 (.iload 2), e_0 20 (.iload 1), e_v 21 1, e_0 22 .isub, e_c 23 (.invokevirtual 0) 214 4 1 [(0,10)], e_a 24 .ireturn 0 0 0, e_0 25 (.iload 2), e_j 26 (.ifCond .ne 0) 29 [], e_v 27 (-2), e_j 28 (.goto 0) 33 [], e_0 29 (.aload 0), e_0 30 (.iload 1), e_0 31 (.iload 2), e_c 32 (.invokevirtual 0) 215 3 1 [(0,10)], e_a 33 .ireturn 0 0 0, e_0 34 (.iload 2), e_j 35 (.ifCond .ne 0) 38 [], e_v 36 (-2), e_j 37 (.goto 0) 42 [], e_0 38 (.aload 0), e_0 39 (.iload 1), e_0 40 (.iload 2), e_c 41 (.invokevirtual 0) 216 3 1 [(0,10)], e_a 42 .ireturn 0 0 0, e_0 43 (.aload 0), e_0 44 (.iload 1), e_0 45 (.iload 2), e_c 46 (.invokevirtual 0) 219 3 1 [(0,10)], e_a 47 .ireturn 0 0 0, e_0 48 (.aload 0), e_0 49 (.iload 1), e_0 50 (.iload 2), e_c 51 (.invokevirtual 0) 220 3 1 [(0,10)], e_a 52 .ireturn 0 0 0, e_0 53 (.aload 0), e_0 54 (.iload 1), e_0 55 (.iload 2), e_c 56 (.invokevirtual 0) 218 3 1 [(0,10)], e_j 57 (.ifCond .eq 0) 60 [], e_v 58 1, e_j 59 (.goto 0) 61 [], e_v 60 0, e_a 61 .ireturn 0 0 0, e_0 62 (.aload 0), e_0 63 (.iload 1), e_0 64 (.iload 2), e_c 65 (.invokevirtual 0) 221 3 1 [(0,10)], e_j 66 (.ifCond .eq 0) 69 [], e_v 67 1, e_j 68 (.goto 0) 70 [], e_v 69 0, e_a 70 .ireturn 0 0 0, e_0 71 (.aload 0), e_0 72 (.iload 1), e_0 73 (.iload 2), e_c 74 (.invokevirtual 0) 222 3 1 [(0,10)], e_a 75 .ireturn 0 0 0, e_0 76 (.aload 0), e_0 77 (.iload 1), e_0 78 (.iload 2), e_c 79 (.invokevirtual 0) 224 3 1 [(0,10)], e_a 80 .ireturn 0 0 0, e_v 81 (-1), e_a 82 .ireturn 0 0 0]
abbrev n_M_element : Nat := 213
def p_M_squared : List Ent := [e_0 0 (.iload 2), e_0 1 (.istore 4), e_v 2 0, e_0 3 (.istore 5), e_0 4 (.iload 5), e_0 5 (.iload 3), e_j 6 (.if_icmp .ge 0) 15 [], e_0 7 (.aload 0), e_0 8 (.iload 1), e_0 9 (.iload 4), e_0 10 (.iload 4), e_c 11 (.invokevirtual 0) 156 4 1 [(0,10)], e_0 12 (.istore 4), e_i 13 5 (1), e_j 14 (.goto 0) 4 [(0,1),(0,1),(0,0),(0,1),(0,1),(0,1)], e_0 15 (.iload 4), e_a 16 .ireturn 0 0 0]
abbrev n_M_squared : Nat := 214
def p_M_orderOf : List Ent := [e_v 0 1, e_0 1 (.istore 3), e_0 2 (.iload 2), e_0 3 (.istore 4), e_0 4 (.iload 4), e_v 5 1, e_j 6 (.if_icmp .eq 0) 15 [], e_0 7 (.aload 0), e_0 8 (.iload 1), e_0 9 (.iload 4), e_0 10 (.iload 2), e_c 11 (.invokevirtual 0) 156 4 1 [(0,10)], e_0 12 (.istore 4), e_i 13 3 (1), e_j 14 (.goto 0) 4 [(0,1),(0,1),(0,1),(0,1),(0,1)], e_0 15 (.iload 3), e_a 16 .ireturn 0 0 0]
abbrev n_M_orderOf : Nat := 215
def p_M_logarithm : List Ent := [e_0 0 (.aload 0), e_0 1 (.iload 1), e_c 2 (.invokevirtual 0) 217 2 1 [(0,10)], e_0 3 (.istore 3), e_v 4 0, e_0 5 (.istore 4), e_v 6 1, e_0 7 (.istore 5), e_0 8 (.iload 5), e_0 9 (.iload 2), e_j 10 (.if_icmp .eq 0) 19 [], e_0 11 (.aload 0), e_0 12 (.iload 1), e_0 13 (.iload 5), e_0 14 (.iload 3), e_c 15 (.invokevirtual 0) 156 4 1 [(0,10)], e_0 16 (.istore 5), e_i 17 4 (1), e_j 18 (.goto 0) 8 [(0,1),(0,1),(0,1),(0,1),(0,1),(0,1)], e_0 19 (.iload 4), e_a 20 .ireturn 0 0 0]
abbrev n_M_logarithm : Nat := 216
def p_M_leastPrimitive : List Ent := [e_v 0 1, e_0 1 (.istore 2), e_0 2 (.aload 0), e_0 3 (.iload 1), e_0 4 (.iload 2), e_c 5 (.invokevirtual 0) 218 3 1 [(0,10)], e_j 6 (.ifCond .ne 0) 9 [], e_i 7 2 (1), e_j 8 (.goto 0) 2 [(0,1),(0,1),(0,1)], e_0 9 (.iload 2), e_a 10 .ireturn 0 0 0]
abbrev n_M_leastPrimitive : Nat := 217
def p_M_isPrimitive : List Ent := [e_0 0 (.iload 2), e_j 1 (.ifCond .le 0) 14 [], e_0 2 (.aload 0), e_0 3 (.iload 1), e_0 4 (.iload 2), e_c 5 (.invokevirtual 0) 215 3 1 [(0,10)], e_v 6 1, e_0 7 (.iload 1), e_0 8 .ishl, e_v 9 1, e_0 10 .isub, e_j 11 (.if_icmp .ne 0) 14 [], e_v 12 1, e_j 13 (.goto 0) 15 [], e_v 14 0, e_a 15 .ireturn 1 0 0]
abbrev n_M_isPrimitive : Nat := 218
def p_M_degreeOf : List Ent := [e_v 0 1, e_0 1 (.istore 3), e_0 2 (.iload 1), e_0 3 (.iload 3), e_0 4 .irem, e_j 5 (.ifCond .ne 0) 13 [], e_0 6 (.aload 0), e_0 7 (.iload 1), e_0 8 (.iload 2), e_0 9 (.iload 3), e_c 10 (.invokevirtual 0) 214 4 1 [(0,10)], e_0 11 (.iload 2), e_j 12 (.if_icmp .eq 0) 15 [], e_i 13 3 (1), e_j 14 (.goto 0) 2 [(0,1),(0,1),(0,1),(0,1)], e_0 15 (.iload 3), e_a 16 .ireturn 0 0 0]
abbrev n_M_degreeOf : Nat := 219
def p_M_leastConjugate : List Ent := [e_0 0 (.iload 2), e_0 1 (.istore 3), e_0 2 (.iload 2), e_0 3 (.istore 4), e_v 4 1, e_0 5 (.istore 5), e_0 6 (.iload 5), e_0 7 (.iload 1), e_j 8 (.if_icmp .ge 0) 24 [], e_0 9 (.aload 0), e_0 10 (.iload 1), e_0 11 (.iload 4), e_0 12 (.iload 4), e_c 13 (.invokevirtual 0) 156 4 1 [(0,10)], e_0 14 (.istore 4), e_0 15 (.iload 4), e_0 16 (.iload 3), e_j 17 (.if_icmp .ge 0) 20 [], e_0 18 (.iload 4), e_j 19 (.goto 0) 21 [], e_0 20 (.iload 3), e_0 21 (.istore 3), e_i 22 5 (1), e_j 23 (.goto 0) 6 [(0,1),(0,1),(0,0),(0,1),(0,1),(0,1)], e_0 24 (.iload 3), e_a 25 .ireturn 0 0 0]
abbrev n_M_leastConjugate : Nat := 220
def p_M_isNormal : List Ent := [e_0 0 (.iload 2), e_0 1 (.istore 3), e_v 2 0, e_0 3 (.istore 4), e_0 4 (.iload 4), e_0 5 (.iload 1), e_j 6 (.if_icmp .ge 0) 65 [], e_0 7 (.iload 3), e_0 8 (.istore 5), e_v 9 1, e_0 10 (.iload 4), e_0 11 .ishl, e_0 12 (.istore 6), e_v 13 0, e_0 14 (.istore 7), e_0 15 (.iload 7), e_0 16 (.iload 4), e_j 17 (.if_icmp .ge 0) 43 [], e_0 18 (.iload 5), e_0 19 (.aload 0), e_a 20 (.getfield 0) 45 2 10, e_0 21 (.iload 7), e_0 22 .iaload, e_c 23 (.invokestatic 0) 148 1 1 [(0,0)], e_c 24 (.invokestatic 0) 150 2 1 [(0,0)], e_j 25 (.ifCond .ne 0) 27 [], e_j 26 (.goto 0) 41 [], e_0 27 (.iload 5), e_0 28 (.aload 0), e_a 29 (.getfield 0) 45 2 10, e_0 30 (.iload 7), e_0 31 .iaload, e_0 32 .ixor, e_0 33 (.istore 5), e_0 34 (.iload 6), e_0 35 (.aload 0), e_a 36 (.getfield 0) 46 2 10, e_0 37 (.iload 7), e_0 38 .iaload, e_0 39 .ixor, e_0 40 (.istore 6), e_i 41 7 (1), e_j 42 (.goto 0) 15 [(0,1),(0,1),(0,0),(0,1),(0,1),(0,1),(0,1),(0,1)], e_0 43 (.iload 5), e_j 44 (.ifCond .ne 0) 47 [], e_v 45 0, e_a 46 .ireturn 1 0 0, e_0 47 (.aload 0), e_a 48 (.getfield 0) 45 2 10, e_0 49 (.iload 4), e_0 50 (.iload 5), e_0 51 .iastore, e_0 52 (.aload 0), e_a 53 (.getfield 0) 46 2 10, e_0 54 (.iload 4), e_0 55 (.iload 6), e_0 56 .iastore, e_0 57 (.aload 0), e_0 58 (.iload 1), e_0 59 (.iload 3), e_0 60 (.iload 3), e_c 61 (.invokevirtual 0) 156 4 1 [(0,10)], e_0 62 (.istore 3), e_i 63 4 (1), e_j 64 (.goto 0) 4 [(0,1),(0,1),(0,0),(0,1),(0,1),(0,0),(0,0),(0,0)], e_v 65 1, e_a 66 .ireturn 1 0 0]
abbrev n_M_isNormal : Nat := 221
def p_M_coordinates : List Ent := [e_0 0 (.aload 0), e_0 1 (.iload 1), e_c 2 (.invokevirtual 0) 223 2 1 [(0,10)], e_0 3 (.istore 3), e_0 4 (.aload 0), e_0 5 (.iload 1), e_0 6 (.iload 3), e_c 7 (.invokevirtual 0) 221 3 1 [(0,10)], e_0 8 (.istore 4), e_0 9 (.iload 2), e_0 10 (.istore 5), e_v 11 0, e_0 12 (.istore 6), e_v 13 0, e_0 14 (.istore 7), e_0 15 (.iload 7), e_0 16 (.iload 1), e_j 17 (.if_icmp .ge 0) 54 [], e_0 18 (.iload 4), e_j 19 (.ifCond .eq 0) 54 [], e_v 20 0, e_0 21 (.istore 8), e_0 22 (.iload 8), e_0 23 (.iload 1), e_j 24 (.if_icmp .ge 0) 52 [], e_0 25 (.iload 5), e_j 26 (.ifCond .eq 0) 50 [], e_0 27 (.aload 0), e_a 28 (.getfield 0) 45 2 10, e_0 29 (.iload 8), e_0 30 .iaload, e_c 31 (.invokestatic 0) 148 1 1 [(0,0)], e_0 32 (.iload 5), e_c 33 (.invokestatic 0) 148 1 1 [(0,0)], e_j 34 (.if_icmp .eq 0) 36 [], e_j 35 (.goto 0) 50 [], e_0 36 (.iload 5), e_0 37 (.aload 0), e_a 38 (.getfield 0) 45 2 10, e_0 39 (.iload 8), e_0 40 .iaload, e_0 41 .ixor, e_0 42 (.istore 5), e_0 43 (.iload 6), e_0 44 (.aload 0), e_a 45 (.getfield 0) 46 2 10, e_0 46 (.iload 8), e_0 47 .iaload, e_0 48 .ixor, e_0 49 (.istore 6), e_i 50 8 (1), e_j 51 (.goto 0) 22 [(0,1),(0,1),(0,0),(0,0),(0,1),(0,1),(0,1),(0,1),(0,1)], e_i 52 7 (1), e_j 53 (.goto 0) 15 [(0,1),(0,1),(0,0),(0,0),(0,1),(0,1),(0,1),(0,1),(0,0)], e_0 54 (.iload 6), e_a 55 .ireturn 0 0 0]
abbrev n_M_coordinates : Nat := 222
def p_M_leastNormal : List Ent := [e_v 0 1, e_0 1 (.istore 2), e_0 2 (.aload 0), e_0 3 (.iload 1), e_0 4 (.iload 2), e_c 5 (.invokevirtual 0) 221 3 1 [(0,10)], e_j 6 (.ifCond .ne 0) 9 [], e_i 7 2 (1), e_j 8 (.goto 0) 2 [(0,1),(0,1),(0,1)], e_0 9 (.iload 2), e_a 10 .ireturn 0 0 0]
abbrev n_M_leastNormal : Nat := 223
def p_M_dualOf : List Ent := [e_0 0 (.aload 0), e_0 1 (.iload 1), e_0 2 (.iload 2), e_c 3 (.invokevirtual 0) 221 3 1 [(0,10)], e_j 4 (.ifCond .ne 0) 7 [], e_v 5 (-2), e_a 6 .ireturn 0 0 0, e_v 7 0, e_0 8 (.istore 3), e_0 9 (.aload 0), e_0 10 (.iload 1), e_0 11 (.iload 2), e_0 12 (.iload 3), e_c 13 (.invokevirtual 0) 225 4 1 [(0,10)], e_j 14 (.ifCond .ne 0) 17 [], e_i 15 3 (1), e_j 16 (.goto 0) 9 [(0,1),(0,1),(0,1),(0,1)], e_0 17 (.iload 3), e_a 18 .ireturn 0 0 0]
abbrev n_M_dualOf : Nat := 224
def p_M_isDual : List Ent := [e_0 0 (.iload 2), e_0 1 (.istore 4), e_v 2 0, e_0 3 (.istore 5), e_0 4 (.iload 5), e_0 5 (.iload 1), e_j 6 (.if_icmp .ge 0) 31 [], e_0 7 (.aload 0), e_0 8 (.iload 1), e_0 9 (.aload 0), e_0 10 (.iload 1), e_0 11 (.iload 3), e_0 12 (.iload 4), e_c 13 (.invokevirtual 0) 156 4 1 [(0,10)], e_c 14 (.invokevirtual 0) 226 3 1 [(0,10)], e_0 15 (.iload 5), e_j 16 (.ifCond .ne 0) 19 [], e_v 17 1, e_j 18 (.goto 0) 20 [], e_v 19 0, e_j 20 (.if_icmp .eq 0) 23 [], e_v 21 0, e_a 22 .ireturn 1 0 0, e_0 23 (.aload 0), e_0 24 (.iload 1), e_0 25 (.iload 4), e_0 26 (.iload 4), e_c 27 (.invokevirtual 0) 156 4 1 [(0,10)], e_0 28 (.istore 4), e_i 29 5 (1), e_j 30 (.goto 0) 4 [(0,1),(0,1),(0,0),(0,1),(0,1),(0,1)], e_v 31 1, e_a 32 .ireturn 1 0 0]
abbrev n_M_isDual : Nat := 225
def p_M_traceDown : List Ent := [e_v 0 0, e_0 1 (.istore 3), e_0 2 (.iload 2), e_0 3 (.istore 4), e_v 4 0, e_0 5 (.istore 5), e_0 6 (.iload 5), e_0 7 (.iload 1), e_j 8 (.if_icmp .ge 0) 21 [], e_0 9 (.iload 3), e_0 10 (.iload 4), e_0 11 .ixor, e_0 12 (.istore 3), e_0 13 (.aload 0), e_0 14 (.iload 1), e_0 15 (.iload 4), e_0 16 (.iload 4), e_c 17 (.invokevirtual 0) 156 4 1 [(0,10)], e_0 18 (.istore 4), e_i 19 5 (1), e_j 20 (.goto 0) 6 [(0,1),(0,1),(0,0),(0,1),(0,1),(0,1)], e_0 21 (.iload 3), e_a 22 .ireturn 0 0 0]
abbrev n_M_traceDown : Nat := 226
def p_M_raise : List Ent := [e_0 0 (.iload 1), e_0 1 (.iload 3), e_c 2 (.invokestatic 0) 211 2 1 [(0,0)], e_j 3 (.ifCond .eq 0) 7 [], e_0 4 (.iload 2), e_c 5 (.invokestatic 0) 180 1 1 [(0,0)], e_j 6 (.ifCond .ne 0) 9 [], e_v 7 (-1), e_a 8 .ireturn 0 0 0, e_0 9 (.iload 2), e_0 10 (.iload 1), e_0 11 .irem, e_j 12 (.ifCond .ne 0) 19 [], e_0 13 (.aload 0), e_0 14 (.iload 1), e_0 15 (.iload 2), e_0 16 (.iload 3), e_c 17 (.invokevirtual 0) 155 4 1 [(0,10)], e_j 18 (.goto 0) 20 [], e_v 19 (-2), e_a 20 .ireturn 0 0 0]
abbrev n_M_raise : Nat := 227
def p_M_lower : List Ent := [e_0 0 (.iload 1), e_0 1 (.iload 3), e_c 2 (.invokestatic 0) 211 2 1 [(0,0)], e_j 3 (.ifCond .eq 0) 7 [], e_0 4 (.iload 2), e_c 5 (.invokestatic 0) 180 1 1 [(0,0)], e_j 6 (.ifCond .ne 0) 9 [], e_v 7 (-1), e_a 8 .ireturn 0 0 0, e_0 9 (.iload 1), e_0 10 (.iload 2), e_0 11 .irem, e_j 12 (.ifCond .ne 0) 19 [], e_0 13 (.aload 0), e_0 14 (.iload 1), e_0 15 (.iload 2), e_0 16 (.iload 3), e_c 17 (.invokevirtual 0) 229 4 1 [(0,10)], e_j 18 (.goto 0) 20 [], e_v 19 (-1), e_0 20 (.istore 4), e_0 21 (.iload 4), e_j 22 (.ifCond .ge 0) 25 [], e_v 23 (-2), e_j 24 (.goto 0) 26 [], e_0 25 (.iload 4), e_a 26 .ireturn 0 0 0]
abbrev n_M_lower : Nat := 228
def p_M_lowered : List Ent := [e_0 0 (.aload 0), e_0 1 (.iload 1), e_0 2 (.iload 3), e_0 3 (.iload 2), e_c 4 (.invokevirtual 0) 214 4 1 [(0,10)], e_0 5 (.iload 3), e_j 6 (.if_icmp .eq 0) 9 [], e_v 7 (-1), e_a 8 .ireturn 0 0 0, e_v 9 0, e_0 10 (.istore 4), e_0 11 (.iload 4), e_v 12 1, e_0 13 (.iload 2), e_0 14 .ishl, e_j 15 (.if_icmp .ge 0) 27 [], e_0 16 (.aload 0), e_0 17 (.iload 2), e_0 18 (.iload 1), e_0 19 (.iload 4), e_c 20 (.invokevirtual 0) 155 4 1 [(0,10)], e_0 21 (.iload 3), e_j 22 (.if_icmp .ne 0) 25 [], e_0 23 (.iload 4), e_a 24 .ireturn 0 0 0, e_i 25 4 (1), e_j 26 (.goto 0) 11 [(0,1),(0,1),(0,1),(0,1),(0,1)], e_v 27 (-1), e_a 28 .ireturn 0 0 0]
abbrev n_M_lowered : Nat := 229
def p_M_down : List Ent := [e_0 0 (.iload 1), e_0 1 (.iload 3), e_c 2 (.invokestatic 0) 211 2 1 [(0,0)], e_j 3 (.ifCond .eq 0) 7 [], e_0 4 (.iload 2), e_c 5 (.invokestatic 0) 180 1 1 [(0,0)], e_j 6 (.ifCond .ne 0) 9 [], e_v 7 (-1), e_a 8 .ireturn 0 0 0, e_0 9 (.iload 1), e_0 10 (.iload 2), e_0 11 .irem, e_j 12 (.ifCond .eq 0) 15 [], e_v 13 (-2), e_a 14 .ireturn 0 0 0, e_v 15 0, e_0 16 (.istore 5), e_v 17 1, e_0 18 (.istore 6), e_0 19 (.iload 3), e_0 20 (.istore 7), e_v 21 0, e_0 22 (.istore 8), e_0 23 (.iload 8), e_0 24 (.iload 1), e_0 25 (.iload 2), e_0 26 .idiv, e_j 27 (.if_icmp .ge 0) 46 [], e_0 28 (.iload 5), e_0 29 (.iload 7), e_0 30 .ixor, e_0 31 (.istore 5), e_0 32 (.aload 0), e_0 33 (.iload 1), e_0 34 (.iload 6), e_0 35 (.iload 7), e_c 36 (.invokevirtual 0) 156 4 1 [(0,10)], e_0 37 (.istore 6), e_0 38 (.aload 0), e_0 39 (.iload 1), e_0 40 (.iload 7), e_0 41 (.iload 2), e_c 42 (.invokevirtual 0) 214 4 1 [(0,10)], e_0 43 (.istore 7), e_i 44 8 (1), e_j 45 (.goto 0) 23 [(0,1),(0,1),(0,1),(0,0),(0,1),(0,1),(0,1),(0,1),(0,1)], e_0 46 (.aload 0), e_0 47 (.iload 1), e_0 48 (.iload 2), e_0 49 (.iload 4), e_j 50 (.ifCond .eq 0) 53 [], e_0 51 (.iload 6), e_j 52 (.goto 0) 54 [], e_0 53 (.iload 5), e_c 54 (.invokevirtual 0) 229 4 1 [(0,10)], e_a 55 .ireturn 0 0 0]
abbrev n_M_down : Nat := 230
def p_M_least : List Ent := [e_0 0 (.iload 1), e_0 1 (.iload 3), e_c 2 (.invokestatic 0) 211 2 1 [(0,0)], e_j 3 (.ifCond .eq 0) 7 [], e_0 4 (.iload 2), e_c 5 (.invokestatic 0) 180 1 1 [(0,0)], e_j 6 (.ifCond .ne 0) 9 [], e_v 7 (-1), e_a 8 .ireturn 0 0 0, e_0 9 (.iload 1), e_0 10 (.iload 2), e_0 11 .irem, e_j 12 (.ifCond .eq 0) 20 [], e_0 13 (.iload 4), e_v 14 (-1), e_j 15 (.if_icmp .ge 0) 18 [], e_v 16 (-1), e_j 17 (.goto 0) 19 [], e_v 18 (-2), e_a 19 .ireturn 0 0 0, e_0 20 (.aload 0), e_0 21 (.iload 1), e_0 22 (.iload 2), e_0 23 (.iload 3), e_c 24 (.invokevirtual 0) 232 4 1 [(0,10)], e_0 25 (.istore 5), e_0 26 (.iload 4), e_v 27 (-1), e_j 28 (.if_icmp .ne 0) 31 [], e_0 29 (.iload 5), e_a 30 .ireturn 0 0 0, e_0 31 (.iload 4), e_v 32 0, e_0 33 (.iload 5), e_c 34 (.invokestatic 0) 181 3 1 [(0,0)], e_j 35 (.ifCond .eq 0) 45 [], e_0 36 (.aload 0), e_0 37 (.iload 1), e_0 38 (.iload 2), e_0 39 (.aload 0), e_a 40 (.getfield 0) 47 2 10, e_0 41 (.iload 4), e_0 42 .iaload, e_c 43 (.invokevirtual 0) 229 4 1 [(0,10)], e_j 44 (.goto 0) 46 [], e_v 45 (-1), e_a 46 .ireturn 0 0 0]
abbrev n_M_least : Nat := 231
def p_M_laysLeast : List Ent := [e_v 0 0, e_0 1 (.istore 4), e_0 2 (.iload 3), e_0 3 (.istore 5), e_v 4 0, e_0 5 (.istore 6), e_0 6 (.iload 6), e_v 7 14, e_j 8 (.if_icmp .ge 0) 20 [], e_0 9 (.aload 0), e_a 10 (.getfield 0) 47 2 10, e_0 11 (.iload 6), e_0 12 (.iload 6), e_j 13 (.ifCond .ne 0) 16 [], e_v 14 1, e_j 15 (.goto 0) 17 [], e_v 16 0, e_0 17 .iastore, e_i 18 6 (1), e_j 19 (.goto 0) 6 [(0,1),(0,1),(0,1),(0,1),(0,1),(0,1),(0,1),(0,0)], e_v 20 1, e_0 21 (.istore 6), e_0 22 (.iload 6), e_j 23 (.ifCond .eq 0) 70 [], e_0 24 (.iload 4), e_v 25 1, e_0 26 .iadd, e_0 27 (.istore 7), e_0 28 (.iload 7), e_j 29 (.ifCond .lt 0) 55 [], e_0 30 (.aload 0), e_a 31 (.getfield 0) 47 2 10, e_0 32 (.iload 7), e_0 33 (.iload 7), e_j 34 (.ifCond .le 0) 42 [], e_0 35 (.aload 0), e_a 36 (.getfield 0) 47 2 10, e_0 37 (.iload 7), e_v 38 1, e_0 39 .isub, e_0 40 .iaload, e_j 41 (.goto 0) 43 [], e_v 42 0, e_0 43 (.aload 0), e_0 44 (.iload 1), e_0 45 (.aload 0), e_a 46 (.getfield 0) 47 2 10, e_0 47 (.iload 7), e_0 48 .iaload, e_0 49 (.iload 5), e_c 50 (.invokevirtual 0) 156 4 1 [(0,10)], e_0 51 .ixor, e_0 52 .iastore, e_i 53 7 (-1), e_j 54 (.goto 0) 28 [(0,1),(0,1),(0,1),(0,1),(0,1),(0,1),(0,0),(0,1)], e_i 55 4 (1), e_0 56 (.aload 0), e_0 57 (.iload 1), e_0 58 (.iload 5), e_0 59 (.iload 2), e_c 60 (.invokevirtual 0) 214 4 1 [(0,10)], e_0 61 (.istore 5), e_0 62 (.iload 5), e_0 63 (.iload 3), e_j 64 (.if_icmp .eq 0) 67 [], e_v 65 1, e_j 66 (.goto 0) 68 [], e_v 67 0, e_0 68 (.istore 6), e_j 69 (.goto 0) 22 [(0,1),(0,1),(0,1),(0,1),(0,1),(0,1),(0,1),(0,0)], e_0 70 (.iload 4), e_a 71 .ireturn 0 0 0]
abbrev n_M_laysLeast : Nat := 232
def p_M_solve : List Ent := [e_0 0 (.iload 1), e_0 1 (.iload 2), e_c 2 (.invokestatic 0) 211 2 1 [(0,0)], e_j 3 (.ifCond .eq 0) 13 [], e_0 4 (.iload 1), e_0 5 (.iload 3), e_c 6 (.invokestatic 0) 211 2 1 [(0,0)], e_j 7 (.ifCond .eq 0) 13 [], e_0 8 (.iload 4), e_v 9 0, e_v 10 1, e_c 11 (.invokestatic 0) 181 3 1 [(0,0)], e_j 12 (.ifCond .ne 0) 15 [], e_v 13 (-1), e_a 14 .ireturn 0 0 0, e_v 15 0, e_0 16 (.istore 5), e_v 17 (-2), e_0 18 (.istore 6), e_v 19 0, e_0 20 (.istore 7), e_0 21 (.iload 7), e_v 22 1, e_0 23 (.iload 1), e_0 24 .ishl, e_j 25 (.if_icmp .ge 0) 47 [], e_0 26 (.aload 0), e_0 27 (.iload 1), e_0 28 (.iload 7), e_0 29 (.iload 7), e_c 30 (.invokevirtual 0) 156 4 1 [(0,10)], e_0 31 (.aload 0), e_0 32 (.iload 1), e_0 33 (.iload 2), e_0 34 (.iload 7), e_c 35 (.invokevirtual 0) 156 4 1 [(0,10)], e_0 36 .ixor, e_0 37 (.iload 3), e_j 38 (.if_icmp .eq 0) 40 [], e_j 39 (.goto 0) 45 [], e_0 40 (.iload 5), e_j 41 (.ifCond .ne 0) 44 [], e_0 42 (.iload 7), e_0 43 (.istore 6), e_i 44 5 (1), e_i 45 7 (1), e_j 46 (.goto 0) 21 [(0,1),(0,1),(0,1),(0,1),(0,1),(0,1),(0,1),(0,1)], e_0 47 (.iload 4), e_j 48 (.ifCond .ne 0) 51 [], e_0 49 (.iload 5), e_j 50 (.goto 0) 52 [], e_0 51 (.iload 6), e_a 52 .ireturn 0 0 0]
abbrev n_M_solve : Nat := 233
def p_M_value : List Ent := [e_0 0 (.iload 1), e_0 1 (.iload 3), e_c 2 (.invokestatic 0) 211 2 1 [(0,0)], e_j 3 (.ifCond .eq 0) 15 [], e_0 4 (.iload 2), e_v 5 0, e_v 6 8191, e_c 7 (.invokestatic 0) 181 3 1 [(0,0)], e_j 8 (.ifCond .eq 0) 15 [], e_0 9 (.aload 0), e_0 10 (.iload 1), e_0 11 (.iload 2), e_0 12 (.iload 3), e_c 13 (.invokevirtual 0) 158 4 1 [(0,10)], e_j 14 (.goto 0) 16 [], e_v 15 (-1), e_a 16 .ireturn 0 0 0]
abbrev n_M_value : Nat := 234
def p_M_roots : List Ent := [e_0 0 (.iload 1), e_0 1 (.iload 2), e_c 2 (.invokestatic 0) 211 2 1 [(0,0)], e_j 3 (.ifCond .eq 0) 14 [], e_0 4 (.iload 3), e_v 5 1, e_v 6 9999, e_c 7 (.invokestatic 0) 181 3 1 [(0,0)], e_j 8 (.ifCond .eq 0) 14 [], e_0 9 (.iload 4), e_v 10 0, e_v 11 1, e_c 12 (.invokestatic 0) 181 3 1 [(0,0)], e_j 13 (.ifCond .ne 0) 16 [], e_v 14 (-1), e_a 15 .ireturn 0 0 0, e_v 16 0, e_0 17 (.istore 5), e_v 18 (-2), e_0 19 (.istore 6), e_v 20 0, e_0 21 (.istore 7), e_0 22 (.iload 7), e_v 23 1, e_0 24 (.iload 1), e_0 25 .ishl, e_j 26 (.if_icmp .ge 0) 42 [], e_0 27 (.aload 0), e_0 28 (.iload 1), e_0 29 (.iload 7), e_0 30 (.iload 3), e_c 31 (.invokevirtual 0) 193 4 1 [(0,10)], e_0 32 (.iload 2), e_j 33 (.if_icmp .eq 0) 35 [], e_j 34 (.goto 0) 40 [], e_0 35 (.iload 5), e_j 36 (.ifCond .ne 0) 39 [], e_0 37 (.iload 7), e_0 38 (.istore 6), e_i 39 5 (1), e_i 40 7 (1), e_j 41 (.goto 0) 22 [(0,1),(0,1),(0,1),(0,1),(0,1),(0,1),(0,1),(0,1)], e_0 42 (.iload 4), e_j 43 (.ifCond .ne 0) 46 [], e_0 44 (.iload 5), e_j 45 (.goto 0) 47 [], e_0 46 (.iload 6), e_a 47 .ireturn 0 0 0]
abbrev n_M_roots : Nat := 235
def p_M_code : List Ent := [e_0 0 (.iload 1), e_v 1 2, e_v 2 12, e_c 3 (.invokestatic 0) 181 3 1 [(0,0)], e_j 4 (.ifCond .eq 0) 10 [], e_0 5 (.iload 2), e_v 6 1, e_v 7 5, e_c 8 (.invokestatic 0) 181 3 1 [(0,0)], e_j 9 (.ifCond .ne 0) 12 [], e_w 10 (-1), e_0 11 .lreturn, e_0 12 (.aload 0), e_0 13 (.iload 1), e_c 14 (.invokevirtual 0) 217 2 1 [(0,10)], e_0 15 (.istore 3), e_w 16 1, e_0 17 (.lstore 4), e_v 18 1, e_0 19 (.istore 6), e_0 20 (.iload 6), e_0 21 (.iload 2), e_j 22 (.if_icmp .gt 0) 87 [], e_0 23 (.aload 0), e_0 24 (.iload 1), e_0 25 (.iload 3), e_0 26 (.iload 6), e_c 27 (.invokevirtual 0) 193 4 1 [(0,10)], e_0 28 (.istore 7), e_v 29 1, e_0 30 (.istore 8), e_v 31 1, e_0 32 (.istore 9), e_0 33 (.iload 9), e_0 34 (.iload 6), e_j 35 (.if_icmp .ge 0) 53 [], e_0 36 (.aload 0), e_0 37 (.iload 1), e_0 38 (.aload 0), e_0 39 (.iload 1), e_0 40 (.iload 3), e_0 41 (.iload 9), e_c 42 (.invokevirtual 0) 193 4 1 [(0,10)], e_c 43 (.invokevirtual 0) 220 3 1 [(0,10)], e_0 44 (.aload 0), e_0 45 (.iload 1), e_0 46 (.iload 7), e_c 47 (.invokevirtual 0) 220 3 1 [(0,10)], e_j 48 (.if_icmp .ne 0) 51 [], e_v 49 0, e_0 50 (.istore 8), e_i 51 9 (1), e_j 52 (.goto 0) 33 [(0,1),(0,1),(0,1),(0,1),(0,1),(0,0),(0,1),(0,1),(0,1),(0,1),(0,0),(0,0),(0,0)], e_0 53 (.iload 8), e_j 54 (.ifCond .ne 0) 56 [], e_j 55 (.goto 0) 85 [], e_0 56 (.aload 0), e_0 57 (.iload 1), e_v 58 1, e_0 59 (.iload 7), e_c 60 (.invokevirtual 0) 232 4 1 [(0,10)], e_0 61 (.istore 9), e_w 62 0, e_0 63 (.lstore 10), e_v 64 0, e_0 65 (.istore 12), e_0 66 (.iload 12), e_0 67 (.iload 9), e_j 68 (.if_icmp .gt 0) 83 [], e_0 69 (.aload 0), e_a 70 (.getfield 0) 47 2 10, e_0 71 (.iload 12), e_0 72 .iaload, e_v 73 1, e_j 74 (.if_icmp .ne 0) 81 [], e_0 75 (.lload 10), e_0 76 (.lload 4), e_0 77 (.iload 12), e_0 78 .lshl, e_0 79 .lxor, e_0 80 (.lstore 10), e_i 81 12 (1), e_j 82 (.goto 0) 66 [(0,1),(0,1),(0,1),(0,1),(0,1),(0,0),(0,1),(0,0),(0,0),(0,1),(0,1),(0,0),(0,1)], e_0 83 (.lload 10), e_0 84 (.lstore 4), e_i 85 6 (1), e_j 86 (.goto 0) 20 [(0,1),(0,1),(0,1),(0,1),(0,1),(0,0),(0,1),(0,0),(0,0),(0,0),(0,0),(0,0),(0,0)], e_0 87 (.lload 4), e_0 88 .lreturn]
abbrev n_M_code : Nat := 236
def p_M_field : List Ent := [e_0 0 (.iload 1), e_c 1 (.invokestatic 0) 180 1 1 [(0,0)], e_j 2 (.ifCond .ne 0) 5 [], e_v 3 (-1), e_a 4 .ireturn 0 0 0, e_0 5 (.iload 2), e_j 6 (.lookupswitch 0 #[]) 33 [(0,7),(1,11),(2,14),(3,18),(4,24),(5,30)], e_0 7 (.aload 0), e_0 8 (.iload 1), e_c 9 (.invokevirtual 0) 217 2 1 [(0,10)], e_a 10 .ireturn 0 0 0, e_0 11 (.iload 1), e_c 12 (.invokestatic 0) 238 1 1 [(0,0)], e_a 13 .ireturn 0 0 0, e_0 14 (.aload 0), e_0 15 (.iload 1), e_c 16 (.invokevirtual 0) 223 2 1 [(0,10)], e_a 17 .ireturn 0 0 0, e_0 18 (.aload 0), e_0 19 (.iload 1), e_v 20 8, e_v 21 1, e_c 22 (.invokevirtual 0) 239 4 1 [(0,10)], e_a 23 .ireturn 0 0 0, e_0 24 (.aload 0), e_0 25 (.iload 1), e_v 26 4, e_0 27 (.iload 1), e_c 28 (.invokevirtual 0) 239 4 1 [(0,10)], e_a 29 .ireturn 0 0 0, e_0 30 (.iload 1), e_c 31 (.invokestatic 0) 240 1 1 [(0,0)], e_a 32 .ireturn 0 0 0, e_v 33 (-1), e_a 34 .ireturn 0 0 0]
abbrev n_M_field : Nat := 237
def p_M_primitives : List Ent := [e_v 0 1, e_0 1 (.iload 0), e_0 2 .ishl, e_v 3 1, e_0 4 .isub, e_0 5 (.istore 1), e_v 6 0, e_0 7 (.istore 2), e_v 8 0, e_0 9 (.istore 3), e_0 10 (.iload 3), e_0 11 (.iload 1), e_j 12 (.if_icmp .ge 0) 21 [], e_0 13 (.iload 3), e_0 14 (.iload 1), e_c 15 (.invokestatic 0) 159 2 1 [(0,0)], e_v 16 1, e_j 17 (.if_icmp .ne 0) 19 [], e_i 18 2 (1), e_i 19 3 (1), e_j 20 (.goto 0) 10 [(0,0),(0,1),(0,1),(0,1)], e_0 21 (.iload 2), e_a 22 .ireturn 0 0 0]
abbrev n_M_primitives : Nat := 238
def p_M_countOf : List Ent := [e_v 0 0, e_0 1 (.istore 4), e_v 2 0, e_0 3 (.istore 5), e_0 4 (.iload 5), e_v 5 1, e_0 6 (.iload 1), e_0 7 .ishl, e_j 8 (.if_icmp .ge 0) 19 [], e_0 9 (.aload 0), e_0 10 (.iload 1), e_0 11 (.iload 5), e_0 12 (.iload 2), e_c 13 (.invokevirtual 0) 213 4 1 [(0,10)], e_0 14 (.iload 3), e_j 15 (.if_icmp .ne 0) 17 [], e_i 16 4 (1), e_i 17 5 (1), e_j 18 (.goto 0) 4 [(0,1),(0,1),(0,1),(0,1),(0,1),(0,1)], e_0 19 (.iload 4), e_a 20 .ireturn 0 0 0]
abbrev n_M_countOf : Nat := 239
def p_M_divisors : List Ent := [e_v 0 0, e_0 1 (.istore 1), e_v 2 1, e_0 3 (.istore 2), e_0 4 (.iload 2), e_0 5 (.iload 0), e_j 6 (.if_icmp .gt 0) 21 [], e_0 7 (.iload 0), e_0 8 (.iload 2), e_0 9 .irem, e_j 10 (.ifCond .ne 0) 19 [], e_0 11 (.iload 1), e_v 12 1, e_0 13 (.iload 2), e_v 14 1, e_0 15 .isub, e_0 16 .ishl, e_0 17 .ior, e_0 18 (.istore 1), e_i 19 2 (1), e_j 20 (.goto 0) 4 [(0,1),(0,1),(0,1)], e_0 21 (.iload 1), e_a 22 .ireturn 0 0 0]
abbrev n_M_divisors : Nat := 240
def p_M_written : List Ent := [e_0 0 (.iload 1), e_0 1 (.iload 2), e_c 2 (.invokestatic 0) 211 2 1 [(0,0)], e_j 3 (.ifCond .eq 0) 9 [], e_0 4 (.iload 3), e_v 5 0, e_v 6 25, e_c 7 (.invokestatic 0) 181 3 1 [(0,0)], e_j 8 (.ifCond .ne 0) 11 [], e_v 9 (-1), e_a 10 .ireturn 0 0 0, e_0 11 (.aload 0), e_v 12 0, e_a 13 (.putfield 0) 49 0 10, e_0 14 (.iload 1), e_v 15 1, e_0 16 .isub, e_0 17 (.istore 5), e_0 18 (.iload 5), e_j 19 (.ifCond .lt 0) 30 [], e_0 20 (.iload 2), e_0 21 (.iload 5), e_c 22 (.invokestatic 0) 150 2 1 [(0,0)], e_j 23 (.ifCond .eq 0) 28 [], e_0 24 (.aload 0), e_0 25 (.iload 5), e_0 26 (.iload 3), e_c 27 (.invokevirtual 0) 242 3 0 [(0,10)], e_i 28 5 (-1), e_j 29 (.goto 0) 18 [(0,1),(0,0),(0,1),(0,1),(0,1),(0,1)], e_0 30 (.iload 2), e_j 31 (.ifCond .ne 0) 35 [], e_0 32 (.aload 0), e_v 33 48, e_c 34 (.invokevirtual 0) 243 2 0 [(0,10)], e_0 35 (.iload 4), e_v 36 (-1), e_j 37 (.if_icmp .ne 0) 41 [], e_0 38 (.aload 0), e_a 39 (.getfield 0) 49 0 10, e_j 40 (.goto 0) 55 [], e_0 41 (.iload 4), e_v 42 0, e_0 43 (.aload 0), e_a 44 (.getfield 0) 49 0 10, e_v 45 1, e_0 46 .isub, e_c 47 (.invokestatic 0) 181 3 1 [(0,0)], e_j 48 (.ifCond .eq 0) 54 [], e_0 49 (.aload 0), e_a 50 (.getfield 0) 48 2 10, e_0 51 (.iload 4), e_0 52 .iaload, e_j 53 (.goto 0) 55 [], e_v 54 (-1), e_a 55 .ireturn 0 0 0]
abbrev n_M_written : Nat := 241
def p_M_writesPower : List Ent := [e_0 0 (.aload 0), e_a 1 (.getfield 0) 49 0 10, e_j 2 (.ifCond .le 0) 6 [], e_0 3 (.aload 0), e_v 4 43, e_c 5 (.invokevirtual 0) 243 2 0 [(0,10)], e_0 6 (.iload 1), e_j 7 (.ifCond .ne 0) 12 [], e_0 8 (.aload 0), e_v 9 49, e_c 10 (.invokevirtual 0) 243 2 0 [(0,10)], e_0 11 .return_, e_0 12 (.aload 0), e_v 13 97, e_0 14 (.iload 2), e_0 15 .iadd, e_c 16 (.invokevirtual 0) 243 2 0 [(0,10)], e_0 17 (.iload 1), e_v 18 1, e_j 19 (.if_icmp .ne 0) 21 [], e_0 20 .return_, e_0 21 (.aload 0), e_v 22 94, e_c 23 (.invokevirtual 0) 243 2 0 [(0,10)], e_0 24 (.iload 1), e_v 25 9, e_j 26 (.if_icmp .le 0) 30 [], e_0 27 (.aload 0), e_v 28 49, e_c 29 (.invokevirtual 0) 243 2 0 [(0,10)], e_0 30 (.aload 0), e_v 31 48, e_0 32 (.iload 1), e_v 33 10, e_0 34 .irem, e_0 35 .iadd, e_c 36 (.invokevirtual 0) 243 2 0 [(0,10)], e_0 37 .return_]
abbrev n_M_writesPower : Nat := 242
def p_M_writes : List Ent := [e_0 0 (.aload 0), e_a 1 (.getfield 0) 48 2 10, e_0 2 (.aload 0), e_a 3 (.getfield 0) 49 0 10, e_0 4 (.iload 1), e_0 5 .iastore, e_0 6 (.aload 0), e_0 7 .dup, e_a 8 (.getfield 0) 49 0 10, e_v 9 1, e_0 10 .iadd, e_a 11 (.putfield 0) 49 0 10, e_0 12 .return_]
abbrev n_M_writes : Nat := 243
def p_M_let : List Ent := [e_0 0 (.iload 1), e_v 1 0, e_0 2 (.aload 0), e_a 3 (.getfield 0) 29 0 10, e_v 4 1, e_0 5 .isub, e_c 6 (.invokestatic 0) 181 3 1 [(0,0)], e_j 7 (.ifCond .ne 0) 10 [], e_v 8 (-1), e_a 9 .ireturn 0 0 0, e_0 10 (.aload 0), e_a 11 (.getfield 0) 26 2 10, e_0 12 (.iload 1), e_0 13 .iaload, e_0 14 (.istore 3), e_0 15 (.aload 0), e_0 16 (.iload 3), e_0 17 (.aload 0), e_a 18 (.getfield 0) 27 2 10, e_0 19 (.iload 1), e_0 20 .iaload, e_c 21 (.invokevirtual 0) 219 3 1 [(0,10)], e_0 22 (.istore 4), e_0 23 (.iload 2), e_j 24 (.lookupswitch 0 #[]) 43 [(0,25),(1,27),(2,32),(3,34)], e_0 25 (.iload 3), e_a 26 .ireturn 0 0 0, e_0 27 (.aload 0), e_a 28 (.getfield 0) 27 2 10, e_0 29 (.iload 1), e_0 30 .iaload, e_a 31 .ireturn 0 0 0, e_0 32 (.iload 4), e_a 33 .ireturn 0 0 0, e_0 34 (.aload 0), e_0 35 (.iload 3), e_0 36 (.iload 4), e_0 37 (.aload 0), e_a 38 (.getfield 0) 27 2 10, e_0 39 (.iload 1), e_0 40 .iaload, e_c 41 (.invokevirtual 0) 229 4 1 [(0,10)], e_a 42 .ireturn 0 0 0, e_v 43 (-1), e_a 44 .ireturn 0 0 0]
abbrev n_M_let : Nat := 244
def p_M_count : List Ent := [e_0 0 (.iload 1), e_j 1 (.lookupswitch 0 #[]) 41 [(0,2),(1,5),(2,8),(3,11),(4,38)], e_0 2 (.aload 0), e_a 3 (.getfield 0) 29 0 10, e_a 4 .ireturn 0 0 0, e_0 5 (.aload 0), e_a 6 (.getfield 0) 2 0 10, e_a 7 .ireturn 0 0 0, e_0 8 (.aload 0), e_a 9 (.getfield 0) 41 0 10, e_a 10 .ireturn 0 0 0, e_0 11 (.aload 0), e_a 12 (.getfield 0) 43 2 10, e_v 13 0, e_0 14 .baload, e_j 15 (.ifCond .eq 0) 18 [], e_v 16 1, e_j 17 (.goto 0) 19 [], e_v 18 0, e_0 19 (.aload 0), e_a 20 (.getfield 0) 43 2 10, e_v 21 1, e_0 22 .baload, e_j 23 (.ifCond .eq 0) 26 [], e_v 24 1, e_j 25 (.goto 0) 27 [], e_v 26 0, e_0 27 .iadd, e_0 28 (.aload 0), e_a 29 (.getfield 0) 43 2 10, e_v 30 2, e_0 31 .baload, e_j 32 (.ifCond .eq 0) 35 [], e_v 33 1, e_j 34 (.goto 0) 36 [], e_v 35 0, e_0 36 .iadd, e_a 37 .ireturn 0 0 0, e_0 38 (.aload 0), e_c 39 (.invokevirtual 0) 246 1 1 [(0,10)], e_a 40 .ireturn 0 0 0, e_v 41 (-1), e_a 42 .ireturn 0 0 0]
abbrev n_M_count : Nat := 245
def p_M_unlikeModuli : List Ent := [e_v 0 0, e_0 1 (.istore 1), e_v 2 1, e_0 3 (.istore 2), e_0 4 (.iload 2), e_v 5 12, e_j 6 (.if_icmp .gt 0) 25 [], e_0 7 (.aload 0), e_a 8 (.getfield 0) 18 2 10, e_0 9 (.iload 2), e_0 10 .iaload, e_0 11 (.aload 0), e_0 12 (.iload 2), e_c 13 (.invokevirtual 0) 151 2 1 [(0,10)], e_j 14 (.if_icmp .eq 0) 23 [], e_0 15 (.iload 1), e_v 16 1, e_0 17 (.iload 2), e_v 18 1, e_0 19 .isub, e_0 20 .ishl, e_0 21 .ior, e_0 22 (.istore 1), e_i 23 2 (1), e_j 24 (.goto 0) 4 [(0,1),(0,1),(0,1)], e_0 25 (.iload 1), e_a 26 .ireturn 0 0 0]
abbrev n_M_unlikeModuli : Nat := 246
def p_Law_law : List Ent := [e_a 0 (.new 0) 9 12 0, e_0 1 .dup, e_c 2 (.invokespecial 0) 0 1 0 [(0,9),(0,110),(0,6151)], e_0 3 (.astore 1), e_a 4 (.new 0) 10 50 0, e_0 5 .dup, e_c 6 (.invokespecial 0) 145 1 0 [(0,10),(0,32),(0,17894)], e_0 7 (.astore 2), e_v 8 0, e_0 9 (.istore 3), e_0 10 (.iload 3), e_0 11 (.aload 0), e_0 12 .arraylength, e_v 13 6, e_0 14 .isub, e_j 15 (.if_icmp .gt 0) 903 [], e_0 16 (.aload 0), e_0 17 (.iload 3), e_0 18 .iaload, e_v 19 31, e_0 20 .iand, e_j 21 (.lookupswitch 0 #[]) 901 [(0,22),(1,79),(2,96),(3,103),(4,110),(5,137),(6,144),(7,161),(8,178),(9,195),(10,212),(11,259),(12,296),(13,333),(14,370),(15,407),(16,462),(17,509),(18,556),(19,593),(20,620),(21,637),(22,674),(23,702),(24,749),(25,776),(26,823),(27,850),(28,867),(29,884)], e_0 22 (.aload 1), e_0 23 (.aload 0), e_0 24 (.iload 3), e_v 25 1, e_0 26 .iadd, e_0 27 .iaload, e_0 28 (.aload 0), e_0 29 (.iload 3), e_v 30 2, e_0 31 .iadd, e_0 32 .iaload, e_0 33 (.aload 0), e_0 34 (.iload 3), e_v 35 3, e_0 36 .iadd, e_0 37 .iaload, e_0 38 (.aload 0), e_0 39 (.iload 3), e_v 40 4, e_0 41 .iadd, e_0 42 .iaload, e_0 43 (.aload 0), e_0 44 (.iload 3), e_v 45 5, e_0 46 .iadd, e_0 47 .iaload, e_c 48 (.invokevirtual 0) 10 6 1 [(0,9)], e_0 49 (.aload 2), e_0 50 (.aload 0), e_0 51 (.iload 3), e_v 52 1, e_0 53 .iadd, e_0 54 .iaload, e_0 55 (.aload 0), e_0 56 (.iload 3), e_v 57 2, e_0 58 .iadd, e_0 59 .iaload, e_0 60 (.aload 0), e_0 61 (.iload 3), e_v 62 3, e_0 63 .iadd, e_0 64 .iaload, e_0 65 (.aload 0), e_0 66 (.iload 3), e_v 67 4, e_0 68 .iadd, e_0 69 .iaload, e_0 70 (.aload 0), e_0 71 (.iload 3), e_v 72 5, e_0 73 .iadd, e_0 74 .iaload, e_c 75 (.invokevirtual 0) 160 6 1 [(0,10)], e_j 76 (.if_icmp .eq 0) 901 [], e_v 77 0, e_a 78 .ireturn 1 0 0, e_0 79 (.aload 1), e_0 80 (.aload 0), e_0 81 (.iload 3), e_v 82 1, e_0 83 .iadd, e_0 84 .iaload, e_c 85 (.invokevirtual 0) 12 2 1 [(0,9)], e_0 86 (.aload 2), e_0 87 (.aload 0), e_0 88 (.iload 3), e_v 89 1, e_0 90 .iadd, e_0 91 .iaload, e_c 92 (.invokevirtual 0) 162 2 1 [(0,10)], e_j 93 (.if_icmp .eq 0) 901 [], e_v 94 0, e_a 95 .ireturn 1 0 0, e_0 96 (.aload 1), e_c 97 (.invokevirtual 0) 13 1 1 [(0,9)], e_0 98 (.aload 2), e_c 99 (.invokevirtual 0) 163 1 1 [(0,10)], e_j 100 (.if_icmp .eq 0) 901 [], e_v 101 0, e_a 102 .ireturn 1 0 0, e_0 103 (.aload 1), e_c 104 (.invokevirtual 0) 70 1 1 [(0,9)], e_0 105 (.aload 2), e_c 106 (.invokevirtual 0) 196 1 1 [(0,10)], e_j 107 (.if_icmp .eq 0) 901 [], e_v 108 0, e_a 109 .ireturn 1 0 0, e_0 110 (.aload 1), e_0 111 (.aload 0), e_0 112 (.iload 3), e_v 113 1, e_0 114 .iadd, e_0 115 .iaload, e_0 116 (.aload 0), e_0 117 (.iload 3), e_v 118 2, e_0 119 .iadd, e_0 120 .iaload, e_c 121 (.invokevirtual 0) 71 3 1 [(0,9)], e_0 122 (.aload 2), e_0 123 (.aload 0), e_0 124 (.iload 3), e_v 125 1, e_0 126 .iadd, e_0 127 .iaload, e_0 128 (.aload 0), e_0 129 (.iload 3), e_v 130 2, e_0 131 .iadd, e_0 132 .iaload, e_c 133 (.invokevirtual 0) 197 3 1 [(0,10)], e_j 134 (.if_icmp .eq 0) 901 [], e_v 135 0, e_a 136 .ireturn 1 0 0, e_0 137 (.aload 1), e_c 138 (.invokevirtual 0) 73 1 1 [(0,9)], e_0 139 (.aload 2), e_c 140 (.invokevirtual 0) 198 1 1 [(0,10)], e_j 141 (.if_icmp .eq 0) 901 [], e_v 142 0, e_a 143 .ireturn 1 0 0, e_0 144 (.aload 1), e_0 145 (.aload 0), e_0 146 (.iload 3), e_v 147 1, e_0 148 .iadd, e_0 149 .iaload, e_c 150 (.invokevirtual 0) 78 2 1 [(0,9)], e_0 151 (.aload 2), e_0 152 (.aload 0), e_0 153 (.iload 3), e_v 154 1, e_0 155 .iadd, e_0 156 .iaload, e_c 157 (.invokevirtual 0) 202 2 1 [(0,10)], e_j 158 (.if_icmp .eq 0) 901 [], e_v 159 0, e_a 160 .ireturn 1 0 0, e_0 161 (.aload 1), e_0 162 (.aload 0), e_0 163 (.iload 3), e_v 164 1, e_0 165 .iadd, e_0 166 .iaload, e_c 167 (.invokevirtual 0) 79 2 1 [(0,9)], e_0 168 (.aload 2), e_0 169 (.aload 0), e_0 170 (.iload 3), e_v 171 1, e_0 172 .iadd, e_0 173 .iaload, e_c 174 (.invokevirtual 0) 203 2 1 [(0,10)], e_j 175 (.if_icmp .eq 0) 901 [], e_v 176 0, e_a 177 .ireturn 1 0 0, e_0 178 (.aload 1), e_0 179 (.aload 0), e_0 180 (.iload 3), e_v 181 1, e_0 182 .iadd, e_0 183 .iaload, e_c 184 (.invokevirtual 0) 81 2 1 [(0,9)], e_0 185 (.aload 2), e_0 186 (.aload 0), e_0 187 (.iload 3), e_v 188 1, e_0 189 .iadd, e_0 190 .iaload, e_c 191 (.invokevirtual 0) 204 2 1 [(0,10)], e_j 192 (.if_icmp .eq 0) 901 [], e_v 193 0, e_a 194 .ireturn 1 0 0, e_0 195 (.aload 1), e_0 196 (.aload 0), e_0 197 (.iload 3), e_v 198 1, e_0 199 .iadd, e_0 200 .iaload, e_c 201 (.invokevirtual 0) 82 2 1 [(0,9)], e_0 202 (.aload 2), e_0 203 (.aload 0), e_0 204 (.iload 3), e_v 205 1, e_0 206 .iadd, e_0 207 .iaload, e_c 208 (.invokevirtual 0) 205 2 1 [(0,10)], e_j 209 (.if_icmp .eq 0) 901 [], e_v 210 0, e_a 211 .ireturn 1 0 0, e_0 212 (.aload 1), e_0 213 (.aload 0), e_0 214 (.iload 3), e_v 215 1, e_0 216 .iadd, e_0 217 .iaload, e_0 218 (.aload 0), e_0 219 (.iload 3), e_v 220 2, e_0 221 .iadd, e_0 222 .iaload, e_0 223 (.aload 0), e_0 224 (.iload 3), e_v 225 3, e_0 226 .iadd, e_0 227 .iaload, e_0 228 (.aload 0), e_0 229 (.iload 3), e_v 230 4, e_0 231 .iadd, e_0 232 .iaload, e_c 233 (.invokevirtual 0) 99 5 1 [(0,9)], e_0 234 (.aload 2), e_0 235 (.aload 0), e_0 236 (.iload 3), e_v 237 1, e_0 238 .iadd, e_0 239 .iaload, e_0 240 (.aload 0), e_0 241 (.iload 3), e_v 242 2, e_0 243 .iadd, e_0 244 .iaload, e_0 245 (.aload 0), e_0 246 (.iload 3), e_v 247 3, e_0 248 .iadd, e_0 249 .iaload, e_0 250 (.aload 0), e_0 251 (.iload 3), e_v 252 4, e_0 253 .iadd, e_0 254 .iaload, e_c 255 (.invokevirtual 0) 210 5 1 [(0,10)], e_j 256 (.if_icmp .eq 0) 901 [], e_v 257 0, e_a 258 .ireturn 1 0 0, e_0 259 (.aload 1), e_0 260 (.aload 0), e_0 261 (.iload 3), e_v 262 1, e_0 263 .iadd, e_0 264 .iaload, e_0 265 (.aload 0), e_0 266 (.iload 3), e_v 267 2, e_0 268 .iadd, e_0 269 .iaload, e_0 270 (.aload 0), e_0 271 (.iload 3), e_v 272 3, e_0 273 .iadd, e_0 274 .iaload, e_c 275 (.invokevirtual 0) 100 4 1 [(0,9)], e_0 276 (.aload 2), e_0 277 (.aload 0), e_0 278 (.iload 3), e_v 279 1, e_0 280 .iadd, e_0 281 .iaload, e_0 282 (.aload 0), e_0 283 (.iload 3), e_v 284 2, e_0 285 .iadd, e_0 286 .iaload, e_0 287 (.aload 0), e_0 288 (.iload 3), e_v 289 3, e_0 290 .iadd, e_0 291 .iaload, e_c 292 (.invokevirtual 0) 212 4 1 [(0,10)], e_j 293 (.if_icmp .eq 0) 901 [], e_v 294 0, e_a 295 .ireturn 1 0 0, e_0 296 (.aload 1), e_0 297 (.aload 0), e_0 298 (.iload 3), e_v 299 1, e_0 300 .iadd, e_0 301 .iaload, e_0 302 (.aload 0), e_0 303 (.iload 3), e_v 304 2, e_0 305 .iadd, e_0 306 .iaload, e_0 307 (.aload 0), e_0 308 (.iload 3), e_v 309 3, e_0 310 .iadd, e_0 311 .iaload, e_c 312 (.invokevirtual 0) 101 4 1 [(0,9),(0,1),(0,4096)], e_0 313 (.aload 2), e_0 314 (.aload 0), e_0 315 (.iload 3), e_v 316 1, e_0 317 .iadd, e_0 318 .iaload, e_0 319 (.aload 0), e_0 320 (.iload 3), e_v 321 2, e_0 322 .iadd, e_0 323 .iaload, e_0 324 (.aload 0), e_0 325 (.iload 3), e_v 326 3, e_0 327 .iadd, e_0 328 .iaload, e_c 329 (.invokevirtual 0) 213 4 1 [(0,10)], e_j 330 (.if_icmp .eq 0) 901 [], e_v 331 0, e_a 332 .ireturn 1 0 0, e_0 333 (.aload 1), e_0 334 (.aload 0), e_0 335 (.iload 3), e_v 336 1, e_0 337 .iadd, e_0 338 .iaload, e_0 339 (.aload 0), e_0 340 (.iload 3), e_v 341 2, e_0 342 .iadd, e_0 343 .iaload, e_0 344 (.aload 0), e_0 345 (.iload 3), e_v 346 3, e_0 347 .iadd, e_0 348 .iaload, e_c 349 (.invokevirtual 0) 127 4 1 [(0,9)], e_0 350 (.aload 2), e_0 351 (.aload 0), e_0 352 (.iload 3), e_v 353 1, e_0 354 .iadd, e_0 355 .iaload, e_0 356 (.aload 0), e_0 357 (.iload 3), e_v 358 2, e_0 359 .iadd, e_0 360 .iaload, e_0 361 (.aload 0), e_0 362 (.iload 3), e_v 363 3, e_0 364 .iadd, e_0 365 .iaload, e_c 366 (.invokevirtual 0) 227 4 1 [(0,10)], e_j 367 (.if_icmp .eq 0) 901 [], e_v 368 0, e_a 369 .ireturn 1 0 0, e_0 370 (.aload 1), e_0 371 (.aload 0), e_0 372 (.iload 3), e_v 373 1, e_0 374 .iadd, e_0 375 .iaload, e_0 376 (.aload 0), e_0 377 (.iload 3), e_v 378 2, e_0 379 .iadd, e_0 380 .iaload, e_0 381 (.aload 0), e_0 382 (.iload 3), e_v 383 3, e_0 384 .iadd, e_0 385 .iaload, e_c 386 (.invokevirtual 0) 128 4 1 [(0,9)], e_0 387 (.aload 2), e_0 388 (.aload 0), e_0 389 (.iload 3), e_v 390 1, e_0 391 .iadd, e_0 392 .iaload, e_0 393 (.aload 0), e_0 394 (.iload 3), e_v 395 2, e_0 396 .iadd, e_0 397 .iaload, e_0 398 (.aload 0), e_0 399 (.iload 3), e_v 400 3, e_0 401 .iadd, e_0 402 .iaload, e_c 403 (.invokevirtual 0) 228 4 1 [(0,10)], e_j 404 (.if_icmp .eq 0) 901 [], e_v 405 0, e_a 406 .ireturn 1 0 0, e_0 407 (.aload 1), e_0 408 (.aload 0), e_0 409 (.iload 3), e_v 410 1, e_0 411 .iadd, e_0 412 .iaload, e_0 413 (.aload 0), e_0 414 (.iload 3), e_v 415 2, e_0 416 .iadd, e_0 417 .iaload, e_0 418 (.aload 0), e_0 419 (.iload 3), e_v 420 3, e_0 421 .iadd, e_0 422 .iaload, e_0 423 (.aload 0), e_0 424 (.iload 3), e_v 425 4, e_0 426 .iadd, e_0 427 .iaload, e_j 428 (.ifCond .eq 0) 431 [], e_v 429 1, e_j 430 (.goto 0) 432 [], e_v 431 0, e_c 432 (.invokevirtual 0) 130 5 1 [(0,9)], e_0 433 (.aload 2), e_0 434 (.aload 0), e_0 435 (.iload 3), e_v 436 1, e_0 437 .iadd, e_0 438 .iaload, e_0 439 (.aload 0), e_0 440 (.iload 3), e_v 441 2, e_0 442 .iadd, e_0 443 .iaload, e_0 444 (.aload 0), e_0 445 (.iload 3), e_v 446 3, e_0 447 .iadd, e_0 448 .iaload, e_0 449 (.aload 0), e_0 450 (.iload 3), e_v 451 4, e_0 452 .iadd, e_0 453 .iaload, e_j 454 (.ifCond .eq 0) 457 [], e_v 455 1, e_j 456 (.goto 0) 458 [], e_v 457 0, e_c 458 (.invokevirtual 0) 230 5 1 [(0,10)], e_j 459 (.if_icmp .eq 0) 901 [], e_v 460 0, e_a 461 .ireturn 1 0 0, e_0 462 (.aload 1), e_0 463 (.aload 0), e_0 464 (.iload 3), e_v 465 1, e_0 466 .iadd, e_0 467 .iaload, e_0 468 (.aload 0), e_0 469 (.iload 3), e_v 470 2, e_0 471 .iadd, e_0 472 .iaload, e_0 473 (.aload 0), e_0 474 (.iload 3), e_v 475 3, e_0 476 .iadd, e_0 477 .iaload, e_0 478 (.aload 0), e_0 479 (.iload 3), e_v 480 4, e_0 481 .iadd, e_0 482 .iaload, e_c 483 (.invokevirtual 0) 132 5 1 [(0,9)], e_0 484 (.aload 2), e_0 485 (.aload 0), e_0 486 (.iload 3), e_v 487 1, e_0 488 .iadd, e_0 489 .iaload, e_0 490 (.aload 0), e_0 491 (.iload 3), e_v 492 2, e_0 493 .iadd, e_0 494 .iaload, e_0 495 (.aload 0), e_0 496 (.iload 3), e_v 497 3, e_0 498 .iadd, e_0 499 .iaload, e_0 500 (.aload 0), e_0 501 (.iload 3), e_v 502 4, e_0 503 .iadd, e_0 504 .iaload, e_c 505 (.invokevirtual 0) 231 5 1 [(0,10)], e_j 506 (.if_icmp .eq 0) 901 [], e_v 507 0, e_a 508 .ireturn 1 0 0, e_0 509 (.aload 1), e_0 510 (.aload 0), e_0 511 (.iload 3), e_v 512 1, e_0 513 .iadd, e_0 514 .iaload, e_0 515 (.aload 0), e_0 516 (.iload 3), e_v 517 2, e_0 518 .iadd, e_0 519 .iaload, e_0 520 (.aload 0), e_0 521 (.iload 3), e_v 522 3, e_0 523 .iadd, e_0 524 .iaload, e_0 525 (.aload 0), e_0 526 (.iload 3), e_v 527 4, e_0 528 .iadd, e_0 529 .iaload, e_c 530 (.invokevirtual 0) 119 5 1 [(0,9)], e_0 531 (.aload 2), e_0 532 (.aload 0), e_0 533 (.iload 3), e_v 534 1, e_0 535 .iadd, e_0 536 .iaload, e_0 537 (.aload 0), e_0 538 (.iload 3), e_v 539 2, e_0 540 .iadd, e_0 541 .iaload, e_0 542 (.aload 0), e_0 543 (.iload 3), e_v 544 3, e_0 545 .iadd, e_0 546 .iaload, e_0 547 (.aload 0), e_0 548 (.iload 3), e_v 549 4, e_0 550 .iadd, e_0 551 .iaload, e_c 552 (.invokevirtual 0) 233 5 1 [(0,10)], e_j 553 (.if_icmp .eq 0) 901 [], e_v 554 0, e_a 555 .ireturn 1 0 0, e_0 556 (.aload 1), e_0 557 (.aload 0), e_0 558 (.iload 3), e_v 559 1, e_0 560 .iadd, e_0 561 .iaload, e_0 562 (.aload 0), e_0 563 (.iload 3), e_v 564 2, e_0 565 .iadd, e_0 566 .iaload, e_0 567 (.aload 0), e_0 568 (.iload 3), e_v 569 3, e_0 570 .iadd, e_0 571 .iaload, e_c 572 (.invokevirtual 0) 83 4 1 [(0,9)], e_0 573 (.aload 2), e_0 574 (.aload 0), e_0 575 (.iload 3), e_v 576 1, e_0 577 .iadd, e_0 578 .iaload, e_0 579 (.aload 0), e_0 580 (.iload 3), e_v 581 2, e_0 582 .iadd, e_0 583 .iaload, e_0 584 (.aload 0), e_0 585 (.iload 3), e_v 586 3, e_0 587 .iadd, e_0 588 .iaload, e_c 589 (.invokevirtual 0) 234 4 1 [(0,10)], e_j 590 (.if_icmp .eq 0) 901 [], e_v 591 0, e_a 592 .ireturn 1 0 0, e_0 593 (.aload 1), e_0 594 (.aload 0), e_0 595 (.iload 3), e_v 596 1, e_0 597 .iadd, e_0 598 .iaload, e_0 599 (.aload 0), e_0 600 (.iload 3), e_v 601 2, e_0 602 .iadd, e_0 603 .iaload, e_c 604 (.invokevirtual 0) 85 3 1 [(0,9)], e_0 605 (.aload 2), e_0 606 (.aload 0), e_0 607 (.iload 3), e_v 608 1, e_0 609 .iadd, e_0 610 .iaload, e_0 611 (.aload 0), e_0 612 (.iload 3), e_v 613 2, e_0 614 .iadd, e_0 615 .iaload, e_c 616 (.invokevirtual 0) 206 3 1 [(0,10)], e_j 617 (.if_icmp .eq 0) 901 [], e_v 618 0, e_a 619 .ireturn 1 0 0, e_0 620 (.aload 1), e_0 621 (.aload 0), e_0 622 (.iload 3), e_v 623 1, e_0 624 .iadd, e_0 625 .iaload, e_c 626 (.invokevirtual 0) 88 2 1 [(0,9)], e_0 627 (.aload 2), e_0 628 (.aload 0), e_0 629 (.iload 3), e_v 630 1, e_0 631 .iadd, e_0 632 .iaload, e_c 633 (.invokevirtual 0) 208 2 1 [(0,10)], e_j 634 (.if_icmp .eq 0) 901 [], e_v 635 0, e_a 636 .ireturn 1 0 0, e_0 637 (.aload 1), e_0 638 (.aload 0), e_0 639 (.iload 3), e_v 640 1, e_0 641 .iadd, e_0 642 .iaload, e_0 643 (.aload 0), e_0 644 (.iload 3), e_v 645 2, e_0 646 .iadd, e_0 647 .iaload, e_0 648 (.aload 0), e_0 649 (.iload 3), e_v 650 3, e_0 651 .iadd, e_0 652 .iaload, e_c 653 (.invokevirtual 0) 125 4 1 [(0,9)], e_0 654 (.aload 2), e_0 655 (.aload 0), e_0 656 (.iload 3), e_v 657 1, e_0 658 .iadd, e_0 659 .iaload, e_0 660 (.aload 0), e_0 661 (.iload 3), e_v 662 2, e_0 663 .iadd, e_0 664 .iaload, e_0 665 (.aload 0), e_0 666 (.iload 3), e_v 667 3, e_0 668 .iadd, e_0 669 .iaload, e_c 670 (.invokevirtual 0) 209 4 1 [(0,10)], e_j 671 (.if_icmp .eq 0) 901 [], e_v 672 0, e_a 673 .ireturn 1 0 0, e_0 674 (.aload 1), e_0 675 (.aload 0), e_0 676 (.iload 3), e_v 677 1, e_0 678 .iadd, e_0 679 .iaload, e_0 680 (.aload 0), e_0 681 (.iload 3), e_v 682 2, e_0 683 .iadd, e_0 684 .iaload, e_c 685 (.invokevirtual 0) 90 3 2 [(0,9)], e_0 686 (.aload 2), e_0 687 (.aload 0), e_0 688 (.iload 3), e_v 689 1, e_0 690 .iadd, e_0 691 .iaload, e_0 692 (.aload 0), e_0 693 (.iload 3), e_v 694 2, e_0 695 .iadd, e_0 696 .iaload, e_c 697 (.invokevirtual 0) 236 3 2 [(0,10)], e_0 698 .lcmp, e_j 699 (.ifCond .eq 0) 901 [], e_v 700 0, e_a 701 .ireturn 1 0 0, e_0 702 (.aload 1), e_0 703 (.aload 0), e_0 704 (.iload 3), e_v 705 1, e_0 706 .iadd, e_0 707 .iaload, e_0 708 (.aload 0), e_0 709 (.iload 3), e_v 710 2, e_0 711 .iadd, e_0 712 .iaload, e_0 713 (.aload 0), e_0 714 (.iload 3), e_v 715 3, e_0 716 .iadd, e_0 717 .iaload, e_0 718 (.aload 0), e_0 719 (.iload 3), e_v 720 4, e_0 721 .iadd, e_0 722 .iaload, e_c 723 (.invokevirtual 0) 121 5 1 [(0,9),(0,2),(0,8192)], e_0 724 (.aload 2), e_0 725 (.aload 0), e_0 726 (.iload 3), e_v 727 1, e_0 728 .iadd, e_0 729 .iaload, e_0 730 (.aload 0), e_0 731 (.iload 3), e_v 732 2, e_0 733 .iadd, e_0 734 .iaload, e_0 735 (.aload 0), e_0 736 (.iload 3), e_v 737 3, e_0 738 .iadd, e_0 739 .iaload, e_0 740 (.aload 0), e_0 741 (.iload 3), e_v 742 4, e_0 743 .iadd, e_0 744 .iaload, e_c 745 (.invokevirtual 0) 235 5 1 [(0,10)], e_j 746 (.if_icmp .eq 0) 901 [], e_v 747 0, e_a 748 .ireturn 1 0 0, e_0 749 (.aload 1), e_0 750 (.aload 0), e_0 751 (.iload 3), e_v 752 1, e_0 753 .iadd, e_0 754 .iaload, e_0 755 (.aload 0), e_0 756 (.iload 3), e_v 757 2, e_0 758 .iadd, e_0 759 .iaload, e_c 760 (.invokevirtual 0) 134 3 1 [(0,9)], e_0 761 (.aload 2), e_0 762 (.aload 0), e_0 763 (.iload 3), e_v 764 1, e_0 765 .iadd, e_0 766 .iaload, e_0 767 (.aload 0), e_0 768 (.iload 3), e_v 769 2, e_0 770 .iadd, e_0 771 .iaload, e_c 772 (.invokevirtual 0) 237 3 1 [(0,10)], e_j 773 (.if_icmp .eq 0) 901 [], e_v 774 0, e_a 775 .ireturn 1 0 0, e_0 776 (.aload 1), e_0 777 (.aload 0), e_0 778 (.iload 3), e_v 779 1, e_0 780 .iadd, e_0 781 .iaload, e_0 782 (.aload 0), e_0 783 (.iload 3), e_v 784 2, e_0 785 .iadd, e_0 786 .iaload, e_0 787 (.aload 0), e_0 788 (.iload 3), e_v 789 3, e_0 790 .iadd, e_0 791 .iaload, e_0 792 (.aload 0), e_0 793 (.iload 3), e_v 794 4, e_0 795 .iadd, e_0 796 .iaload, e_c 797 (.invokevirtual 0) 137 5 1 [(0,9)], e_0 798 (.aload 2), e_0 799 (.aload 0), e_0 800 (.iload 3), e_v 801 1, e_0 802 .iadd, e_0 803 .iaload, e_0 804 (.aload 0), e_0 805 (.iload 3), e_v 806 2, e_0 807 .iadd, e_0 808 .iaload, e_0 809 (.aload 0), e_0 810 (.iload 3), e_v 811 3, e_0 812 .iadd, e_0 813 .iaload, e_0 814 (.aload 0), e_0 815 (.iload 3), e_v 816 4, e_0 817 .iadd, e_0 818 .iaload, e_c 819 (.invokevirtual 0) 241 5 1 [(0,10)], e_j 820 (.if_icmp .eq 0) 901 [], e_v 821 0, e_a 822 .ireturn 1 0 0, e_0 823 (.aload 1), e_0 824 (.aload 0), e_0 825 (.iload 3), e_v 826 1, e_0 827 .iadd, e_0 828 .iaload, e_0 829 (.aload 0), e_0 830 (.iload 3), e_v 831 2, e_0 832 .iadd, e_0 833 .iaload, e_c 834 (.invokevirtual 0) 141 3 1 [(0,9)], e_0 835 (.aload 2), e_0 836 (.aload 0), e_0 837 (.iload 3), e_v 838 1, e_0 839 .iadd, e_0 840 .iaload, e_0 841 (.aload 0), e_0 842 (.iload 3), e_v 843 2, e_0 844 .iadd, e_0 845 .iaload, e_c 846 (.invokevirtual 0) 244 3 1 [(0,10)], e_j 847 (.if_icmp .eq 0) 901 [], e_v 848 0, e_a 849 .ireturn 1 0 0, e_0 850 (.aload 1), e_0 851 (.aload 0), e_0 852 (.iload 3), e_v 853 1, e_0 854 .iadd, e_0 855 .iaload, e_c 856 (.invokevirtual 0) 76 2 1 [(0,9)], e_0 857 (.aload 2), e_0 858 (.aload 0), e_0 859 (.iload 3), e_v 860 1, e_0 861 .iadd, e_0 862 .iaload, e_c 863 (.invokevirtual 0) 200 2 1 [(0,10)], e_j 864 (.if_icmp .eq 0) 901 [], e_v 865 0, e_a 866 .ireturn 1 0 0, e_0 867 (.aload 1), e_0 868 (.aload 0), e_0 869 (.iload 3), e_v 870 1, e_0 871 .iadd, e_0 872 .iaload, e_c 873 (.invokevirtual 0) 77 2 1 [(0,9)], e_0 874 (.aload 2), e_0 875 (.aload 0), e_0 876 (.iload 3), e_v 877 1, e_0 878 .iadd, e_0 879 .iaload, e_c 880 (.invokevirtual 0) 201 2 1 [(0,10)], e_j 881 (.if_icmp .eq 0) 901 [], e_v 882 0, e_a 883 .ireturn 1 0 0, e_0 884 (.aload 1), e_0 885 (.aload 0), e_0 886 (.iload 3), e_v 887 1, e_0 888 .iadd, e_0 889 .iaload, e_c 890 (.invokevirtual 0) 142 2 1 [(0,9)], e_0 891 (.aload 2), e_0 892 (.aload 0), e_0 893 (.iload 3), e_v 894 1, e_0 895 .iadd, e_0 896 .iaload, e_c 897 (.invokevirtual 0) 245 2 1 [(0,10)], e_j 898 (.if_icmp .eq 0) 901 [], e_v 899 0, e_a 900 .ireturn 1 0 0, e_i 901 3 (6), e_j 902 (.goto 0) 10 [(0,1),(0,1),(0,1),(0,1)], e_v 903 1, e_a 904 .ireturn 1 0 0]
abbrev n_Law_law : Nat := 247
/-- a method: its instructions, what it may make -/
def progs : List (List Ent × Nat × Nat) := [(p_FT_init, 110, 6151), (p_Tape_init, 1, 2000), (p_Tower_init, 70, 578), (p_Span_init, 2, 24), (p_Field_init, 1, 13), (p_Cycle_init, 0, 0), (p_Space_init, 0, 0), (p_Worker_init, 5, 44), (p_Hist_init, 2, 60), (p_Script_init, 9, 1645), (p_FT_feed, 0, 0), (p_Tape_append, 0, 0), (p_FT_back, 0, 0), (p_FT_read, 0, 0), (p_Script_parse, 0, 0), (p_Tape_rewind, 0, 0), (p_Tape_scanToken, 0, 0), (p_Tape_skipBlanks, 0, 0), (p_Tape_isBlank, 0, 0), (p_Tape_isLetter, 0, 0), (p_Tape_scanWord, 0, 0), (p_Tape_isDigit, 0, 0), (p_Tape_scanRow, 0, 0), (p_Tape_signKind, 0, 0), (p_Gram_after, 0, 0), (p_Gram_isPlainAtom, 0, 0), (p_Gram_afterPower, 0, 0), (p_Script_keep, 0, 0), (p_Script_check, 0, 0), (p_Script_checkToken, 0, 0), (p_Script_checkField, 0, 0), (p_Script_checkModulus, 0, 0), (p_Script_bitsOf, 0, 0), (p_FT_isField, 0, 0), (p_Poly_isModulus, 0, 0), (p_Poly_isWhole, 0, 0), (p_Poly_degreeOf, 0, 0), (p_Poly_remainder, 0, 0), (p_Script_checkNewName, 0, 0), (p_Script_indexOf, 0, 0), (p_Script_checkAtom, 0, 0), (p_FT_divides, 0, 0), (p_Tower_copyModuli, 0, 0), (p_Tower_takeModuli, 0, 0), (p_Tower_setModulus, 0, 0), (p_Cycle_forget, 0, 0), (p_Space_forget, 0, 0), (p_Worker_workOut, 0, 0), (p_Tower_prepare, 0, 0), (p_Tower_settle, 0, 0), (p_Field_x, 0, 0), (p_Tower_greatestBetween, 0, 0), (p_Field_valueAt, 0, 0), (p_Field_times, 0, 0), (p_Cycle_leastPrimitive, 0, 0), (p_Cycle_orderOf, 0, 0), (p_Field_toThe, 0, 0), (p_Tower_leastImage, 0, 0), (p_Tower_agrees, 0, 0), (p_FT_commonDivisor, 0, 0), (p_Worker_workLine, 0, 0), (p_Worker_begin, 0, 0), (p_Worker_atomAt, 0, 0), (p_Tower_raised, 0, 0), (p_Worker_join, 0, 0), (p_Field_inverse, 0, 0), (p_Worker_goOn, 0, 0), (p_Math_max, 0, 0), (p_FT_keepNameValues, 0, 0), (p_FT_emptySlots, 0, 0), (p_FT_place, 0, 0), (p_FT_change, 0, 0), (p_Hist_push, 0, 0), (p_FT_undo, 0, 0), (p_Hist_lastField, 0, 0), (p_Hist_lastModulus, 0, 0), (p_FT_hold, 0, 0), (p_FT_restore, 0, 0), (p_FT_modulus, 0, 0), (p_FT_whole, 0, 0), (p_FT_hasDegree, 0, 0), (p_FT_next, 0, 0), (p_FT_wholes, 0, 0), (p_FT_value, 0, 0), (p_FT_isElement, 0, 0), (p_FT_factor, 0, 0), (p_Poly_factorAt, 0, 0), (p_Poly_quotient, 0, 0), (p_FT_period, 0, 0), (p_Poly_periodOf, 0, 0), (p_FT_code, 0, 0), (p_Tower_codePolynomial, 0, 0), (p_Field_leastPolynomial, 0, 0), (p_Field_expandLeast, 0, 0), (p_Field_degreeOver, 0, 0), (p_Field_squared, 0, 0), (p_Math_min, 0, 0), (p_Tower_isNewPart, 0, 0), (p_Poly_product, 0, 0), (p_FT_both, 0, 0), (p_FT_power, 0, 0), (p_FT_element, 1, 4096), (p_Cycle_logarithmOf, 1, 4096), (p_Cycle_listLogarithms, 1, 4096), (p_Field_degreeOf, 0, 0), (p_Field_leastConjugate, 0, 0), (p_Cycle_isPrimitive, 0, 0), (p_Space_isNormal, 0, 0), (p_Space_traceOf, 0, 0), (p_Field_traceTo, 0, 0), (p_Intg_bitCount, 0, 0), (p_Space_spanConjugates, 0, 0), (p_Span_clear, 0, 0), (p_Span_add, 0, 0), (p_Space_coordinatesOf, 0, 0), (p_Space_leastNormal, 0, 0), (p_Span_express, 0, 0), (p_Space_dualOf, 0, 0), (p_Space_tracesWith, 0, 0), (p_FT_solve, 0, 0), (p_Space_solveSquare, 0, 0), (p_FT_roots, 2, 8192), (p_Cycle_rootCount, 1, 4096), (p_Cycle_leastRoot, 1, 4096), (p_Cycle_rootLogarithm, 0, 0), (p_FT_coset, 0, 0), (p_FT_doubled, 0, 0), (p_FT_raise, 0, 0), (p_FT_lower, 0, 0), (p_Tower_lowered, 0, 0), (p_FT_down, 0, 0), (p_Field_normTo, 0, 0), (p_FT_least, 0, 0), (p_Field_leastCoefficient, 0, 0), (p_FT_field, 0, 0), (p_Cycle_primitiveCount, 0, 0), (p_FT_divisorBits, 0, 0), (p_FT_written, 0, 0), (p_FT_writeOut, 0, 0), (p_FT_writePower, 0, 0), (p_FT_writeByte, 0, 0), (p_FT_let, 0, 0), (p_FT_count, 0, 0), (p_FT_heldSlots, 0, 0), (p_Tower_otherModuli, 0, 0), (p_M_init, 32, 17894), (p_M_letters, 0, 0), (p_M_appends, 0, 0), (p_M_degree, 0, 0), (p_M_times, 0, 0), (p_M_has, 0, 0), (p_M_leastWhole, 0, 0), (p_M_laysTower, 0, 0), (p_M_rest, 0, 0), (p_M_laysUp, 0, 0), (p_M_up, 0, 0), (p_M_product, 0, 0), (p_M_agrees, 0, 0), (p_M_valueAt, 0, 0), (p_M_common, 0, 0), (p_M_feed, 0, 0), (p_M_lays, 0, 0), (p_M_back, 0, 0), (p_M_read, 0, 0), (p_M_cutsText, 0, 0), (p_M_byteAt, 0, 0), (p_M_token, 0, 0), (p_M_isLetter, 0, 0), (p_M_isDigit, 0, 0), (p_M_sign, 0, 0), (p_M_is, 0, 0), (p_M_tell, 0, 0), (p_M_fail, 0, 0), (p_M_passes, 0, 0), (p_M_must, 0, 0), (p_M_expression, 0, 0), (p_M_maybePower, 0, 0), (p_M_puts, 0, 0), (p_M_means, 0, 0), (p_M_meansModulus, 0, 0), (p_M_isField, 0, 0), (p_M_in, 0, 0), (p_M_wrong, 0, 0), (p_M_rowAt, 0, 0), (p_M_isWhole, 0, 0), (p_M_meansLet, 0, 0), (p_M_named, 0, 0), (p_M_meansToken, 0, 0), (p_M_step, 0, 0), (p_M_settles, 0, 0), (p_M_rank, 0, 0), (p_M_works, 0, 0), (p_M_worksOne, 0, 0), (p_M_powered, 0, 0), (p_M_inverse, 0, 0), (p_M_takes, 0, 0), (p_M_place, 0, 0), (p_M_change, 0, 0), (p_M_undo, 0, 0), (p_M_lays2, 0, 0), (p_M_hold, 0, 0), (p_M_restore, 0, 0), (p_M_modulus, 0, 0), (p_M_whole, 0, 0), (p_M_next, 0, 0), (p_M_wholes, 0, 0), (p_M_factor, 0, 0), (p_M_quotient, 0, 0), (p_M_period, 0, 0), (p_M_coset, 0, 0), (p_M_both, 0, 0), (p_M_isOf, 0, 0), (p_M_power, 0, 0), (p_M_element, 0, 0), (p_M_squared, 0, 0), (p_M_orderOf, 0, 0), (p_M_logarithm, 0, 0), (p_M_leastPrimitive, 0, 0), (p_M_isPrimitive, 0, 0), (p_M_degreeOf, 0, 0), (p_M_leastConjugate, 0, 0), (p_M_isNormal, 0, 0), (p_M_coordinates, 0, 0), (p_M_leastNormal, 0, 0), (p_M_dualOf, 0, 0), (p_M_isDual, 0, 0), (p_M_traceDown, 0, 0), (p_M_raise, 0, 0), (p_M_lower, 0, 0), (p_M_lowered, 0, 0), (p_M_down, 0, 0), (p_M_least, 0, 0), (p_M_laysLeast, 0, 0), (p_M_solve, 0, 0), (p_M_value, 0, 0), (p_M_roots, 0, 0), (p_M_code, 0, 0), (p_M_field, 0, 0), (p_M_primitives, 0, 0), (p_M_countOf, 0, 0), (p_M_divisors, 0, 0), (p_M_written, 0, 0), (p_M_writesPower, 0, 0), (p_M_writes, 0, 0), (p_M_let, 0, 0), (p_M_count, 0, 0), (p_M_unlikeModuli, 0, 0), (p_Law_law, 600000, 7302250)]
def mxl : List Nat := [1, 1, 2, 1, 2, 2, 3, 1, 1, 1, 6, 3, 2, 3, 8, 1, 1, 1, 1, 2, 1, 2, 1, 1, 3, 1, 2, 3, 3, 2, 2, 3, 7, 1, 2, 3, 2, 5, 2, 4, 3, 2, 3, 3, 4, 1, 1, 4, 3, 4, 1, 3, 5, 6, 2, 6, 7, 9, 6, 6, 9, 2, 7, 4, 3, 2, 4, 2, 1, 2, 1, 4, 3, 1, 1, 1, 2, 2, 2, 2, 1, 3, 2, 4, 2, 3, 6, 6, 2, 4, 3, 8, 5, 7, 6, 5, 2, 3, 6, 6, 5, 4, 2, 4, 2, 5, 2, 2, 3, 6, 1, 5, 2, 5, 2, 2, 5, 3, 6, 6, 4, 6, 4, 8, 6, 9, 2, 4, 4, 6, 5, 6, 6, 5, 3, 5, 3, 6, 5, 5, 3, 5, 2, 3, 3, 3, 7, 3, 2, 4, 2, 3, 3, 5, 4, 6, 7, 7, 6, 5, 6, 3, 2, 2, 8, 2, 6, 1, 1, 3, 2, 2, 2, 1, 2, 3, 1, 2, 2, 4, 1, 3, 4, 4, 2, 4, 4, 4, 4, 3, 1, 3, 8, 7, 3, 2, 1, 6, 1, 4, 3, 2, 2, 2, 3, 4, 6, 6, 4, 8, 5, 2, 6, 4, 6, 5, 6, 3, 3, 4, 6, 8, 9, 3, 4, 6, 6, 4, 5, 5, 9, 6, 8, 8, 4, 8, 13, 3, 4, 6, 3, 6, 3, 2, 5, 2, 3, 4]
end
section
/-! printed by wip/gen/machtab.py: classes, fields, methods, raw instructions with their places -/
def r_0 : String := "FieldTower$Tape"
def ff_0 : u_T := fun k => match k with
  | 0 => ("FieldTower$Tape", "bytes", "[B", true)
  | 1 => ("FieldTower$Tape", "length", "I", false)
  | 2 => ("FieldTower$Tape", "at", "I", false)
  | 3 => ("FieldTower$Tape", "kind", "I", false)
  | 4 => ("FieldTower$Tape", "start", "I", false)
  | _ => ("FieldTower$Tape", "worth", "J", false)
def ft_0 : Nat → FieldType := fun k => match k with
  | 0 => .array (.byte)
  | 1 => .int
  | 2 => .int
  | 3 => .int
  | 4 => .int
  | _ => .long
theorem fn_0 : ∀ a, a < 6 → ∀ b, b < 6 → a ≠ b → (ff_0 a).2.1 ≠ (ff_0 b).2.1 := by decide +kernel
theorem fo_0 : ∀ k, k < 6 → parseFieldDescriptor (ff_0 k).2.2.1 = some (ft_0 k) := by decide +kernel
def r_1 : String := "FieldTower$Span"
def ff_1 : u_T := fun k => match k with
  | 0 => ("FieldTower$Span", "rows", "[I", true)
  | 1 => ("FieldTower$Span", "sources", "[I", true)
  | _ => ("FieldTower$Span", "added", "I", false)
def ft_1 : Nat → FieldType := fun k => match k with
  | 0 => .array (.int)
  | 1 => .array (.int)
  | _ => .int
theorem fn_1 : ∀ a, a < 3 → ∀ b, b < 3 → a ≠ b → (ff_1 a).2.1 ≠ (ff_1 b).2.1 := by decide +kernel
theorem fo_1 : ∀ k, k < 3 → parseFieldDescriptor (ff_1 k).2.2.1 = some (ft_1 k) := by decide +kernel
def r_2 : String := "FieldTower$Field"
def ff_2 : u_T := fun k => match k with
  | 0 => ("FieldTower$Field", "n", "I", true)
  | 1 => ("FieldTower$Field", "size", "I", true)
  | 2 => ("FieldTower$Field", "modulus", "I", false)
  | _ => ("FieldTower$Field", "coefficients", "[I", true)
def ft_2 : Nat → FieldType := fun k => match k with
  | 0 => .int
  | 1 => .int
  | 2 => .int
  | _ => .array (.int)
theorem fn_2 : ∀ a, a < 4 → ∀ b, b < 4 → a ≠ b → (ff_2 a).2.1 ≠ (ff_2 b).2.1 := by decide +kernel
theorem fo_2 : ∀ k, k < 4 → parseFieldDescriptor (ff_2 k).2.2.1 = some (ft_2 k) := by decide +kernel
def r_3 : String := "FieldTower$Cycle"
def ff_3 : u_T := fun k => match k with
  | 0 => ("FieldTower$Cycle", "field", "LFieldTower$Field;", true)
  | 1 => ("FieldTower$Cycle", "length", "I", true)
  | 2 => ("FieldTower$Cycle", "primitive", "I", false)
  | 3 => ("FieldTower$Cycle", "listed", "Z", false)
  | _ => ("FieldTower$Cycle", "logarithms", "[I", false)
def ft_3 : Nat → FieldType := fun k => match k with
  | 0 => .object "FieldTower$Field"
  | 1 => .int
  | 2 => .int
  | 3 => .boolean
  | _ => .array (.int)
theorem fn_3 : ∀ a, a < 5 → ∀ b, b < 5 → a ≠ b → (ff_3 a).2.1 ≠ (ff_3 b).2.1 := by decide +kernel
theorem fo_3 : ∀ k, k < 5 → parseFieldDescriptor (ff_3 k).2.2.1 = some (ft_3 k) := by decide +kernel
def r_4 : String := "FieldTower$Space"
def ff_4 : u_T := fun k => match k with
  | 0 => ("FieldTower$Space", "field", "LFieldTower$Field;", true)
  | 1 => ("FieldTower$Space", "span", "LFieldTower$Span;", true)
  | 2 => ("FieldTower$Space", "traceBits", "I", false)
  | _ => ("FieldTower$Space", "normal", "I", false)
def ft_4 : Nat → FieldType := fun k => match k with
  | 0 => .object "FieldTower$Field"
  | 1 => .object "FieldTower$Span"
  | 2 => .int
  | _ => .int
theorem fn_4 : ∀ a, a < 4 → ∀ b, b < 4 → a ≠ b → (ff_4 a).2.1 ≠ (ff_4 b).2.1 := by decide +kernel
theorem fo_4 : ∀ k, k < 4 → parseFieldDescriptor (ff_4 k).2.2.1 = some (ft_4 k) := by decide +kernel
def r_5 : String := "FieldTower$Tower"
def ff_5 : u_T := fun k => match k with
  | 0 => ("FieldTower$Tower", "fields", "[LFieldTower$Field;", true)
  | 1 => ("FieldTower$Tower", "cycles", "[LFieldTower$Cycle;", true)
  | 2 => ("FieldTower$Tower", "spaces", "[LFieldTower$Space;", true)
  | 3 => ("FieldTower$Tower", "span", "LFieldTower$Span;", true)
  | 4 => ("FieldTower$Tower", "images", "[[I", true)
  | 5 => ("FieldTower$Tower", "settled", "[Z", true)
  | _ => ("FieldTower$Tower", "codeParts", "[I", true)
def ft_5 : Nat → FieldType := fun k => match k with
  | 0 => .array (.object "FieldTower$Field")
  | 1 => .array (.object "FieldTower$Cycle")
  | 2 => .array (.object "FieldTower$Space")
  | 3 => .object "FieldTower$Span"
  | 4 => .array (.array (.int))
  | 5 => .array (.boolean)
  | _ => .array (.int)
theorem fn_5 : ∀ a, a < 7 → ∀ b, b < 7 → a ≠ b → (ff_5 a).2.1 ≠ (ff_5 b).2.1 := by decide +kernel
theorem fo_5 : ∀ k, k < 7 → parseFieldDescriptor (ff_5 k).2.2.1 = some (ft_5 k) := by decide +kernel
def r_6 : String := "FieldTower$Worker"
def ff_6 : u_T := fun k => match k with
  | 0 => ("FieldTower$Worker", "results", "[I", true)
  | 1 => ("FieldTower$Worker", "zeroPlace", "I", false)
  | 2 => ("FieldTower$Worker", "sums", "[I", true)
  | 3 => ("FieldTower$Worker", "products", "[I", true)
  | 4 => ("FieldTower$Worker", "signs", "[I", true)
  | 5 => ("FieldTower$Worker", "signPlaces", "[I", true)
  | _ => ("FieldTower$Worker", "latest", "I", false)
def ft_6 : Nat → FieldType := fun k => match k with
  | 0 => .array (.int)
  | 1 => .int
  | 2 => .array (.int)
  | 3 => .array (.int)
  | 4 => .array (.int)
  | 5 => .array (.int)
  | _ => .int
theorem fn_6 : ∀ a, a < 7 → ∀ b, b < 7 → a ≠ b → (ff_6 a).2.1 ≠ (ff_6 b).2.1 := by decide +kernel
theorem fo_6 : ∀ k, k < 7 → parseFieldDescriptor (ff_6 k).2.2.1 = some (ft_6 k) := by decide +kernel
def r_7 : String := "FieldTower$History"
def ff_7 : u_T := fun k => match k with
  | 0 => ("FieldTower$History", "changedFields", "[I", true)
  | 1 => ("FieldTower$History", "formerModuli", "[I", true)
  | _ => ("FieldTower$History", "length", "I", false)
def ft_7 : Nat → FieldType := fun k => match k with
  | 0 => .array (.int)
  | 1 => .array (.int)
  | _ => .int
theorem fn_7 : ∀ a, a < 3 → ∀ b, b < 3 → a ≠ b → (ff_7 a).2.1 ≠ (ff_7 b).2.1 := by decide +kernel
theorem fo_7 : ∀ k, k < 3 → parseFieldDescriptor (ff_7 k).2.2.1 = some (ft_7 k) := by decide +kernel
def r_8 : String := "FieldTower$Script"
def ff_8 : u_T := fun k => match k with
  | 0 => ("FieldTower$Script", "size", "I", false)
  | 1 => ("FieldTower$Script", "kinds", "[I", true)
  | 2 => ("FieldTower$Script", "roles", "[I", true)
  | 3 => ("FieldTower$Script", "places", "[I", true)
  | 4 => ("FieldTower$Script", "worths", "[J", true)
  | 5 => ("FieldTower$Script", "moduli", "[I", true)
  | 6 => ("FieldTower$Script", "names", "I", false)
  | 7 => ("FieldTower$Script", "nameLetters", "[J", true)
  | 8 => ("FieldTower$Script", "nameFields", "[I", true)
  | 9 => ("FieldTower$Script", "nameStarts", "[I", true)
  | 10 => ("FieldTower$Script", "nameMixes", "[Z", true)
  | 11 => ("FieldTower$Script", "lineField", "I", false)
  | _ => ("FieldTower$Script", "faultPlace", "I", false)
def ft_8 : Nat → FieldType := fun k => match k with
  | 0 => .int
  | 1 => .array (.int)
  | 2 => .array (.int)
  | 3 => .array (.int)
  | 4 => .array (.long)
  | 5 => .array (.int)
  | 6 => .int
  | 7 => .array (.long)
  | 8 => .array (.int)
  | 9 => .array (.int)
  | 10 => .array (.boolean)
  | 11 => .int
  | _ => .int
theorem fn_8 : ∀ a, a < 13 → ∀ b, b < 13 → a ≠ b → (ff_8 a).2.1 ≠ (ff_8 b).2.1 := by decide +kernel
theorem fo_8 : ∀ k, k < 13 → parseFieldDescriptor (ff_8 k).2.2.1 = some (ft_8 k) := by decide +kernel
def r_9 : String := "FieldTower"
def ff_9 : u_T := fun k => match k with
  | 0 => ("FieldTower", "tape", "LFieldTower$Tape;", true)
  | 1 => ("FieldTower", "tower", "LFieldTower$Tower;", true)
  | 2 => ("FieldTower", "worker", "LFieldTower$Worker;", true)
  | 3 => ("FieldTower", "history", "LFieldTower$History;", true)
  | 4 => ("FieldTower", "nameValues", "[I", true)
  | 5 => ("FieldTower", "formerModuli", "[I", true)
  | 6 => ("FieldTower", "slotModuli", "[[I", true)
  | 7 => ("FieldTower", "slotHolds", "[Z", true)
  | 8 => ("FieldTower", "writtenBytes", "[I", true)
  | 9 => ("FieldTower", "script", "LFieldTower$Script;", false)
  | 10 => ("FieldTower", "spareScript", "LFieldTower$Script;", false)
  | _ => ("FieldTower", "faultPlace", "I", false)
def ft_9 : Nat → FieldType := fun k => match k with
  | 0 => .object "FieldTower$Tape"
  | 1 => .object "FieldTower$Tower"
  | 2 => .object "FieldTower$Worker"
  | 3 => .object "FieldTower$History"
  | 4 => .array (.int)
  | 5 => .array (.int)
  | 6 => .array (.array (.int))
  | 7 => .array (.boolean)
  | 8 => .array (.int)
  | 9 => .object "FieldTower$Script"
  | 10 => .object "FieldTower$Script"
  | _ => .int
theorem fn_9 : ∀ a, a < 12 → ∀ b, b < 12 → a ≠ b → (ff_9 a).2.1 ≠ (ff_9 b).2.1 := by decide +kernel
theorem fo_9 : ∀ k, k < 12 → parseFieldDescriptor (ff_9 k).2.2.1 = some (ft_9 k) := by decide +kernel
def r_10 : String := "FieldTowerModel"
def ff_10 : u_T := fun k => match k with
  | 0 => ("FieldTowerModel", "thrown", "I", false)
  | 1 => ("FieldTowerModel", "tape", "[B", true)
  | 2 => ("FieldTowerModel", "taped", "I", false)
  | 3 => ("FieldTowerModel", "text", "[B", true)
  | 4 => ("FieldTowerModel", "size", "I", false)
  | 5 => ("FieldTowerModel", "tKind", "[I", true)
  | 6 => ("FieldTowerModel", "tPlace", "[I", true)
  | 7 => ("FieldTowerModel", "tValue", "[I", true)
  | 8 => ("FieldTowerModel", "tName", "[J", true)
  | 9 => ("FieldTowerModel", "keys", "[J", true)
  | 10 => ("FieldTowerModel", "tokens", "I", false)
  | 11 => ("FieldTowerModel", "t", "I", false)
  | 12 => ("FieldTowerModel", "fault", "I", false)
  | 13 => ("FieldTowerModel", "faultPlace", "I", false)
  | 14 => ("FieldTowerModel", "worst", "I", false)
  | 15 => ("FieldTowerModel", "worstPlace", "I", false)
  | 16 => ("FieldTowerModel", "place", "I", false)
  | 17 => ("FieldTowerModel", "isSplit", "[Z", true)
  | 18 => ("FieldTowerModel", "now", "[I", true)
  | 19 => ("FieldTowerModel", "draft", "[I", true)
  | 20 => ("FieldTowerModel", "letLines", "I", false)
  | 21 => ("FieldTowerModel", "stepKind", "[I", true)
  | 22 => ("FieldTowerModel", "stepValue", "[I", true)
  | 23 => ("FieldTowerModel", "stepPlace", "[I", true)
  | 24 => ("FieldTowerModel", "steps", "I", false)
  | 25 => ("FieldTowerModel", "letFrom", "[I", true)
  | 26 => ("FieldTowerModel", "letField", "[I", true)
  | 27 => ("FieldTowerModel", "letValue", "[I", true)
  | 28 => ("FieldTowerModel", "letName", "[J", true)
  | 29 => ("FieldTowerModel", "lets", "I", false)
  | 30 => ("FieldTowerModel", "hadKind", "[I", true)
  | 31 => ("FieldTowerModel", "hadValue", "[I", true)
  | 32 => ("FieldTowerModel", "hadPlace", "[I", true)
  | 33 => ("FieldTowerModel", "hadLets", "[I", true)
  | 34 => ("FieldTowerModel", "had", "[I", true)
  | 35 => ("FieldTowerModel", "hadSteps", "I", false)
  | 36 => ("FieldTowerModel", "waiting", "[I", true)
  | 37 => ("FieldTowerModel", "waits", "I", false)
  | 38 => ("FieldTowerModel", "stack", "[I", true)
  | 39 => ("FieldTowerModel", "earlier", "[I", true)
  | 40 => ("FieldTowerModel", "earliest", "I", false)
  | 41 => ("FieldTowerModel", "undos", "I", false)
  | 42 => ("FieldTowerModel", "held", "[I", true)
  | 43 => ("FieldTowerModel", "isHeld", "[Z", true)
  | 44 => ("FieldTowerModel", "xUp", "[I", true)
  | 45 => ("FieldTowerModel", "rowOf", "[I", true)
  | 46 => ("FieldTowerModel", "madeOf", "[I", true)
  | 47 => ("FieldTowerModel", "leastOf", "[I", true)
  | 48 => ("FieldTowerModel", "signs", "[I", true)
  | _ => ("FieldTowerModel", "signMany", "I", false)
def ft_10 : Nat → FieldType := fun k => match k with
  | 0 => .int
  | 1 => .array (.byte)
  | 2 => .int
  | 3 => .array (.byte)
  | 4 => .int
  | 5 => .array (.int)
  | 6 => .array (.int)
  | 7 => .array (.int)
  | 8 => .array (.long)
  | 9 => .array (.long)
  | 10 => .int
  | 11 => .int
  | 12 => .int
  | 13 => .int
  | 14 => .int
  | 15 => .int
  | 16 => .int
  | 17 => .array (.boolean)
  | 18 => .array (.int)
  | 19 => .array (.int)
  | 20 => .int
  | 21 => .array (.int)
  | 22 => .array (.int)
  | 23 => .array (.int)
  | 24 => .int
  | 25 => .array (.int)
  | 26 => .array (.int)
  | 27 => .array (.int)
  | 28 => .array (.long)
  | 29 => .int
  | 30 => .array (.int)
  | 31 => .array (.int)
  | 32 => .array (.int)
  | 33 => .array (.int)
  | 34 => .array (.int)
  | 35 => .int
  | 36 => .array (.int)
  | 37 => .int
  | 38 => .array (.int)
  | 39 => .array (.int)
  | 40 => .int
  | 41 => .int
  | 42 => .array (.int)
  | 43 => .array (.boolean)
  | 44 => .array (.int)
  | 45 => .array (.int)
  | 46 => .array (.int)
  | 47 => .array (.int)
  | 48 => .array (.int)
  | _ => .int
theorem fn_10 : ∀ a, a < 50 → ∀ b, b < 50 → a ≠ b → (ff_10 a).2.1 ≠ (ff_10 b).2.1 := by decide +kernel
theorem fo_10 : ∀ k, k < 50 → parseFieldDescriptor (ff_10 k).2.2.1 = some (ft_10 k) := by decide +kernel
def v_cl : List vw_C := [(r_0, ff_0, 6), (r_1, ff_1, 3), (r_2, ff_2, 4), (r_3, ff_3, 5), (r_4, ff_4, 4), (r_5, ff_5, 7), (r_6, ff_6, 7), (r_7, ff_7, 3), (r_8, ff_8, 13), (r_9, ff_9, 12), (r_10, ff_10, 50)]
/-- kinds of fields: 0 int, 1 long, 2 reference, 3 boolean -/
def fts : List (List Nat) := [[2, 0, 0, 0, 0, 1], [2, 2, 0], [0, 0, 0, 2], [2, 0, 0, 3, 2], [2, 2, 0, 0], [2, 2, 2, 2, 2, 2, 2], [2, 0, 2, 2, 2, 2, 0], [2, 2, 0], [0, 2, 2, 2, 2, 2, 0, 2, 2, 2, 2, 0, 0], [2, 2, 2, 2, 2, 2, 2, 2, 2, 2, 2, 0], [0, 2, 0, 2, 0, 2, 2, 2, 2, 2, 0, 0, 0, 0, 0, 0, 0, 2, 2, 2, 0, 2, 2, 2, 0, 2, 2, 2, 2, 0, 2, 2, 2, 2, 2, 0, 2, 0, 2, 2, 0, 0, 2, 2, 2, 2, 2, 2, 2, 0]]
def x_FT_init : List (Nat × Instr × Nat × Nat) := [(0, (.aload_n 0), 1, 0), (1, (.invokespecial 1), 3, 110), (4, (.aload_n 0), 1, 0), (5, (.new 7), 3, 113), (8, .dup, 1, 0), (9, (.invokespecial 9), 3, 115), (12, (.putfield 10), 3, 375), (15, (.aload_n 0), 1, 0), (16, (.new 16), 3, 143), (19, .dup, 1, 0), (20, (.invokespecial 18), 3, 145), (23, (.putfield 19), 3, 376), (26, (.aload_n 0), 1, 0), (27, (.new 23), 3, 267), (30, .dup, 1, 0), (31, (.invokespecial 25), 3, 269), (34, (.putfield 26), 3, 377), (37, (.aload_n 0), 1, 0), (38, (.new 30), 3, 297), (41, .dup, 1, 0), (42, (.invokespecial 32), 3, 299), (45, (.putfield 33), 3, 378), (48, (.aload_n 0), 1, 0), (49, (.bipush 8), 2, 0), (51, (.newarray .int), 2, 0), (53, (.putfield 37), 3, 379), (56, (.aload_n 0), 1, 0), (57, (.bipush 13), 2, 0), (59, (.newarray .int), 2, 0), (61, (.putfield 41), 3, 380), (64, (.aload_n 0), 1, 0), (65, (.iconst 3), 1, 0), (66, (.bipush 13), 2, 0), (68, (.multianewarray 44 2), 4, 314), (72, (.putfield 46), 3, 381), (75, (.aload_n 0), 1, 0), (76, (.iconst 3), 1, 0), (77, (.newarray .boolean), 2, 0), (79, (.putfield 49), 3, 382), (82, (.aload_n 0), 1, 0), (83, (.bipush 64), 2, 0), (85, (.newarray .int), 2, 0), (87, (.putfield 53), 3, 383), (90, (.aload_n 0), 1, 0), (91, (.new 56), 3, 315), (94, .dup, 1, 0), (95, (.invokespecial 58), 3, 317), (98, (.putfield 59), 3, 384), (101, (.aload_n 0), 1, 0), (102, (.new 56), 3, 315), (105, .dup, 1, 0), (106, (.invokespecial 58), 3, 317), (109, (.putfield 63), 3, 385), (112, (.aload_n 0), 1, 0), (113, (.iconst (-1)), 1, 0), (114, (.putfield 66), 3, 386), (117, .return_, 1, 0)]
def x_Tape_init : List (Nat × Instr × Nat × Nat) := [(0, (.aload_n 0), 1, 0), (1, (.invokespecial 3), 3, 118), (4, (.aload_n 0), 1, 0), (5, (.sipush 2000), 3, 0), (8, (.newarray .byte), 2, 0), (10, (.putfield 9), 3, 119), (13, .return_, 1, 0)]
def x_Tower_init : List (Nat × Instr × Nat × Nat) := [(0, (.aload_n 0), 1, 0), (1, (.invokespecial 3), 3, 148), (4, (.aload_n 0), 1, 0), (5, (.bipush 13), 2, 0), (7, (.anewarray 9), 3, 149), (10, (.putfield 11), 3, 241), (13, (.aload_n 0), 1, 0), (14, (.bipush 13), 2, 0), (16, (.anewarray 17), 3, 151), (19, (.putfield 19), 3, 244), (22, (.aload_n 0), 1, 0), (23, (.bipush 13), 2, 0), (25, (.anewarray 23), 3, 153), (28, (.putfield 25), 3, 246), (31, (.aload_n 0), 1, 0), (32, (.new 29), 3, 155), (35, .dup, 1, 0), (36, (.invokespecial 31), 3, 157), (39, (.putfield 32), 3, 248), (42, (.aload_n 0), 1, 0), (43, (.bipush 13), 2, 0), (45, (.bipush 13), 2, 0), (47, (.multianewarray 36 2), 4, 172), (51, (.putfield 38), 3, 249), (54, (.aload_n 0), 1, 0), (55, (.bipush 13), 2, 0), (57, (.newarray .boolean), 2, 0), (59, (.putfield 41), 3, 250), (62, (.aload_n 0), 1, 0), (63, (.iconst 5), 1, 0), (64, (.newarray .int), 2, 0), (66, (.putfield 45), 3, 251), (69, (.iconst 1), 1, 0), (70, (.istore_n 1), 1, 0), (71, (.iload_n 1), 1, 0), (72, (.bipush 12), 2, 0), (74, (.if_icmp .gt 65), 3, 0), (77, (.aload_n 0), 1, 0), (78, (.getfield 11), 3, 241), (81, (.iload_n 1), 1, 0), (82, (.new 9), 3, 149), (85, .dup, 1, 0), (86, (.iload_n 1), 1, 0), (87, (.invokespecial 49), 3, 175), (90, .aastore, 1, 0), (91, (.aload_n 0), 1, 0), (92, (.getfield 19), 3, 244), (95, (.iload_n 1), 1, 0), (96, (.new 17), 3, 151), (99, .dup, 1, 0), (100, (.aload_n 0), 1, 0), (101, (.getfield 11), 3, 241), (104, (.iload_n 1), 1, 0), (105, .aaload, 1, 0), (106, (.invokespecial 52), 3, 203), (109, .aastore, 1, 0), (110, (.aload_n 0), 1, 0), (111, (.getfield 25), 3, 246), (114, (.iload_n 1), 1, 0), (115, (.new 23), 3, 153), (118, .dup, 1, 0), (119, (.aload_n 0), 1, 0), (120, (.getfield 11), 3, 241), (123, (.iload_n 1), 1, 0), (124, .aaload, 1, 0), (125, (.aload_n 0), 1, 0), (126, (.getfield 32), 3, 248), (129, (.invokespecial 55), 3, 224), (132, .aastore, 1, 0), (133, (.iinc 1 1), 3, 0), (136, (.goto (-65)), 3, 0), (139, .return_, 1, 0)]
def x_Span_init : List (Nat × Instr × Nat × Nat) := [(0, (.aload_n 0), 1, 0), (1, (.invokespecial 3), 3, 160), (4, (.aload_n 0), 1, 0), (5, (.bipush 12), 2, 0), (7, (.newarray .int), 2, 0), (9, (.putfield 9), 3, 161), (12, (.aload_n 0), 1, 0), (13, (.bipush 12), 2, 0), (15, (.newarray .int), 2, 0), (17, (.putfield 15), 3, 162), (20, .return_, 1, 0)]
def x_Field_init : List (Nat × Instr × Nat × Nat) := [(0, (.aload_n 0), 1, 0), (1, (.invokespecial 3), 3, 178), (4, (.aload_n 0), 1, 0), (5, (.iload_n 1), 1, 0), (6, (.putfield 9), 3, 181), (9, (.aload_n 0), 1, 0), (10, (.iconst 1), 1, 0), (11, (.iload_n 1), 1, 0), (12, .ishl, 1, 0), (13, (.putfield 15), 3, 184), (16, (.aload_n 0), 1, 0), (17, (.getstatic 18), 3, 179), (20, (.iload_n 1), 1, 0), (21, .iaload, 1, 0), (22, (.putfield 22), 3, 187), (25, (.aload_n 0), 1, 0), (26, (.bipush 13), 2, 0), (28, (.newarray .int), 2, 0), (30, (.putfield 25), 3, 191), (33, .return_, 1, 0)]
def x_Cycle_init : List (Nat × Instr × Nat × Nat) := [(0, (.aload_n 0), 1, 0), (1, (.invokespecial 3), 3, 206), (4, (.aload_n 0), 1, 0), (5, (.aload_n 1), 1, 0), (6, (.putfield 9), 3, 207), (9, (.aload_n 0), 1, 0), (10, (.aload_n 1), 1, 0), (11, (.getfield 15), 3, 183), (14, (.iconst 1), 1, 0), (15, .isub, 1, 0), (16, (.putfield 21), 3, 208), (19, .return_, 1, 0)]
def x_Space_init : List (Nat × Instr × Nat × Nat) := [(0, (.aload_n 0), 1, 0), (1, (.invokespecial 1), 3, 227), (4, (.aload_n 0), 1, 0), (5, (.aload_n 1), 1, 0), (6, (.putfield 7), 3, 228), (9, (.aload_n 0), 1, 0), (10, (.aload_n 2), 1, 0), (11, (.putfield 13), 3, 229), (14, .return_, 1, 0)]
def x_Worker_init : List (Nat × Instr × Nat × Nat) := [(0, (.aload_n 0), 1, 0), (1, (.invokespecial 3), 3, 272), (4, (.aload_n 0), 1, 0), (5, (.bipush 8), 2, 0), (7, (.newarray .int), 2, 0), (9, (.putfield 9), 3, 273), (12, (.aload_n 0), 1, 0), (13, (.bipush 9), 2, 0), (15, (.newarray .int), 2, 0), (17, (.putfield 15), 3, 277), (20, (.aload_n 0), 1, 0), (21, (.bipush 9), 2, 0), (23, (.newarray .int), 2, 0), (25, (.putfield 18), 3, 278), (28, (.aload_n 0), 1, 0), (29, (.bipush 9), 2, 0), (31, (.newarray .int), 2, 0), (33, (.putfield 21), 3, 279), (36, (.aload_n 0), 1, 0), (37, (.bipush 9), 2, 0), (39, (.newarray .int), 2, 0), (41, (.putfield 24), 3, 280), (44, .return_, 1, 0)]
def x_Hist_init : List (Nat × Instr × Nat × Nat) := [(0, (.aload_n 0), 1, 0), (1, (.invokespecial 3), 3, 302), (4, (.aload_n 0), 1, 0), (5, (.bipush 30), 2, 0), (7, (.newarray .int), 2, 0), (9, (.putfield 9), 3, 303), (12, (.aload_n 0), 1, 0), (13, (.bipush 30), 2, 0), (15, (.newarray .int), 2, 0), (17, (.putfield 15), 3, 304), (20, .return_, 1, 0)]
def x_Script_init : List (Nat × Instr × Nat × Nat) := [(0, (.aload_n 0), 1, 0), (1, (.invokespecial 3), 3, 320), (4, (.aload_n 0), 1, 0), (5, (.sipush 400), 3, 0), (8, (.newarray .int), 2, 0), (10, (.putfield 9), 3, 323), (13, (.aload_n 0), 1, 0), (14, (.sipush 400), 3, 0), (17, (.newarray .int), 2, 0), (19, (.putfield 15), 3, 325), (22, (.aload_n 0), 1, 0), (23, (.sipush 400), 3, 0), (26, (.newarray .int), 2, 0), (28, (.putfield 18), 3, 327), (31, (.aload_n 0), 1, 0), (32, (.sipush 400), 3, 0), (35, (.newarray .long), 2, 0), (37, (.putfield 21), 3, 329), (40, (.aload_n 0), 1, 0), (41, (.bipush 13), 2, 0), (43, (.newarray .int), 2, 0), (45, (.putfield 25), 3, 331), (48, (.aload_n 0), 1, 0), (49, (.bipush 8), 2, 0), (51, (.newarray .long), 2, 0), (53, (.putfield 28), 3, 336), (56, (.aload_n 0), 1, 0), (57, (.bipush 8), 2, 0), (59, (.newarray .int), 2, 0), (61, (.putfield 31), 3, 337), (64, (.aload_n 0), 1, 0), (65, (.bipush 8), 2, 0), (67, (.newarray .int), 2, 0), (69, (.putfield 34), 3, 340), (72, (.aload_n 0), 1, 0), (73, (.bipush 8), 2, 0), (75, (.newarray .boolean), 2, 0), (77, (.putfield 37), 3, 342), (80, (.aload_n 0), 1, 0), (81, (.iconst (-1)), 1, 0), (82, (.putfield 41), 3, 345), (85, .return_, 1, 0)]
def x_FT_feed : List (Nat × Instr × Nat × Nat) := [(0, (.aload_n 0), 1, 0), (1, (.getfield 10), 3, 375), (4, (.getfield 70), 3, 120), (7, (.bipush 20), 2, 0), (9, .iadd, 1, 0), (10, (.sipush 2000), 3, 0), (13, (.if_icmp .le 5), 3, 0), (16, (.iconst (-1)), 1, 0), (17, .ireturn, 1, 0), (18, (.aload_n 0), 1, 0), (19, (.getfield 10), 3, 375), (22, (.iload_n 1), 1, 0), (23, (.invokevirtual 73), 3, 416), (26, (.aload_n 0), 1, 0), (27, (.getfield 10), 3, 375), (30, (.iload_n 2), 1, 0), (31, (.invokevirtual 73), 3, 416), (34, (.aload_n 0), 1, 0), (35, (.getfield 10), 3, 375), (38, (.iload_n 3), 1, 0), (39, (.invokevirtual 73), 3, 416), (42, (.aload_n 0), 1, 0), (43, (.getfield 10), 3, 375), (46, (.iload 4), 2, 0), (48, (.invokevirtual 73), 3, 416), (51, (.aload_n 0), 1, 0), (52, (.getfield 10), 3, 375), (55, (.iload 5), 2, 0), (57, (.invokevirtual 73), 3, 416), (60, (.aload_n 0), 1, 0), (61, (.getfield 10), 3, 375), (64, (.getfield 70), 3, 120), (67, .ireturn, 1, 0)]
def x_Tape_append : List (Nat × Instr × Nat × Nat) := [(0, (.bipush 24), 2, 0), (2, (.istore_n 2), 1, 0), (3, (.iload_n 2), 1, 0), (4, (.ifCond .lt 42), 3, 0), (7, (.aload_n 0), 1, 0), (8, (.getfield 15), 3, 121), (11, (.sipush 2000), 3, 0), (14, (.if_icmp .ge 32), 3, 0), (17, (.aload_n 0), 1, 0), (18, (.getfield 9), 3, 119), (21, (.aload_n 0), 1, 0), (22, (.getfield 15), 3, 121), (25, (.iload_n 1), 1, 0), (26, (.iload_n 2), 1, 0), (27, .ishr, 1, 0), (28, .i2b, 1, 0), (29, .bastore, 1, 0), (30, (.aload_n 0), 1, 0), (31, .dup, 1, 0), (32, (.getfield 15), 3, 121), (35, (.iconst 1), 1, 0), (36, .iadd, 1, 0), (37, (.putfield 15), 3, 121), (40, (.iinc 2 (-8)), 3, 0), (43, (.goto (-40)), 3, 0), (46, .return_, 1, 0)]
def x_FT_back : List (Nat × Instr × Nat × Nat) := [(0, (.iload_n 1), 1, 0), (1, (.ifCond .lt 14), 3, 0), (4, (.iload_n 1), 1, 0), (5, (.aload_n 0), 1, 0), (6, (.getfield 10), 3, 375), (9, (.getfield 70), 3, 120), (12, (.if_icmp .le 5), 3, 0), (15, (.iconst (-1)), 1, 0), (16, .ireturn, 1, 0), (17, (.aload_n 0), 1, 0), (18, (.getfield 10), 3, 375), (21, .dup, 1, 0), (22, (.getfield 70), 3, 120), (25, (.iload_n 1), 1, 0), (26, .isub, 1, 0), (27, (.putfield 70), 3, 120), (30, (.aload_n 0), 1, 0), (31, (.getfield 10), 3, 375), (34, (.getfield 70), 3, 120), (37, .ireturn, 1, 0)]
def x_FT_read : List (Nat × Instr × Nat × Nat) := [(0, (.aload_n 0), 1, 0), (1, (.getfield 63), 3, 385), (4, (.aload_n 0), 1, 0), (5, (.getfield 10), 3, 375), (8, (.invokevirtual 77), 3, 428), (11, (.istore_n 1), 1, 0), (12, (.iload_n 1), 1, 0), (13, (.ifCond .ne 11), 3, 0), (16, (.aload_n 0), 1, 0), (17, (.getfield 63), 3, 385), (20, (.invokevirtual 81), 3, 483), (23, (.istore_n 1), 1, 0), (24, (.aload_n 0), 1, 0), (25, (.getfield 10), 3, 375), (28, (.iconst 0), 1, 0), (29, (.putfield 70), 3, 120), (32, (.aload_n 0), 1, 0), (33, (.aload_n 0), 1, 0), (34, (.getfield 63), 3, 385), (37, (.getfield 85), 3, 346), (40, (.putfield 66), 3, 386), (43, (.iload_n 1), 1, 0), (44, (.ifCond .eq 5), 3, 0), (47, (.iload_n 1), 1, 0), (48, .ireturn, 1, 0), (49, (.aload_n 0), 1, 0), (50, (.getfield 19), 3, 376), (53, (.aload_n 0), 1, 0), (54, (.getfield 41), 3, 380), (57, (.invokevirtual 86), 3, 540), (60, (.aload_n 0), 1, 0), (61, (.getfield 19), 3, 376), (64, (.aload_n 0), 1, 0), (65, (.getfield 63), 3, 385), (68, (.getfield 90), 3, 332), (71, (.invokevirtual 93), 3, 544), (74, (.aload_n 0), 1, 0), (75, (.getfield 26), 3, 377), (78, (.aload_n 0), 1, 0), (79, (.getfield 63), 3, 385), (82, (.aload_n 0), 1, 0), (83, (.getfield 19), 3, 376), (86, (.invokevirtual 96), 3, 561), (89, (.ifCond .ne 28), 3, 0), (92, (.aload_n 0), 1, 0), (93, (.getfield 19), 3, 376), (96, (.aload_n 0), 1, 0), (97, (.getfield 41), 3, 380), (100, (.invokevirtual 93), 3, 544), (103, (.aload_n 0), 1, 0), (104, (.aload_n 0), 1, 0), (105, (.getfield 26), 3, 377), (108, (.getfield 100), 3, 276), (111, (.putfield 66), 3, 386), (114, (.bipush 7), 2, 0), (116, .ireturn, 1, 0), (117, (.aload_n 0), 1, 0), (118, (.getfield 59), 3, 384), (121, (.astore_n 2), 1, 0), (122, (.aload_n 0), 1, 0), (123, (.aload_n 0), 1, 0), (124, (.getfield 63), 3, 385), (127, (.putfield 59), 3, 384), (130, (.aload_n 0), 1, 0), (131, (.aload_n 2), 1, 0), (132, (.putfield 63), 3, 385), (135, (.aload_n 0), 1, 0), (136, (.invokevirtual 103), 3, 652), (139, (.aload_n 0), 1, 0), (140, (.getfield 33), 3, 378), (143, (.iconst 0), 1, 0), (144, (.putfield 106), 3, 306), (147, (.aload_n 0), 1, 0), (148, (.invokevirtual 107), 3, 657), (151, (.iconst 0), 1, 0), (152, .ireturn, 1, 0)]
def x_Script_parse : List (Nat × Instr × Nat × Nat) := [(0, (.iconst 1), 1, 0), (1, (.istore_n 2), 1, 0), (2, (.iconst 0), 1, 0), (3, (.istore_n 3), 1, 0), (4, (.iconst 0), 1, 0), (5, (.istore 4), 2, 0), (7, (.aload_n 0), 1, 0), (8, (.iconst 0), 1, 0), (9, (.putfield 45), 3, 321), (12, (.aload_n 1), 1, 0), (13, (.invokevirtual 48), 3, 432), (16, (.iconst 0), 1, 0), (17, (.istore 5), 2, 0), (19, (.iload 5), 2, 0), (21, (.sipush 2000), 3, 0), (24, (.if_icmp .gt 138), 3, 0), (27, (.aload_n 1), 1, 0), (28, (.invokevirtual 53), 3, 436), (31, (.aload_n 1), 1, 0), (32, (.getfield 56), 3, 123), (35, (.istore 6), 2, 0), (37, (.aload_n 0), 1, 0), (38, (.aload_n 1), 1, 0), (39, (.getfield 59), 3, 125), (42, (.putfield 41), 3, 345), (45, (.iload 6), 2, 0), (47, (.bipush 14), 2, 0), (49, (.if_icmp .ne 15), 3, 0), (52, (.iload_n 2), 1, 0), (53, (.iconst 1), 1, 0), (54, (.if_icmp .ne 10), 3, 0), (57, (.aload_n 0), 1, 0), (58, (.iconst (-1)), 1, 0), (59, (.putfield 41), 3, 345), (62, (.iconst 0), 1, 0), (63, .ireturn, 1, 0), (64, (.iload_n 2), 1, 0), (65, (.iload 6), 2, 0), (67, (.iload_n 3), 1, 0), (68, (.invokestatic 62), 3, 470), (71, (.istore 7), 2, 0), (73, (.iload 7), 2, 0), (75, (.ifCond .ne 5), 3, 0), (78, (.iconst 1), 1, 0), (79, .ireturn, 1, 0), (80, (.iload 4), 2, 0), (82, (.iload 6), 2, 0), (84, (.iconst 2), 1, 0), (85, (.if_icmp .ne 7), 3, 0), (88, (.iconst 1), 1, 0), (89, (.goto 4), 3, 0), (92, (.iconst 0), 1, 0), (93, .iadd, 1, 0), (94, (.istore 4), 2, 0), (96, (.iload_n 3), 1, 0), (97, (.iload 6), 2, 0), (99, (.bipush 11), 2, 0), (101, (.if_icmp .ne 7), 3, 0), (104, (.iconst 1), 1, 0), (105, (.goto 15), 3, 0), (108, (.iload 6), 2, 0), (110, (.bipush 12), 2, 0), (112, (.if_icmp .ne 7), 3, 0), (115, (.iconst (-1)), 1, 0), (116, (.goto 4), 3, 0), (119, (.iconst 0), 1, 0), (120, .iadd, 1, 0), (121, (.istore_n 3), 1, 0), (122, (.aload_n 0), 1, 0), (123, (.getfield 45), 3, 321), (126, (.sipush 400), 3, 0), (129, (.if_icmp .ge 16), 3, 0), (132, (.iload 4), 2, 0), (134, (.bipush 8), 2, 0), (136, (.if_icmp .gt 9), 3, 0), (139, (.iload_n 3), 1, 0), (140, (.bipush 8), 2, 0), (142, (.if_icmp .le 5), 3, 0), (145, (.iconst 2), 1, 0), (146, .ireturn, 1, 0), (147, (.aload_n 0), 1, 0), (148, (.aload_n 1), 1, 0), (149, (.iload_n 2), 1, 0), (150, (.invokevirtual 68), 3, 479), (153, (.iload 7), 2, 0), (155, (.istore_n 2), 1, 0), (156, (.iinc 5 1), 3, 0), (159, (.goto (-140)), 3, 0), (162, (.iconst 1), 1, 0), (163, .ireturn, 1, 0)]
def x_Tape_rewind : List (Nat × Instr × Nat × Nat) := [(0, (.aload_n 0), 1, 0), (1, (.iconst 0), 1, 0), (2, (.putfield 19), 3, 122), (5, .return_, 1, 0)]
def x_Tape_scanToken : List (Nat × Instr × Nat × Nat) := [(0, (.aload_n 0), 1, 0), (1, (.invokevirtual 22), 3, 440), (4, (.aload_n 0), 1, 0), (5, (.aload_n 0), 1, 0), (6, (.getfield 19), 3, 122), (9, (.putfield 25), 3, 126), (12, (.aload_n 0), 1, 0), (13, (.lconst 0), 1, 0), (14, (.putfield 28), 3, 128), (17, (.aload_n 0), 1, 0), (18, (.getfield 19), 3, 122), (21, (.aload_n 0), 1, 0), (22, (.getfield 15), 3, 121), (25, (.if_icmp .lt 12), 3, 0), (28, (.aload_n 0), 1, 0), (29, (.bipush 14), 2, 0), (31, (.putfield 32), 3, 124), (34, (.goto 65), 3, 0), (37, (.aload_n 0), 1, 0), (38, (.aload_n 0), 1, 0), (39, (.getfield 19), 3, 122), (42, (.invokevirtual 35), 3, 447), (45, (.ifCond .eq 10), 3, 0), (48, (.aload_n 0), 1, 0), (49, (.invokevirtual 39), 3, 451), (52, (.goto 47), 3, 0), (55, (.aload_n 0), 1, 0), (56, (.aload_n 0), 1, 0), (57, (.getfield 19), 3, 122), (60, (.invokevirtual 42), 3, 458), (63, (.ifCond .eq 10), 3, 0), (66, (.aload_n 0), 1, 0), (67, (.invokevirtual 45), 3, 462), (70, (.goto 29), 3, 0), (73, (.aload_n 0), 1, 0), (74, (.aload_n 0), 1, 0), (75, (.getfield 9), 3, 119), (78, (.aload_n 0), 1, 0), (79, (.getfield 19), 3, 122), (82, .baload, 1, 0), (83, (.invokestatic 48), 3, 467), (86, (.putfield 32), 3, 124), (89, (.aload_n 0), 1, 0), (90, .dup, 1, 0), (91, (.getfield 19), 3, 122), (94, (.iconst 1), 1, 0), (95, .iadd, 1, 0), (96, (.putfield 19), 3, 122), (99, .return_, 1, 0)]
def x_Tape_skipBlanks : List (Nat × Instr × Nat × Nat) := [(0, (.aload_n 0), 1, 0), (1, (.getfield 19), 3, 122), (4, (.aload_n 0), 1, 0), (5, (.getfield 15), 3, 121), (8, (.if_icmp .ge 31), 3, 0), (11, (.aload_n 0), 1, 0), (12, (.getfield 9), 3, 119), (15, (.aload_n 0), 1, 0), (16, (.getfield 19), 3, 122), (19, .baload, 1, 0), (20, (.invokestatic 52), 3, 444), (23, (.ifCond .eq 16), 3, 0), (26, (.aload_n 0), 1, 0), (27, .dup, 1, 0), (28, (.getfield 19), 3, 122), (31, (.iconst 1), 1, 0), (32, .iadd, 1, 0), (33, (.putfield 19), 3, 122), (36, (.goto (-36)), 3, 0), (39, .return_, 1, 0)]
def x_Tape_isBlank : List (Nat × Instr × Nat × Nat) := [(0, (.iload_n 0), 1, 0), (1, (.bipush 9), 2, 0), (3, (.if_icmp .eq 21), 3, 0), (6, (.iload_n 0), 1, 0), (7, (.bipush 10), 2, 0), (9, (.if_icmp .eq 15), 3, 0), (12, (.iload_n 0), 1, 0), (13, (.bipush 13), 2, 0), (15, (.if_icmp .eq 9), 3, 0), (18, (.iload_n 0), 1, 0), (19, (.bipush 32), 2, 0), (21, (.if_icmp .ne 7), 3, 0), (24, (.iconst 1), 1, 0), (25, (.goto 4), 3, 0), (28, (.iconst 0), 1, 0), (29, .ireturn, 1, 0)]
def x_Tape_isLetter : List (Nat × Instr × Nat × Nat) := [(0, (.iload_n 1), 1, 0), (1, (.aload_n 0), 1, 0), (2, (.getfield 15), 3, 121), (5, (.if_icmp .ge 29), 3, 0), (8, (.aload_n 0), 1, 0), (9, (.getfield 9), 3, 119), (12, (.iload_n 1), 1, 0), (13, .baload, 1, 0), (14, (.bipush 97), 2, 0), (16, (.if_icmp .lt 18), 3, 0), (19, (.aload_n 0), 1, 0), (20, (.getfield 9), 3, 119), (23, (.iload_n 1), 1, 0), (24, .baload, 1, 0), (25, (.bipush 122), 2, 0), (27, (.if_icmp .gt 7), 3, 0), (30, (.iconst 1), 1, 0), (31, (.goto 4), 3, 0), (34, (.iconst 0), 1, 0), (35, .ireturn, 1, 0)]
def x_Tape_scanWord : List (Nat × Instr × Nat × Nat) := [(0, (.aload_n 0), 1, 0), (1, (.getfield 19), 3, 122), (4, (.aload_n 0), 1, 0), (5, (.getfield 15), 3, 121), (8, (.if_icmp .ge 53), 3, 0), (11, (.aload_n 0), 1, 0), (12, (.aload_n 0), 1, 0), (13, (.getfield 19), 3, 122), (16, (.invokevirtual 35), 3, 447), (19, (.ifCond .eq 42), 3, 0), (22, (.aload_n 0), 1, 0), (23, (.aload_n 0), 1, 0), (24, (.getfield 28), 3, 128), (27, (.iconst 5), 1, 0), (28, .lshl, 1, 0), (29, (.aload_n 0), 1, 0), (30, (.getfield 9), 3, 119), (33, (.aload_n 0), 1, 0), (34, (.getfield 19), 3, 122), (37, .baload, 1, 0), (38, (.bipush 97), 2, 0), (40, .isub, 1, 0), (41, (.iconst 1), 1, 0), (42, .iadd, 1, 0), (43, .i2l, 1, 0), (44, .ladd, 1, 0), (45, (.putfield 28), 3, 128), (48, (.aload_n 0), 1, 0), (49, .dup, 1, 0), (50, (.getfield 19), 3, 122), (53, (.iconst 1), 1, 0), (54, .iadd, 1, 0), (55, (.putfield 19), 3, 122), (58, (.goto (-58)), 3, 0), (61, (.aload_n 0), 1, 0), (62, (.getfield 19), 3, 122), (65, (.aload_n 0), 1, 0), (66, (.getfield 25), 3, 126), (69, .isub, 1, 0), (70, (.bipush 8), 2, 0), (72, (.if_icmp .le 12), 3, 0), (75, (.aload_n 0), 1, 0), (76, (.bipush 13), 2, 0), (78, (.putfield 32), 3, 124), (81, (.goto 65), 3, 0), (84, (.aload_n 0), 1, 0), (85, (.getfield 28), 3, 128), (88, (.ldc2_w 55), 3, 455), (91, .lcmp, 1, 0), (92, (.ifCond .ne 11), 3, 0), (95, (.aload_n 0), 1, 0), (96, (.iconst 1), 1, 0), (97, (.putfield 32), 3, 124), (100, (.goto 46), 3, 0), (103, (.aload_n 0), 1, 0), (104, (.getfield 28), 3, 128), (107, (.ldc2_w 57), 3, 456), (110, .lcmp, 1, 0), (111, (.ifCond .ne 11), 3, 0), (114, (.aload_n 0), 1, 0), (115, (.iconst 2), 1, 0), (116, (.putfield 32), 3, 124), (119, (.goto 27), 3, 0), (122, (.aload_n 0), 1, 0), (123, (.getfield 28), 3, 128), (126, (.ldc2_w 59), 3, 457), (129, .lcmp, 1, 0), (130, (.ifCond .ne 11), 3, 0), (133, (.aload_n 0), 1, 0), (134, (.iconst 3), 1, 0), (135, (.putfield 32), 3, 124), (138, (.goto 8), 3, 0), (141, (.aload_n 0), 1, 0), (142, (.iconst 4), 1, 0), (143, (.putfield 32), 3, 124), (146, .return_, 1, 0)]
def x_Tape_isDigit : List (Nat × Instr × Nat × Nat) := [(0, (.iload_n 1), 1, 0), (1, (.aload_n 0), 1, 0), (2, (.getfield 15), 3, 121), (5, (.if_icmp .ge 29), 3, 0), (8, (.aload_n 0), 1, 0), (9, (.getfield 9), 3, 119), (12, (.iload_n 1), 1, 0), (13, .baload, 1, 0), (14, (.bipush 48), 2, 0), (16, (.if_icmp .lt 18), 3, 0), (19, (.aload_n 0), 1, 0), (20, (.getfield 9), 3, 119), (23, (.iload_n 1), 1, 0), (24, .baload, 1, 0), (25, (.bipush 57), 2, 0), (27, (.if_icmp .gt 7), 3, 0), (30, (.iconst 1), 1, 0), (31, (.goto 4), 3, 0), (34, (.iconst 0), 1, 0), (35, .ireturn, 1, 0)]
def x_Tape_scanRow : List (Nat × Instr × Nat × Nat) := [(0, (.aload_n 0), 1, 0), (1, (.getfield 19), 3, 122), (4, (.aload_n 0), 1, 0), (5, (.getfield 15), 3, 121), (8, (.if_icmp .ge 53), 3, 0), (11, (.aload_n 0), 1, 0), (12, (.aload_n 0), 1, 0), (13, (.getfield 19), 3, 122), (16, (.invokevirtual 42), 3, 458), (19, (.ifCond .eq 42), 3, 0), (22, (.aload_n 0), 1, 0), (23, (.aload_n 0), 1, 0), (24, (.getfield 28), 3, 128), (27, (.ldc2_w 61), 3, 466), (30, .lmul, 1, 0), (31, (.aload_n 0), 1, 0), (32, (.getfield 9), 3, 119), (35, (.aload_n 0), 1, 0), (36, (.getfield 19), 3, 122), (39, .baload, 1, 0), (40, (.bipush 48), 2, 0), (42, .isub, 1, 0), (43, .i2l, 1, 0), (44, .ladd, 1, 0), (45, (.putfield 28), 3, 128), (48, (.aload_n 0), 1, 0), (49, .dup, 1, 0), (50, (.getfield 19), 3, 122), (53, (.iconst 1), 1, 0), (54, .iadd, 1, 0), (55, (.putfield 19), 3, 122), (58, (.goto (-58)), 3, 0), (61, (.aload_n 0), 1, 0), (62, (.aload_n 0), 1, 0), (63, (.getfield 19), 3, 122), (66, (.aload_n 0), 1, 0), (67, (.getfield 25), 3, 126), (70, .isub, 1, 0), (71, (.bipush 13), 2, 0), (73, (.if_icmp .le 8), 3, 0), (76, (.bipush 13), 2, 0), (78, (.goto 4), 3, 0), (81, (.iconst 5), 1, 0), (82, (.putfield 32), 3, 124), (85, .return_, 1, 0)]
def x_Tape_signKind : List (Nat × Instr × Nat × Nat) := [(0, (.iload_n 0), 1, 0), (1, (.lookupswitch 88 #[(40, 82), (41, 85), (42, 73), (43, 70), (47, 76), (59, 67), (94, 79)]), 67, 0), (68, (.bipush 6), 2, 0), (70, .ireturn, 1, 0), (71, (.bipush 7), 2, 0), (73, .ireturn, 1, 0), (74, (.bipush 8), 2, 0), (76, .ireturn, 1, 0), (77, (.bipush 9), 2, 0), (79, .ireturn, 1, 0), (80, (.bipush 10), 2, 0), (82, .ireturn, 1, 0), (83, (.bipush 11), 2, 0), (85, .ireturn, 1, 0), (86, (.bipush 12), 2, 0), (88, .ireturn, 1, 0), (89, (.bipush 13), 2, 0), (91, .ireturn, 1, 0)]
def x_Gram_after : List (Nat × Instr × Nat × Nat) := [(0, (.iload_n 0), 1, 0), (1, (.tableswitch 193 1 10 #[55, 75, 86, 97, 109, 121, 133, 158, 175, 187]), 55, 0), (56, (.iload_n 1), 1, 0), (57, (.iconst 1), 1, 0), (58, (.if_icmp .ne 7), 3, 0), (61, (.iconst 2), 1, 0), (62, (.goto 13), 3, 0), (65, (.iload_n 1), 1, 0), (66, (.iconst 2), 1, 0), (67, (.if_icmp .ne 7), 3, 0), (70, (.iconst 5), 1, 0), (71, (.goto 4), 3, 0), (74, (.iconst 0), 1, 0), (75, .ireturn, 1, 0), (76, (.iload_n 1), 1, 0), (77, (.iconst 5), 1, 0), (78, (.if_icmp .ne 7), 3, 0), (81, (.iconst 3), 1, 0), (82, (.goto 4), 3, 0), (85, (.iconst 0), 1, 0), (86, .ireturn, 1, 0), (87, (.iload_n 1), 1, 0), (88, (.iconst 5), 1, 0), (89, (.if_icmp .ne 7), 3, 0), (92, (.iconst 4), 1, 0), (93, (.goto 4), 3, 0), (96, (.iconst 0), 1, 0), (97, .ireturn, 1, 0), (98, (.iload_n 1), 1, 0), (99, (.bipush 6), 2, 0), (101, (.if_icmp .ne 7), 3, 0), (104, (.iconst 1), 1, 0), (105, (.goto 4), 3, 0), (108, (.iconst 0), 1, 0), (109, .ireturn, 1, 0), (110, (.iload_n 1), 1, 0), (111, (.iconst 4), 1, 0), (112, (.if_icmp .ne 8), 3, 0), (115, (.bipush 6), 2, 0), (117, (.goto 4), 3, 0), (120, (.iconst 0), 1, 0), (121, .ireturn, 1, 0), (122, (.iload_n 1), 1, 0), (123, (.iconst 5), 1, 0), (124, (.if_icmp .ne 8), 3, 0), (127, (.bipush 7), 2, 0), (129, (.goto 4), 3, 0), (132, (.iconst 0), 1, 0), (133, .ireturn, 1, 0), (134, (.iload_n 1), 1, 0), (135, (.bipush 11), 2, 0), (137, (.if_icmp .ne 8), 3, 0), (140, (.bipush 7), 2, 0), (142, (.goto 16), 3, 0), (145, (.iload_n 1), 1, 0), (146, (.invokestatic 9), 3, 473), (149, (.ifCond .eq 8), 3, 0), (152, (.bipush 8), 2, 0), (154, (.goto 4), 3, 0), (157, (.iconst 0), 1, 0), (158, .ireturn, 1, 0), (159, (.iload_n 1), 1, 0), (160, (.bipush 10), 2, 0), (162, (.if_icmp .ne 8), 3, 0), (165, (.bipush 9), 2, 0), (167, (.goto 8), 3, 0), (170, (.iload_n 1), 1, 0), (171, (.iload_n 2), 1, 0), (172, (.invokestatic 15), 3, 476), (175, .ireturn, 1, 0), (176, (.iload_n 1), 1, 0), (177, (.iconst 5), 1, 0), (178, (.if_icmp .ne 8), 3, 0), (181, (.bipush 10), 2, 0), (183, (.goto 4), 3, 0), (186, (.iconst 0), 1, 0), (187, .ireturn, 1, 0), (188, (.iload_n 1), 1, 0), (189, (.iload_n 2), 1, 0), (190, (.invokestatic 15), 3, 476), (193, .ireturn, 1, 0), (194, (.iconst 0), 1, 0), (195, .ireturn, 1, 0)]
def x_Gram_isPlainAtom : List (Nat × Instr × Nat × Nat) := [(0, (.iload_n 0), 1, 0), (1, (.iconst 3), 1, 0), (2, (.if_icmp .eq 13), 3, 0), (5, (.iload_n 0), 1, 0), (6, (.iconst 5), 1, 0), (7, (.if_icmp .eq 8), 3, 0), (10, (.iload_n 0), 1, 0), (11, (.iconst 4), 1, 0), (12, (.if_icmp .ne 7), 3, 0), (15, (.iconst 1), 1, 0), (16, (.goto 4), 3, 0), (19, (.iconst 0), 1, 0), (20, .ireturn, 1, 0)]
def x_Gram_afterPower : List (Nat × Instr × Nat × Nat) := [(0, (.iload_n 0), 1, 0), (1, (.tableswitch 67 6 12 #[57, 43, 43, 43, 67, 67, 46]), 43, 0), (44, (.bipush 7), 2, 0), (46, .ireturn, 1, 0), (47, (.iload_n 1), 1, 0), (48, (.ifCond .le 8), 3, 0), (51, (.bipush 8), 2, 0), (53, (.goto 4), 3, 0), (56, (.iconst 0), 1, 0), (57, .ireturn, 1, 0), (58, (.iload_n 1), 1, 0), (59, (.ifCond .ne 7), 3, 0), (62, (.iconst 1), 1, 0), (63, (.goto 4), 3, 0), (66, (.iconst 0), 1, 0), (67, .ireturn, 1, 0), (68, (.iconst 0), 1, 0), (69, .ireturn, 1, 0)]
def x_Script_keep : List (Nat × Instr × Nat × Nat) := [(0, (.aload_n 0), 1, 0), (1, (.getfield 9), 3, 323), (4, (.aload_n 0), 1, 0), (5, (.getfield 45), 3, 321), (8, (.aload_n 1), 1, 0), (9, (.getfield 56), 3, 123), (12, .iastore, 1, 0), (13, (.aload_n 0), 1, 0), (14, (.getfield 15), 3, 325), (17, (.aload_n 0), 1, 0), (18, (.getfield 45), 3, 321), (21, (.iload_n 2), 1, 0), (22, .iastore, 1, 0), (23, (.aload_n 0), 1, 0), (24, (.getfield 18), 3, 327), (27, (.aload_n 0), 1, 0), (28, (.getfield 45), 3, 321), (31, (.aload_n 1), 1, 0), (32, (.getfield 59), 3, 125), (35, .iastore, 1, 0), (36, (.aload_n 0), 1, 0), (37, (.getfield 21), 3, 329), (40, (.aload_n 0), 1, 0), (41, (.getfield 45), 3, 321), (44, (.aload_n 1), 1, 0), (45, (.getfield 72), 3, 127), (48, .lastore, 1, 0), (49, (.aload_n 0), 1, 0), (50, .dup, 1, 0), (51, (.getfield 45), 3, 321), (54, (.iconst 1), 1, 0), (55, .iadd, 1, 0), (56, (.putfield 45), 3, 321), (59, .return_, 1, 0)]
def x_Script_check : List (Nat × Instr × Nat × Nat) := [(0, (.aload_n 0), 1, 0), (1, (.iconst 0), 1, 0), (2, (.putfield 76), 3, 334), (5, (.aload_n 0), 1, 0), (6, (.iconst 0), 1, 0), (7, (.putfield 79), 3, 344), (10, (.getstatic 82), 3, 487), (13, (.iconst 0), 1, 0), (14, (.aload_n 0), 1, 0), (15, (.getfield 25), 3, 331), (18, (.iconst 0), 1, 0), (19, (.bipush 13), 2, 0), (21, (.invokestatic 85), 3, 488), (24, (.iconst 0), 1, 0), (25, (.istore_n 1), 1, 0), (26, (.iload_n 1), 1, 0), (27, (.aload_n 0), 1, 0), (28, (.getfield 45), 3, 321), (31, (.if_icmp .ge 31), 3, 0), (34, (.aload_n 0), 1, 0), (35, (.iload_n 1), 1, 0), (36, (.invokevirtual 91), 3, 491), (39, (.istore_n 2), 1, 0), (40, (.iload_n 2), 1, 0), (41, (.ifCond .eq 15), 3, 0), (44, (.aload_n 0), 1, 0), (45, (.aload_n 0), 1, 0), (46, (.getfield 18), 3, 327), (49, (.iload_n 1), 1, 0), (50, .iaload, 1, 0), (51, (.putfield 41), 3, 345), (54, (.iload_n 2), 1, 0), (55, .ireturn, 1, 0), (56, (.iinc 1 1), 3, 0), (59, (.goto (-33)), 3, 0), (62, (.iconst 0), 1, 0), (63, .ireturn, 1, 0)]
def x_Script_checkToken : List (Nat × Instr × Nat × Nat) := [(0, (.aload_n 0), 1, 0), (1, (.getfield 15), 3, 325), (4, (.iload_n 1), 1, 0), (5, .iaload, 1, 0), (6, (.tableswitch 120 2 10 #[50, 56, 120, 62, 50, 68, 93, 74, 93]), 50, 0), (56, (.aload_n 0), 1, 0), (57, (.iload_n 1), 1, 0), (58, (.invokevirtual 95), 3, 495), (61, .ireturn, 1, 0), (62, (.aload_n 0), 1, 0), (63, (.iload_n 1), 1, 0), (64, (.invokevirtual 98), 3, 500), (67, .ireturn, 1, 0), (68, (.aload_n 0), 1, 0), (69, (.iload_n 1), 1, 0), (70, (.invokevirtual 101), 3, 523), (73, .ireturn, 1, 0), (74, (.aload_n 0), 1, 0), (75, (.iload_n 1), 1, 0), (76, (.invokevirtual 104), 3, 531), (79, .ireturn, 1, 0), (80, (.aload_n 0), 1, 0), (81, (.getfield 21), 3, 329), (84, (.iload_n 1), 1, 0), (85, .laload, 1, 0), (86, (.ldc2_w 107), 3, 539), (89, .lcmp, 1, 0), (90, (.ifCond .le 7), 3, 0), (93, (.iconst 5), 1, 0), (94, (.goto 4), 3, 0), (97, (.iconst 0), 1, 0), (98, .ireturn, 1, 0), (99, (.aload_n 0), 1, 0), (100, .dup, 1, 0), (101, (.getfield 76), 3, 334), (104, (.aload_n 0), 1, 0), (105, (.getfield 9), 3, 323), (108, (.iload_n 1), 1, 0), (109, .iaload, 1, 0), (110, (.bipush 6), 2, 0), (112, (.if_icmp .ne 7), 3, 0), (115, (.iconst 1), 1, 0), (116, (.goto 4), 3, 0), (119, (.iconst 0), 1, 0), (120, .iadd, 1, 0), (121, (.putfield 76), 3, 334), (124, (.iconst 0), 1, 0), (125, .ireturn, 1, 0), (126, (.iconst 0), 1, 0), (127, .ireturn, 1, 0)]
def x_Script_checkField : List (Nat × Instr × Nat × Nat) := [(0, (.aload_n 0), 1, 0), (1, (.getfield 21), 3, 329), (4, (.iload_n 1), 1, 0), (5, .laload, 1, 0), (6, (.lconst 1), 1, 0), (7, .lcmp, 1, 0), (8, (.ifCond .lt 16), 3, 0), (11, (.aload_n 0), 1, 0), (12, (.getfield 21), 3, 329), (15, (.iload_n 1), 1, 0), (16, .laload, 1, 0), (17, (.ldc2_w 109), 3, 499), (20, .lcmp, 1, 0), (21, (.ifCond .le 5), 3, 0), (24, (.iconst 5), 1, 0), (25, .ireturn, 1, 0), (26, (.aload_n 0), 1, 0), (27, (.aload_n 0), 1, 0), (28, (.getfield 21), 3, 329), (31, (.iload_n 1), 1, 0), (32, .laload, 1, 0), (33, .l2i, 1, 0), (34, (.putfield 79), 3, 344), (37, (.aload_n 0), 1, 0), (38, (.getfield 15), 3, 325), (41, (.iload_n 1), 1, 0), (42, .iaload, 1, 0), (43, (.bipush 6), 2, 0), (45, (.if_icmp .ne 47), 3, 0), (48, (.aload_n 0), 1, 0), (49, (.getfield 76), 3, 334), (52, (.bipush 8), 2, 0), (54, (.if_icmp .ge 38), 3, 0), (57, (.aload_n 0), 1, 0), (58, (.getfield 31), 3, 337), (61, (.aload_n 0), 1, 0), (62, (.getfield 76), 3, 334), (65, (.aload_n 0), 1, 0), (66, (.getfield 79), 3, 344), (69, .iastore, 1, 0), (70, (.aload_n 0), 1, 0), (71, (.getfield 34), 3, 340), (74, (.aload_n 0), 1, 0), (75, (.getfield 76), 3, 334), (78, (.iload_n 1), 1, 0), (79, (.iconst 1), 1, 0), (80, .iadd, 1, 0), (81, .iastore, 1, 0), (82, (.aload_n 0), 1, 0), (83, (.getfield 37), 3, 342), (86, (.aload_n 0), 1, 0), (87, (.getfield 76), 3, 334), (90, (.iconst 0), 1, 0), (91, .bastore, 1, 0), (92, (.iconst 0), 1, 0), (93, .ireturn, 1, 0)]
def x_Script_checkModulus : List (Nat × Instr × Nat × Nat) := [(0, (.aload_n 0), 1, 0), (1, (.getfield 21), 3, 329), (4, (.iload_n 1), 1, 0), (5, .laload, 1, 0), (6, (.invokestatic 111), 3, 504), (9, (.istore_n 2), 1, 0), (10, (.aload_n 0), 1, 0), (11, (.getfield 79), 3, 344), (14, (.invokestatic 115), 3, 508), (17, (.ifCond .eq 19), 3, 0), (20, (.iload_n 2), 1, 0), (21, (.iconst (-1)), 1, 0), (22, (.if_icmp .eq 14), 3, 0), (25, (.iload_n 2), 1, 0), (26, (.aload_n 0), 1, 0), (27, (.getfield 79), 3, 344), (30, (.invokestatic 119), 3, 511), (33, (.ifCond .ne 5), 3, 0), (36, (.iconst 5), 1, 0), (37, .ireturn, 1, 0), (38, (.aload_n 0), 1, 0), (39, (.getfield 25), 3, 331), (42, (.aload_n 0), 1, 0), (43, (.getfield 79), 3, 344), (46, (.iload_n 2), 1, 0), (47, .iastore, 1, 0), (48, (.iconst 0), 1, 0), (49, .ireturn, 1, 0)]
def x_Script_bitsOf : List (Nat × Instr × Nat × Nat) := [(0, (.iconst 0), 1, 0), (1, (.istore_n 2), 1, 0), (2, (.lload_n 0), 1, 0), (3, (.lstore_n 3), 1, 0), (4, (.iconst 0), 1, 0), (5, (.istore 5), 2, 0), (7, (.iload 5), 2, 0), (9, (.bipush 13), 2, 0), (11, (.if_icmp .ge 39), 3, 0), (14, (.lload_n 3), 1, 0), (15, (.ldc2_w 133), 3, 507), (18, .lrem, 1, 0), (19, .l2i, 1, 0), (20, (.istore 6), 2, 0), (22, (.iload 6), 2, 0), (24, (.iconst 1), 1, 0), (25, (.if_icmp .le 5), 3, 0), (28, (.iconst (-1)), 1, 0), (29, .ireturn, 1, 0), (30, (.iload_n 2), 1, 0), (31, (.iload 6), 2, 0), (33, (.iload 5), 2, 0), (35, .ishl, 1, 0), (36, .ior, 1, 0), (37, (.istore_n 2), 1, 0), (38, (.lload_n 3), 1, 0), (39, (.ldc2_w 133), 3, 507), (42, .ldiv, 1, 0), (43, (.lstore_n 3), 1, 0), (44, (.iinc 5 1), 3, 0), (47, (.goto (-40)), 3, 0), (50, (.iload_n 2), 1, 0), (51, .ireturn, 1, 0)]
def x_FT_isField : List (Nat × Instr × Nat × Nat) := [(0, (.iload_n 0), 1, 0), (1, (.iconst 1), 1, 0), (2, (.if_icmp .lt 13), 3, 0), (5, (.iload_n 0), 1, 0), (6, (.bipush 12), 2, 0), (8, (.if_icmp .gt 7), 3, 0), (11, (.iconst 1), 1, 0), (12, (.goto 4), 3, 0), (15, (.iconst 0), 1, 0), (16, .ireturn, 1, 0)]
def x_Poly_isModulus : List (Nat × Instr × Nat × Nat) := [(0, (.iload_n 0), 1, 0), (1, (.iconst 1), 1, 0), (2, (.iload_n 1), 1, 0), (3, .ishl, 1, 0), (4, (.if_icmp .lt 21), 3, 0), (7, (.iload_n 0), 1, 0), (8, (.iconst 2), 1, 0), (9, (.iload_n 1), 1, 0), (10, .ishl, 1, 0), (11, (.if_icmp .ge 14), 3, 0), (14, (.iload_n 0), 1, 0), (15, (.invokestatic 19), 3, 514), (18, (.ifCond .eq 7), 3, 0), (21, (.iconst 1), 1, 0), (22, (.goto 4), 3, 0), (25, (.iconst 0), 1, 0), (26, .ireturn, 1, 0)]
def x_Poly_isWhole : List (Nat × Instr × Nat × Nat) := [(0, (.iconst 1), 1, 0), (1, (.iload_n 0), 1, 0), (2, (.invokestatic 9), 3, 517), (5, (.iconst 2), 1, 0), (6, .idiv, 1, 0), (7, (.iconst 1), 1, 0), (8, .iadd, 1, 0), (9, .ishl, 1, 0), (10, (.istore_n 1), 1, 0), (11, (.iconst 2), 1, 0), (12, (.istore_n 2), 1, 0), (13, (.iload_n 2), 1, 0), (14, (.iload_n 1), 1, 0), (15, (.if_icmp .ge 19), 3, 0), (18, (.iload_n 0), 1, 0), (19, (.iload_n 2), 1, 0), (20, (.invokestatic 15), 3, 520), (23, (.ifCond .ne 5), 3, 0), (26, (.iconst 0), 1, 0), (27, .ireturn, 1, 0), (28, (.iinc 2 1), 3, 0), (31, (.goto (-18)), 3, 0), (34, (.iconst 1), 1, 0), (35, .ireturn, 1, 0)]
def x_Poly_degreeOf : List (Nat × Instr × Nat × Nat) := [(0, (.bipush 12), 2, 0), (2, (.istore_n 1), 1, 0), (3, (.iload_n 1), 1, 0), (4, (.ifCond .lt 19), 3, 0), (7, (.iload_n 0), 1, 0), (8, (.iload_n 1), 1, 0), (9, .ishr, 1, 0), (10, (.iconst 1), 1, 0), (11, .iand, 1, 0), (12, (.ifCond .eq 5), 3, 0), (15, (.iload_n 1), 1, 0), (16, .ireturn, 1, 0), (17, (.iinc 1 (-1)), 3, 0), (20, (.goto (-17)), 3, 0), (23, (.iconst (-1)), 1, 0), (24, .ireturn, 1, 0)]
def x_Poly_remainder : List (Nat × Instr × Nat × Nat) := [(0, (.iload_n 1), 1, 0), (1, (.invokestatic 9), 3, 517), (4, (.istore_n 2), 1, 0), (5, (.iload_n 0), 1, 0), (6, (.istore_n 3), 1, 0), (7, (.bipush 12), 2, 0), (9, (.istore 4), 2, 0), (11, (.iload 4), 2, 0), (13, (.iload_n 2), 1, 0), (14, (.if_icmp .lt 31), 3, 0), (17, (.iload_n 2), 1, 0), (18, (.ifCond .lt 27), 3, 0), (21, (.iload_n 3), 1, 0), (22, (.iload 4), 2, 0), (24, .ishr, 1, 0), (25, (.iconst 1), 1, 0), (26, .iand, 1, 0), (27, (.ifCond .eq 12), 3, 0), (30, (.iload_n 3), 1, 0), (31, (.iload_n 1), 1, 0), (32, (.iload 4), 2, 0), (34, (.iload_n 2), 1, 0), (35, .isub, 1, 0), (36, .ishl, 1, 0), (37, .ixor, 1, 0), (38, (.istore_n 3), 1, 0), (39, (.iinc 4 (-1)), 3, 0), (42, (.goto (-31)), 3, 0), (45, (.iload_n 3), 1, 0), (46, .ireturn, 1, 0)]
def x_Script_checkNewName : List (Nat × Instr × Nat × Nat) := [(0, (.aload_n 0), 1, 0), (1, (.aload_n 0), 1, 0), (2, (.getfield 21), 3, 329), (5, (.iload_n 1), 1, 0), (6, .laload, 1, 0), (7, (.invokevirtual 125), 3, 527), (10, (.iconst (-1)), 1, 0), (11, (.if_icmp .eq 5), 3, 0), (14, (.iconst 3), 1, 0), (15, .ireturn, 1, 0), (16, (.aload_n 0), 1, 0), (17, (.getfield 76), 3, 334), (20, (.bipush 8), 2, 0), (22, (.if_icmp .ge 18), 3, 0), (25, (.aload_n 0), 1, 0), (26, (.getfield 28), 3, 336), (29, (.aload_n 0), 1, 0), (30, (.getfield 76), 3, 334), (33, (.aload_n 0), 1, 0), (34, (.getfield 21), 3, 329), (37, (.iload_n 1), 1, 0), (38, .laload, 1, 0), (39, .lastore, 1, 0), (40, (.iconst 0), 1, 0), (41, .ireturn, 1, 0)]
def x_Script_indexOf : List (Nat × Instr × Nat × Nat) := [(0, (.iconst 0), 1, 0), (1, (.istore_n 3), 1, 0), (2, (.iload_n 3), 1, 0), (3, (.aload_n 0), 1, 0), (4, (.getfield 76), 3, 334), (7, (.if_icmp .ge 28), 3, 0), (10, (.iload_n 3), 1, 0), (11, (.bipush 8), 2, 0), (13, (.if_icmp .ge 22), 3, 0), (16, (.aload_n 0), 1, 0), (17, (.getfield 28), 3, 336), (20, (.iload_n 3), 1, 0), (21, .laload, 1, 0), (22, (.lload_n 1), 1, 0), (23, .lcmp, 1, 0), (24, (.ifCond .ne 5), 3, 0), (27, (.iload_n 3), 1, 0), (28, .ireturn, 1, 0), (29, (.iinc 3 1), 3, 0), (32, (.goto (-30)), 3, 0), (35, (.iconst (-1)), 1, 0), (36, .ireturn, 1, 0)]
def x_Script_checkAtom : List (Nat × Instr × Nat × Nat) := [(0, (.aload_n 0), 1, 0), (1, (.getfield 9), 3, 323), (4, (.iload_n 1), 1, 0), (5, .iaload, 1, 0), (6, (.iconst 5), 1, 0), (7, (.if_icmp .ne 38), 3, 0), (10, (.aload_n 0), 1, 0), (11, (.getfield 21), 3, 329), (14, (.iload_n 1), 1, 0), (15, (.aload_n 0), 1, 0), (16, (.getfield 21), 3, 329), (19, (.iload_n 1), 1, 0), (20, .laload, 1, 0), (21, (.invokestatic 111), 3, 504), (24, .i2l, 1, 0), (25, .lastore, 1, 0), (26, (.aload_n 0), 1, 0), (27, (.getfield 21), 3, 329), (30, (.iload_n 1), 1, 0), (31, .laload, 1, 0), (32, (.ldc2_w 128), 3, 535), (35, .lcmp, 1, 0), (36, (.ifCond .ne 7), 3, 0), (39, (.iconst 5), 1, 0), (40, (.goto 4), 3, 0), (43, (.iconst 0), 1, 0), (44, .ireturn, 1, 0), (45, (.aload_n 0), 1, 0), (46, (.getfield 9), 3, 323), (49, (.iload_n 1), 1, 0), (50, .iaload, 1, 0), (51, (.iconst 4), 1, 0), (52, (.if_icmp .eq 5), 3, 0), (55, (.iconst 0), 1, 0), (56, .ireturn, 1, 0), (57, (.aload_n 0), 1, 0), (58, (.aload_n 0), 1, 0), (59, (.getfield 21), 3, 329), (62, (.iload_n 1), 1, 0), (63, .laload, 1, 0), (64, (.invokevirtual 125), 3, 527), (67, (.istore_n 2), 1, 0), (68, (.iload_n 2), 1, 0), (69, (.iconst (-1)), 1, 0), (70, (.if_icmp .ne 5), 3, 0), (73, (.iconst 4), 1, 0), (74, .ireturn, 1, 0), (75, (.aload_n 0), 1, 0), (76, (.getfield 31), 3, 337), (79, (.iload_n 2), 1, 0), (80, .iaload, 1, 0), (81, (.aload_n 0), 1, 0), (82, (.getfield 79), 3, 344), (85, (.invokestatic 130), 3, 536), (88, (.ifCond .ne 6), 3, 0), (91, (.bipush 6), 2, 0), (93, .ireturn, 1, 0), (94, (.aload_n 0), 1, 0), (95, (.getfield 31), 3, 337), (98, (.iload_n 2), 1, 0), (99, .iaload, 1, 0), (100, (.aload_n 0), 1, 0), (101, (.getfield 79), 3, 344), (104, (.if_icmp .eq 22), 3, 0), (107, (.aload_n 0), 1, 0), (108, (.getfield 76), 3, 334), (111, (.bipush 8), 2, 0), (113, (.if_icmp .ge 13), 3, 0), (116, (.aload_n 0), 1, 0), (117, (.getfield 37), 3, 342), (120, (.aload_n 0), 1, 0), (121, (.getfield 76), 3, 334), (124, (.iconst 1), 1, 0), (125, .bastore, 1, 0), (126, (.aload_n 0), 1, 0), (127, (.getfield 21), 3, 329), (130, (.iload_n 1), 1, 0), (131, (.iload_n 2), 1, 0), (132, .i2l, 1, 0), (133, .lastore, 1, 0), (134, (.iconst 0), 1, 0), (135, .ireturn, 1, 0)]
def x_FT_divides : List (Nat × Instr × Nat × Nat) := [(0, (.iload_n 0), 1, 0), (1, (.ifCond .le 13), 3, 0), (4, (.iload_n 1), 1, 0), (5, (.iload_n 0), 1, 0), (6, .irem, 1, 0), (7, (.ifCond .ne 7), 3, 0), (10, (.iconst 1), 1, 0), (11, (.goto 4), 3, 0), (14, (.iconst 0), 1, 0), (15, .ireturn, 1, 0)]
def x_Tower_copyModuli : List (Nat × Instr × Nat × Nat) := [(0, (.iconst 1), 1, 0), (1, (.istore_n 2), 1, 0), (2, (.iload_n 2), 1, 0), (3, (.bipush 12), 2, 0), (5, (.if_icmp .gt 27), 3, 0), (8, (.iload_n 2), 1, 0), (9, (.aload_n 1), 1, 0), (10, .arraylength, 1, 0), (11, (.if_icmp .ge 21), 3, 0), (14, (.aload_n 1), 1, 0), (15, (.iload_n 2), 1, 0), (16, (.aload_n 0), 1, 0), (17, (.getfield 11), 3, 241), (20, (.iload_n 2), 1, 0), (21, .aaload, 1, 0), (22, (.getfield 62), 3, 188), (25, .iastore, 1, 0), (26, (.iinc 2 1), 3, 0), (29, (.goto (-27)), 3, 0), (32, .return_, 1, 0)]
def x_Tower_takeModuli : List (Nat × Instr × Nat × Nat) := [(0, (.iconst 1), 1, 0), (1, (.istore_n 2), 1, 0), (2, (.iload_n 2), 1, 0), (3, (.bipush 12), 2, 0), (5, (.if_icmp .gt 38), 3, 0), (8, (.iload_n 2), 1, 0), (9, (.aload_n 1), 1, 0), (10, .arraylength, 1, 0), (11, (.if_icmp .ge 32), 3, 0), (14, (.aload_n 0), 1, 0), (15, (.getfield 11), 3, 241), (18, (.iload_n 2), 1, 0), (19, .aaload, 1, 0), (20, (.getfield 62), 3, 188), (23, (.aload_n 1), 1, 0), (24, (.iload_n 2), 1, 0), (25, .iaload, 1, 0), (26, (.if_icmp .eq 11), 3, 0), (29, (.aload_n 0), 1, 0), (30, (.iload_n 2), 1, 0), (31, (.aload_n 1), 1, 0), (32, (.iload_n 2), 1, 0), (33, .iaload, 1, 0), (34, (.invokevirtual 70), 3, 548), (37, (.iinc 2 1), 3, 0), (40, (.goto (-38)), 3, 0), (43, .return_, 1, 0)]
def x_Tower_setModulus : List (Nat × Instr × Nat × Nat) := [(0, (.iload_n 1), 1, 0), (1, (.invokestatic 58), 3, 552), (4, (.ifCond .ne 4), 3, 0), (7, .return_, 1, 0), (8, (.aload_n 0), 1, 0), (9, (.getfield 11), 3, 241), (12, (.iload_n 1), 1, 0), (13, .aaload, 1, 0), (14, (.iload_n 2), 1, 0), (15, (.putfield 62), 3, 188), (18, (.aload_n 0), 1, 0), (19, (.getfield 19), 3, 244), (22, (.iload_n 1), 1, 0), (23, .aaload, 1, 0), (24, (.invokevirtual 66), 3, 553), (27, (.aload_n 0), 1, 0), (28, (.getfield 25), 3, 246), (31, (.iload_n 1), 1, 0), (32, .aaload, 1, 0), (33, (.invokevirtual 69), 3, 557), (36, (.iload_n 1), 1, 0), (37, (.istore_n 3), 1, 0), (38, (.iload_n 3), 1, 0), (39, (.bipush 12), 2, 0), (41, (.if_icmp .gt 17), 3, 0), (44, (.aload_n 0), 1, 0), (45, (.getfield 41), 3, 250), (48, (.iload_n 3), 1, 0), (49, (.iconst 0), 1, 0), (50, .bastore, 1, 0), (51, (.iload_n 3), 1, 0), (52, (.iload_n 1), 1, 0), (53, .iadd, 1, 0), (54, (.istore_n 3), 1, 0), (55, (.goto (-17)), 3, 0), (58, .return_, 1, 0)]
def x_Cycle_forget : List (Nat × Instr × Nat × Nat) := [(0, (.aload_n 0), 1, 0), (1, (.iconst 0), 1, 0), (2, (.putfield 24), 3, 209), (5, (.aload_n 0), 1, 0), (6, (.iconst 0), 1, 0), (7, (.putfield 27), 3, 210), (10, .return_, 1, 0)]
def x_Space_forget : List (Nat × Instr × Nat × Nat) := [(0, (.aload_n 0), 1, 0), (1, (.iconst 0), 1, 0), (2, (.putfield 17), 3, 230), (5, (.aload_n 0), 1, 0), (6, (.iconst 0), 1, 0), (7, (.putfield 21), 3, 231), (10, .return_, 1, 0)]
def x_Worker_workOut : List (Nat × Instr × Nat × Nat) := [(0, (.aload_n 0), 1, 0), (1, (.iconst (-1)), 1, 0), (2, (.putfield 27), 3, 275), (5, (.iconst 0), 1, 0), (6, (.istore_n 3), 1, 0), (7, (.iload_n 3), 1, 0), (8, (.aload_n 1), 1, 0), (9, (.getfield 31), 3, 333), (12, (.if_icmp .ge 46), 3, 0), (15, (.iload_n 3), 1, 0), (16, (.bipush 8), 2, 0), (18, (.if_icmp .ge 40), 3, 0), (21, (.aload_n 1), 1, 0), (22, (.getfield 36), 3, 343), (25, (.iload_n 3), 1, 0), (26, .baload, 1, 0), (27, (.ifCond .eq 13), 3, 0), (30, (.aload_n 2), 1, 0), (31, (.aload_n 1), 1, 0), (32, (.getfield 40), 3, 338), (35, (.iload_n 3), 1, 0), (36, .iaload, 1, 0), (37, (.invokevirtual 43), 3, 565), (40, (.aload_n 0), 1, 0), (41, (.aload_n 1), 1, 0), (42, (.aload_n 2), 1, 0), (43, (.iload_n 3), 1, 0), (44, (.invokevirtual 49), 3, 615), (47, (.ifCond .ne 5), 3, 0), (50, (.iconst 0), 1, 0), (51, .ireturn, 1, 0), (52, (.iinc 3 1), 3, 0), (55, (.goto (-48)), 3, 0), (58, (.iconst 1), 1, 0), (59, .ireturn, 1, 0)]
def x_Tower_prepare : List (Nat × Instr × Nat × Nat) := [(0, (.iconst 1), 1, 0), (1, (.istore_n 2), 1, 0), (2, (.iload_n 2), 1, 0), (3, (.iload_n 1), 1, 0), (4, (.if_icmp .gt 37), 3, 0), (7, (.iload_n 2), 1, 0), (8, (.bipush 12), 2, 0), (10, (.if_icmp .gt 31), 3, 0), (13, (.iload_n 2), 1, 0), (14, (.iload_n 1), 1, 0), (15, (.invokestatic 77), 3, 569), (18, (.ifCond .eq 17), 3, 0), (21, (.aload_n 0), 1, 0), (22, (.getfield 41), 3, 250), (25, (.iload_n 2), 1, 0), (26, .baload, 1, 0), (27, (.ifCond .ne 8), 3, 0), (30, (.aload_n 0), 1, 0), (31, (.iload_n 2), 1, 0), (32, (.invokevirtual 81), 3, 570), (35, (.iinc 2 1), 3, 0), (38, (.goto (-36)), 3, 0), (41, .return_, 1, 0)]
def x_Tower_settle : List (Nat × Instr × Nat × Nat) := [(0, (.aload_n 0), 1, 0), (1, (.getfield 38), 3, 249), (4, (.iload_n 1), 1, 0), (5, .aaload, 1, 0), (6, (.iload_n 1), 1, 0), (7, (.aload_n 0), 1, 0), (8, (.getfield 11), 3, 241), (11, (.iload_n 1), 1, 0), (12, .aaload, 1, 0), (13, (.invokevirtual 84), 3, 574), (16, .iastore, 1, 0), (17, (.iload_n 1), 1, 0), (18, (.iconst 1), 1, 0), (19, .isub, 1, 0), (20, (.istore_n 2), 1, 0), (21, (.iload_n 2), 1, 0), (22, (.iconst 1), 1, 0), (23, (.if_icmp .lt 117), 3, 0), (26, (.iload_n 2), 1, 0), (27, (.iload_n 1), 1, 0), (28, (.invokestatic 77), 3, 569), (31, (.ifCond .ne 6), 3, 0), (34, (.goto 100), 3, 0), (37, (.iload_n 2), 1, 0), (38, (.iload_n 1), 1, 0), (39, (.invokestatic 88), 3, 579), (42, (.istore_n 3), 1, 0), (43, (.iload_n 3), 1, 0), (44, (.iconst (-1)), 1, 0), (45, (.if_icmp .eq 39), 3, 0), (48, (.aload_n 0), 1, 0), (49, (.getfield 38), 3, 249), (52, (.iload_n 1), 1, 0), (53, .aaload, 1, 0), (54, (.iload_n 2), 1, 0), (55, (.aload_n 0), 1, 0), (56, (.getfield 11), 3, 241), (59, (.iload_n 1), 1, 0), (60, .aaload, 1, 0), (61, (.aload_n 0), 1, 0), (62, (.getfield 38), 3, 249), (65, (.iload_n 3), 1, 0), (66, .aaload, 1, 0), (67, (.iload_n 2), 1, 0), (68, .iaload, 1, 0), (69, (.aload_n 0), 1, 0), (70, (.getfield 38), 3, 249), (73, (.iload_n 1), 1, 0), (74, .aaload, 1, 0), (75, (.iload_n 3), 1, 0), (76, .iaload, 1, 0), (77, (.invokevirtual 92), 3, 582), (80, .iastore, 1, 0), (81, (.goto 53), 3, 0), (84, (.iload_n 2), 1, 0), (85, (.iconst 1), 1, 0), (86, (.if_icmp .ne 25), 3, 0), (89, (.aload_n 0), 1, 0), (90, (.getfield 38), 3, 249), (93, (.iload_n 1), 1, 0), (94, .aaload, 1, 0), (95, (.iconst 1), 1, 0), (96, (.aload_n 0), 1, 0), (97, (.getfield 11), 3, 241), (100, (.iconst 1), 1, 0), (101, .aaload, 1, 0), (102, (.getfield 62), 3, 188), (105, (.iconst 1), 1, 0), (106, .iand, 1, 0), (107, .iastore, 1, 0), (108, (.goto 26), 3, 0), (111, (.aload_n 0), 1, 0), (112, (.getfield 38), 3, 249), (115, (.iload_n 1), 1, 0), (116, .aaload, 1, 0), (117, (.iload_n 2), 1, 0), (118, (.aload_n 0), 1, 0), (119, (.iload_n 2), 1, 0), (120, (.iload_n 1), 1, 0), (121, (.aload_n 0), 1, 0), (122, (.getfield 19), 3, 244), (125, (.iload_n 1), 1, 0), (126, .aaload, 1, 0), (127, (.invokevirtual 95), 3, 590), (130, (.invokevirtual 98), 3, 602), (133, .iastore, 1, 0), (134, (.iinc 2 (-1)), 3, 0), (137, (.goto (-116)), 3, 0), (140, (.aload_n 0), 1, 0), (141, (.getfield 41), 3, 250), (144, (.iload_n 1), 1, 0), (145, (.iconst 1), 1, 0), (146, .bastore, 1, 0), (147, .return_, 1, 0)]
def x_Field_x : List (Nat × Instr × Nat × Nat) := [(0, (.iconst 2), 1, 0), (1, (.aload_n 0), 1, 0), (2, (.getfield 22), 3, 187), (5, (.invokestatic 36), 3, 578), (8, .ireturn, 1, 0)]
def x_Tower_greatestBetween : List (Nat × Instr × Nat × Nat) := [(0, (.iload_n 1), 1, 0), (1, (.iconst 1), 1, 0), (2, .isub, 1, 0), (3, (.istore_n 2), 1, 0), (4, (.iload_n 2), 1, 0), (5, (.iload_n 0), 1, 0), (6, (.if_icmp .le 27), 3, 0), (9, (.iload_n 2), 1, 0), (10, (.iload_n 1), 1, 0), (11, (.invokestatic 77), 3, 569), (14, (.ifCond .eq 13), 3, 0), (17, (.iload_n 0), 1, 0), (18, (.iload_n 2), 1, 0), (19, (.invokestatic 77), 3, 569), (22, (.ifCond .eq 5), 3, 0), (25, (.iload_n 2), 1, 0), (26, .ireturn, 1, 0), (27, (.iinc 2 (-1)), 3, 0), (30, (.goto (-26)), 3, 0), (33, (.iconst (-1)), 1, 0), (34, .ireturn, 1, 0)]
def x_Field_valueAt : List (Nat × Instr × Nat × Nat) := [(0, (.iconst 0), 1, 0), (1, (.istore_n 3), 1, 0), (2, (.bipush 12), 2, 0), (4, (.istore 4), 2, 0), (6, (.iload 4), 2, 0), (8, (.ifCond .lt 30), 3, 0), (11, (.iload_n 1), 1, 0), (12, (.iload 4), 2, 0), (14, .ishr, 1, 0), (15, (.ifCond .eq 17), 3, 0), (18, (.aload_n 0), 1, 0), (19, (.iload_n 3), 1, 0), (20, (.iload_n 2), 1, 0), (21, (.invokevirtual 28), 3, 586), (24, (.iload_n 1), 1, 0), (25, (.iload 4), 2, 0), (27, .ishr, 1, 0), (28, (.iconst 1), 1, 0), (29, .iand, 1, 0), (30, .ixor, 1, 0), (31, (.istore_n 3), 1, 0), (32, (.iinc 4 (-1)), 3, 0), (35, (.goto (-29)), 3, 0), (38, (.iload_n 3), 1, 0), (39, .ireturn, 1, 0)]
def x_Field_times : List (Nat × Instr × Nat × Nat) := [(0, (.iconst 0), 1, 0), (1, (.istore_n 3), 1, 0), (2, (.iload_n 1), 1, 0), (3, (.istore 4), 2, 0), (5, (.iconst 0), 1, 0), (6, (.istore 5), 2, 0), (8, (.iload 5), 2, 0), (10, (.aload_n 0), 1, 0), (11, (.getfield 9), 3, 181), (14, (.if_icmp .ge 55), 3, 0), (17, (.iload_n 2), 1, 0), (18, (.iload 5), 2, 0), (20, .ishr, 1, 0), (21, (.ifCond .eq 48), 3, 0), (24, (.iload_n 2), 1, 0), (25, (.iload 5), 2, 0), (27, .ishr, 1, 0), (28, (.iconst 1), 1, 0), (29, .iand, 1, 0), (30, (.ifCond .eq 8), 3, 0), (33, (.iload_n 3), 1, 0), (34, (.iload 4), 2, 0), (36, .ixor, 1, 0), (37, (.istore_n 3), 1, 0), (38, (.iload 4), 2, 0), (40, (.iconst 1), 1, 0), (41, .ishl, 1, 0), (42, (.istore 4), 2, 0), (44, (.iload 4), 2, 0), (46, (.aload_n 0), 1, 0), (47, (.getfield 15), 3, 184), (50, .iand, 1, 0), (51, (.ifCond .eq 12), 3, 0), (54, (.iload 4), 2, 0), (56, (.aload_n 0), 1, 0), (57, (.getfield 22), 3, 187), (60, .ixor, 1, 0), (61, (.istore 4), 2, 0), (63, (.iinc 5 1), 3, 0), (66, (.goto (-58)), 3, 0), (69, (.iload_n 3), 1, 0), (70, .ireturn, 1, 0)]
def x_Cycle_leastPrimitive : List (Nat × Instr × Nat × Nat) := [(0, (.iconst 1), 1, 0), (1, (.istore_n 1), 1, 0), (2, (.iload_n 1), 1, 0), (3, (.aload_n 0), 1, 0), (4, (.getfield 21), 3, 208), (7, (.if_icmp .gt 33), 3, 0), (10, (.aload_n 0), 1, 0), (11, (.getfield 24), 3, 209), (14, (.ifCond .ne 26), 3, 0), (17, (.aload_n 0), 1, 0), (18, (.iload_n 1), 1, 0), (19, (.invokevirtual 35), 3, 594), (22, (.aload_n 0), 1, 0), (23, (.getfield 21), 3, 208), (26, (.if_icmp .ne 8), 3, 0), (29, (.aload_n 0), 1, 0), (30, (.iload_n 1), 1, 0), (31, (.putfield 24), 3, 209), (34, (.iinc 1 1), 3, 0), (37, (.goto (-35)), 3, 0), (40, (.aload_n 0), 1, 0), (41, (.getfield 24), 3, 209), (44, .ireturn, 1, 0)]
def x_Cycle_orderOf : List (Nat × Instr × Nat × Nat) := [(0, (.aload_n 0), 1, 0), (1, (.getfield 21), 3, 208), (4, (.istore_n 2), 1, 0), (5, (.aload_n 0), 1, 0), (6, (.getfield 21), 3, 208), (9, (.istore_n 3), 1, 0), (10, (.iconst 2), 1, 0), (11, (.istore 4), 2, 0), (13, (.iload 4), 2, 0), (15, (.iload_n 3), 1, 0), (16, (.if_icmp .gt 59), 3, 0), (19, (.iconst 0), 1, 0), (20, (.istore 5), 2, 0), (22, (.iload 5), 2, 0), (24, (.bipush 12), 2, 0), (26, (.if_icmp .ge 43), 3, 0), (29, (.iload_n 3), 1, 0), (30, (.iload 4), 2, 0), (32, .irem, 1, 0), (33, (.ifCond .ne 36), 3, 0), (36, (.iload_n 3), 1, 0), (37, (.iload 4), 2, 0), (39, .idiv, 1, 0), (40, (.istore_n 3), 1, 0), (41, (.aload_n 0), 1, 0), (42, (.getfield 9), 3, 207), (45, (.iload_n 1), 1, 0), (46, (.iload_n 2), 1, 0), (47, (.iload 4), 2, 0), (49, .idiv, 1, 0), (50, .i2l, 1, 0), (51, (.invokevirtual 31), 3, 598), (54, (.iconst 1), 1, 0), (55, (.if_icmp .ne 8), 3, 0), (58, (.iload_n 2), 1, 0), (59, (.iload 4), 2, 0), (61, .idiv, 1, 0), (62, (.istore_n 2), 1, 0), (63, (.iinc 5 1), 3, 0), (66, (.goto (-44)), 3, 0), (69, (.iinc 4 1), 3, 0), (72, (.goto (-59)), 3, 0), (75, (.iload_n 2), 1, 0), (76, .ireturn, 1, 0)]
def x_Field_toThe : List (Nat × Instr × Nat × Nat) := [(0, (.iconst 1), 1, 0), (1, (.istore 4), 2, 0), (3, (.iload_n 1), 1, 0), (4, (.istore 5), 2, 0), (6, (.iconst 0), 1, 0), (7, (.istore 6), 2, 0), (9, (.iload 6), 2, 0), (11, (.bipush 63), 2, 0), (13, (.if_icmp .ge 49), 3, 0), (16, (.lload_n 2), 1, 0), (17, (.iload 6), 2, 0), (19, .lshr, 1, 0), (20, (.lconst 0), 1, 0), (21, .lcmp, 1, 0), (22, (.ifCond .eq 40), 3, 0), (25, (.lload_n 2), 1, 0), (26, (.iload 6), 2, 0), (28, .lshr, 1, 0), (29, (.lconst 1), 1, 0), (30, .land, 1, 0), (31, (.lconst 0), 1, 0), (32, .lcmp, 1, 0), (33, (.ifCond .eq 13), 3, 0), (36, (.aload_n 0), 1, 0), (37, (.iload 4), 2, 0), (39, (.iload 5), 2, 0), (41, (.invokevirtual 28), 3, 586), (44, (.istore 4), 2, 0), (46, (.aload_n 0), 1, 0), (47, (.iload 5), 2, 0), (49, (.iload 5), 2, 0), (51, (.invokevirtual 28), 3, 586), (54, (.istore 5), 2, 0), (56, (.iinc 6 1), 3, 0), (59, (.goto (-50)), 3, 0), (62, (.iload 4), 2, 0), (64, .ireturn, 1, 0)]
def x_Tower_leastImage : List (Nat × Instr × Nat × Nat) := [(0, (.aload_n 0), 1, 0), (1, (.getfield 11), 3, 241), (4, (.iload_n 1), 1, 0), (5, .aaload, 1, 0), (6, (.getfield 102), 3, 186), (9, (.iconst 1), 1, 0), (10, .isub, 1, 0), (11, (.istore 4), 2, 0), (13, (.iload 4), 2, 0), (15, (.iconst 1), 1, 0), (16, (.if_icmp .ge 5), 3, 0), (19, (.iconst 0), 1, 0), (20, .ireturn, 1, 0), (21, (.aload_n 0), 1, 0), (22, (.getfield 11), 3, 241), (25, (.iload_n 2), 1, 0), (26, .aaload, 1, 0), (27, (.iload_n 3), 1, 0), (28, (.aload_n 0), 1, 0), (29, (.getfield 11), 3, 241), (32, (.iload_n 2), 1, 0), (33, .aaload, 1, 0), (34, (.getfield 102), 3, 186), (37, (.iconst 1), 1, 0), (38, .isub, 1, 0), (39, (.iload 4), 2, 0), (41, .idiv, 1, 0), (42, .i2l, 1, 0), (43, (.invokevirtual 105), 3, 606), (46, (.istore 5), 2, 0), (48, (.aload_n 0), 1, 0), (49, (.getfield 11), 3, 241), (52, (.iload_n 2), 1, 0), (53, .aaload, 1, 0), (54, (.getfield 102), 3, 186), (57, (.istore 6), 2, 0), (59, (.iconst 1), 1, 0), (60, (.istore 7), 2, 0), (62, (.iconst 0), 1, 0), (63, (.istore 8), 2, 0), (65, (.iload 8), 2, 0), (67, (.iload 4), 2, 0), (69, (.if_icmp .ge 69), 3, 0), (72, (.iload 7), 2, 0), (74, (.iload 6), 2, 0), (76, (.if_icmp .ge 41), 3, 0), (79, (.aload_n 0), 1, 0), (80, (.getfield 11), 3, 241), (83, (.iload_n 2), 1, 0), (84, .aaload, 1, 0), (85, (.aload_n 0), 1, 0), (86, (.getfield 11), 3, 241), (89, (.iload_n 1), 1, 0), (90, .aaload, 1, 0), (91, (.getfield 62), 3, 188), (94, (.iload 7), 2, 0), (96, (.invokevirtual 92), 3, 582), (99, (.ifCond .ne 18), 3, 0), (102, (.aload_n 0), 1, 0), (103, (.iload_n 1), 1, 0), (104, (.iload_n 2), 1, 0), (105, (.iload 7), 2, 0), (107, (.invokevirtual 109), 3, 607), (110, (.ifCond .eq 7), 3, 0), (113, (.iload 7), 2, 0), (115, (.istore 6), 2, 0), (117, (.aload_n 0), 1, 0), (118, (.getfield 11), 3, 241), (121, (.iload_n 2), 1, 0), (122, .aaload, 1, 0), (123, (.iload 7), 2, 0), (125, (.iload 5), 2, 0), (127, (.invokevirtual 113), 3, 614), (130, (.istore 7), 2, 0), (132, (.iinc 8 1), 3, 0), (135, (.goto (-70)), 3, 0), (138, (.iload 6), 2, 0), (140, .ireturn, 1, 0)]
def x_Tower_agrees : List (Nat × Instr × Nat × Nat) := [(0, (.iload_n 1), 1, 0), (1, (.iconst 1), 1, 0), (2, .iadd, 1, 0), (3, (.istore 4), 2, 0), (5, (.iload 4), 2, 0), (7, (.iload_n 2), 1, 0), (8, (.if_icmp .ge 84), 3, 0), (11, (.iload_n 1), 1, 0), (12, (.iload 4), 2, 0), (14, (.invokestatic 116), 3, 611), (17, (.istore 5), 2, 0), (19, (.iload 4), 2, 0), (21, (.iload_n 2), 1, 0), (22, (.invokestatic 77), 3, 569), (25, (.ifCond .eq 61), 3, 0), (28, (.iload 5), 2, 0), (30, (.iconst 1), 1, 0), (31, (.if_icmp .le 55), 3, 0), (34, (.aload_n 0), 1, 0), (35, (.getfield 11), 3, 241), (38, (.iload_n 2), 1, 0), (39, .aaload, 1, 0), (40, (.aload_n 0), 1, 0), (41, (.getfield 38), 3, 249), (44, (.iload_n 1), 1, 0), (45, .aaload, 1, 0), (46, (.iload 5), 2, 0), (48, .iaload, 1, 0), (49, (.iload_n 3), 1, 0), (50, (.invokevirtual 92), 3, 582), (53, (.aload_n 0), 1, 0), (54, (.getfield 11), 3, 241), (57, (.iload_n 2), 1, 0), (58, .aaload, 1, 0), (59, (.aload_n 0), 1, 0), (60, (.getfield 38), 3, 249), (63, (.iload 4), 2, 0), (65, .aaload, 1, 0), (66, (.iload 5), 2, 0), (68, .iaload, 1, 0), (69, (.aload_n 0), 1, 0), (70, (.getfield 38), 3, 249), (73, (.iload_n 2), 1, 0), (74, .aaload, 1, 0), (75, (.iload 4), 2, 0), (77, .iaload, 1, 0), (78, (.invokevirtual 92), 3, 582), (81, (.if_icmp .eq 5), 3, 0), (84, (.iconst 0), 1, 0), (85, .ireturn, 1, 0), (86, (.iinc 4 1), 3, 0), (89, (.goto (-84)), 3, 0), (92, (.iconst 1), 1, 0), (93, .ireturn, 1, 0)]
def x_FT_commonDivisor : List (Nat × Instr × Nat × Nat) := [(0, (.iload_n 0), 1, 0), (1, (.istore_n 2), 1, 0), (2, (.iload_n 1), 1, 0), (3, (.istore_n 3), 1, 0), (4, (.iconst 0), 1, 0), (5, (.istore 4), 2, 0), (7, (.iload 4), 2, 0), (9, (.bipush 64), 2, 0), (11, (.if_icmp .ge 23), 3, 0), (14, (.iload_n 3), 1, 0), (15, (.ifCond .le 19), 3, 0), (18, (.iload_n 2), 1, 0), (19, (.iload_n 3), 1, 0), (20, .irem, 1, 0), (21, (.istore 5), 2, 0), (23, (.iload_n 3), 1, 0), (24, (.istore_n 2), 1, 0), (25, (.iload 5), 2, 0), (27, (.istore_n 3), 1, 0), (28, (.iinc 4 1), 3, 0), (31, (.goto (-24)), 3, 0), (34, (.iload_n 2), 1, 0), (35, .ireturn, 1, 0)]
def x_Worker_workLine : List (Nat × Instr × Nat × Nat) := [(0, (.aload_n 1), 1, 0), (1, (.getfield 40), 3, 338), (4, (.iload_n 3), 1, 0), (5, .iaload, 1, 0), (6, (.istore 4), 2, 0), (8, (.iload 4), 2, 0), (10, (.invokestatic 53), 3, 619), (13, (.ifCond .ne 5), 3, 0), (16, (.iconst 1), 1, 0), (17, .ireturn, 1, 0), (18, (.aload_n 2), 1, 0), (19, (.getfield 57), 3, 242), (22, (.iload 4), 2, 0), (24, .aaload, 1, 0), (25, (.astore 5), 2, 0), (27, (.iconst 0), 1, 0), (28, (.istore 6), 2, 0), (30, (.aload_n 0), 1, 0), (31, (.iconst 0), 1, 0), (32, (.invokevirtual 61), 3, 620), (35, (.aload_n 1), 1, 0), (36, (.getfield 64), 3, 341), (39, (.iload_n 3), 1, 0), (40, .iaload, 1, 0), (41, (.istore 7), 2, 0), (43, (.iload 7), 2, 0), (45, (.aload_n 1), 1, 0), (46, (.getfield 67), 3, 322), (49, (.if_icmp .ge 173), 3, 0), (52, (.aload_n 1), 1, 0), (53, (.getfield 70), 3, 324), (56, (.iload 7), 2, 0), (58, .iaload, 1, 0), (59, (.istore 8), 2, 0), (61, (.iload 8), 2, 0), (63, (.bipush 11), 2, 0), (65, (.if_icmp .ne 22), 3, 0), (68, (.iload 6), 2, 0), (70, (.bipush 8), 2, 0), (72, (.if_icmp .ge 15), 3, 0), (75, (.iinc 6 1), 3, 0), (78, (.aload_n 0), 1, 0), (79, (.iload 6), 2, 0), (81, (.invokevirtual 61), 3, 620), (84, (.goto 132), 3, 0), (87, (.aload_n 1), 1, 0), (88, (.getfield 73), 3, 326), (91, (.iload 7), 2, 0), (93, .iaload, 1, 0), (94, (.bipush 7), 2, 0), (96, (.if_icmp .ne 20), 3, 0), (99, (.aload_n 0), 1, 0), (100, (.aload_n 0), 1, 0), (101, (.aload_n 1), 1, 0), (102, (.aload_n 2), 1, 0), (103, (.iload 4), 2, 0), (105, (.iload 7), 2, 0), (107, (.invokevirtual 76), 3, 624), (110, (.putfield 80), 3, 281), (113, (.goto 103), 3, 0), (116, (.aload_n 1), 1, 0), (117, (.getfield 73), 3, 326), (120, (.iload 7), 2, 0), (122, .iaload, 1, 0), (123, (.bipush 9), 2, 0), (125, (.if_icmp .ne 26), 3, 0), (128, (.aload_n 0), 1, 0), (129, (.aload 5), 2, 0), (131, (.aload_n 0), 1, 0), (132, (.getfield 80), 3, 281), (135, (.aload_n 1), 1, 0), (136, (.getfield 83), 3, 330), (139, (.iload 7), 2, 0), (141, .laload, 1, 0), (142, (.invokevirtual 87), 3, 634), (145, (.putfield 80), 3, 281), (148, (.goto 68), 3, 0), (151, (.iload 8), 2, 0), (153, (.bipush 10), 2, 0), (155, (.if_icmp .eq 61), 3, 0), (158, (.aload_n 0), 1, 0), (159, (.aload 5), 2, 0), (161, (.iload 6), 2, 0), (163, (.invokevirtual 93), 3, 635), (166, (.ifCond .ne 5), 3, 0), (169, (.iconst 0), 1, 0), (170, .ireturn, 1, 0), (171, (.iload 8), 2, 0), (173, (.bipush 6), 2, 0), (175, (.if_icmp .ne 24), 3, 0), (178, (.aload_n 0), 1, 0), (179, (.getfield 9), 3, 273), (182, (.iload_n 3), 1, 0), (183, (.aload_n 0), 1, 0), (184, (.getfield 15), 3, 277), (187, (.iconst 0), 1, 0), (188, .iaload, 1, 0), (189, (.aload_n 0), 1, 0), (190, (.getfield 18), 3, 278), (193, (.iconst 0), 1, 0), (194, .iaload, 1, 0), (195, .ixor, 1, 0), (196, .iastore, 1, 0), (197, (.iconst 1), 1, 0), (198, .ireturn, 1, 0), (199, (.aload_n 0), 1, 0), (200, (.iload 8), 2, 0), (202, (.iload 6), 2, 0), (204, (.aload_n 1), 1, 0), (205, (.getfield 97), 3, 328), (208, (.iload 7), 2, 0), (210, .iaload, 1, 0), (211, (.invokevirtual 100), 3, 645), (214, (.istore 6), 2, 0), (216, (.iinc 7 1), 3, 0), (219, (.goto (-176)), 3, 0), (222, (.iconst 1), 1, 0), (223, .ireturn, 1, 0)]
def x_Worker_begin : List (Nat × Instr × Nat × Nat) := [(0, (.aload_n 0), 1, 0), (1, (.getfield 15), 3, 277), (4, (.iload_n 1), 1, 0), (5, (.iconst 0), 1, 0), (6, .iastore, 1, 0), (7, (.aload_n 0), 1, 0), (8, (.getfield 18), 3, 278), (11, (.iload_n 1), 1, 0), (12, (.iconst 0), 1, 0), (13, .iastore, 1, 0), (14, (.aload_n 0), 1, 0), (15, (.getfield 21), 3, 279), (18, (.iload_n 1), 1, 0), (19, (.bipush 7), 2, 0), (21, .iastore, 1, 0), (22, .return_, 1, 0)]
def x_Worker_atomAt : List (Nat × Instr × Nat × Nat) := [(0, (.aload_n 1), 1, 0), (1, (.getfield 83), 3, 330), (4, (.iload 4), 2, 0), (6, .laload, 1, 0), (7, .l2i, 1, 0), (8, (.istore 5), 2, 0), (10, (.aload_n 1), 1, 0), (11, (.getfield 70), 3, 324), (14, (.iload 4), 2, 0), (16, .iaload, 1, 0), (17, (.lookupswitch 52 #[(3, 27), (5, 37)]), 27, 0), (44, (.aload_n 2), 1, 0), (45, (.getfield 57), 3, 242), (48, (.iload_n 3), 1, 0), (49, .aaload, 1, 0), (50, (.invokevirtual 104), 3, 628), (53, .ireturn, 1, 0), (54, (.iload 5), 2, 0), (56, (.aload_n 2), 1, 0), (57, (.getfield 57), 3, 242), (60, (.iload_n 3), 1, 0), (61, .aaload, 1, 0), (62, (.getfield 108), 3, 189), (65, (.invokestatic 111), 3, 629), (68, .ireturn, 1, 0), (69, (.iload 5), 2, 0), (71, (.ifCond .lt 10), 3, 0), (74, (.iload 5), 2, 0), (76, (.bipush 8), 2, 0), (78, (.if_icmp .lt 5), 3, 0), (81, (.iconst 0), 1, 0), (82, .ireturn, 1, 0), (83, (.aload_n 1), 1, 0), (84, (.getfield 40), 3, 338), (87, (.iload 5), 2, 0), (89, .iaload, 1, 0), (90, (.istore 6), 2, 0), (92, (.iload 6), 2, 0), (94, (.iload_n 3), 1, 0), (95, (.if_icmp .ne 13), 3, 0), (98, (.aload_n 0), 1, 0), (99, (.getfield 9), 3, 273), (102, (.iload 5), 2, 0), (104, .iaload, 1, 0), (105, (.goto 17), 3, 0), (108, (.aload_n 2), 1, 0), (109, (.iload 6), 2, 0), (111, (.iload_n 3), 1, 0), (112, (.aload_n 0), 1, 0), (113, (.getfield 9), 3, 273), (116, (.iload 5), 2, 0), (118, .iaload, 1, 0), (119, (.invokevirtual 117), 3, 630), (122, .ireturn, 1, 0)]
def x_Tower_raised : List (Nat × Instr × Nat × Nat) := [(0, (.aload_n 0), 1, 0), (1, (.getfield 11), 3, 241), (4, (.iload_n 2), 1, 0), (5, .aaload, 1, 0), (6, (.iload_n 3), 1, 0), (7, (.aload_n 0), 1, 0), (8, (.getfield 38), 3, 249), (11, (.iload_n 2), 1, 0), (12, .aaload, 1, 0), (13, (.iload_n 1), 1, 0), (14, .iaload, 1, 0), (15, (.invokevirtual 92), 3, 582), (18, .ireturn, 1, 0)]
def x_Worker_join : List (Nat × Instr × Nat × Nat) := [(0, (.aload_n 0), 1, 0), (1, (.getfield 21), 3, 279), (4, (.iload_n 2), 1, 0), (5, .iaload, 1, 0), (6, (.bipush 8), 2, 0), (8, (.if_icmp .ne 26), 3, 0), (11, (.aload_n 0), 1, 0), (12, (.getfield 18), 3, 278), (15, (.iload_n 2), 1, 0), (16, (.aload_n 1), 1, 0), (17, (.aload_n 0), 1, 0), (18, (.getfield 18), 3, 278), (21, (.iload_n 2), 1, 0), (22, .iaload, 1, 0), (23, (.aload_n 0), 1, 0), (24, (.getfield 80), 3, 281), (27, (.invokevirtual 120), 3, 639), (30, .iastore, 1, 0), (31, (.goto 73), 3, 0), (34, (.aload_n 0), 1, 0), (35, (.getfield 21), 3, 279), (38, (.iload_n 2), 1, 0), (39, .iaload, 1, 0), (40, (.bipush 9), 2, 0), (42, (.if_icmp .eq 16), 3, 0), (45, (.aload_n 0), 1, 0), (46, (.getfield 18), 3, 278), (49, (.iload_n 2), 1, 0), (50, (.aload_n 0), 1, 0), (51, (.getfield 80), 3, 281), (54, .iastore, 1, 0), (55, (.goto 49), 3, 0), (58, (.aload_n 0), 1, 0), (59, (.getfield 80), 3, 281), (62, (.ifCond .eq 30), 3, 0), (65, (.aload_n 0), 1, 0), (66, (.getfield 18), 3, 278), (69, (.iload_n 2), 1, 0), (70, (.aload_n 1), 1, 0), (71, (.aload_n 0), 1, 0), (72, (.getfield 18), 3, 278), (75, (.iload_n 2), 1, 0), (76, .iaload, 1, 0), (77, (.aload_n 1), 1, 0), (78, (.aload_n 0), 1, 0), (79, (.getfield 80), 3, 281), (82, (.invokevirtual 123), 3, 640), (85, (.invokevirtual 120), 3, 639), (88, .iastore, 1, 0), (89, (.goto 15), 3, 0), (92, (.aload_n 0), 1, 0), (93, (.aload_n 0), 1, 0), (94, (.getfield 24), 3, 280), (97, (.iload_n 2), 1, 0), (98, .iaload, 1, 0), (99, (.putfield 27), 3, 275), (102, (.iconst 0), 1, 0), (103, .ireturn, 1, 0), (104, (.iconst 1), 1, 0), (105, .ireturn, 1, 0)]
def x_Field_inverse : List (Nat × Instr × Nat × Nat) := [(0, (.aload_n 0), 1, 0), (1, (.iload_n 1), 1, 0), (2, (.aload_n 0), 1, 0), (3, (.getfield 15), 3, 184), (6, (.iconst 2), 1, 0), (7, .isub, 1, 0), (8, .i2l, 1, 0), (9, (.invokevirtual 32), 3, 644), (12, .ireturn, 1, 0)]
def x_Worker_goOn : List (Nat × Instr × Nat × Nat) := [(0, (.iload_n 1), 1, 0), (1, (.bipush 12), 2, 0), (3, (.if_icmp .ne 28), 3, 0), (6, (.aload_n 0), 1, 0), (7, (.aload_n 0), 1, 0), (8, (.getfield 15), 3, 277), (11, (.iload_n 2), 1, 0), (12, .iaload, 1, 0), (13, (.aload_n 0), 1, 0), (14, (.getfield 18), 3, 278), (17, (.iload_n 2), 1, 0), (18, .iaload, 1, 0), (19, .ixor, 1, 0), (20, (.putfield 80), 3, 281), (23, (.iconst 0), 1, 0), (24, (.iload_n 2), 1, 0), (25, (.iconst 1), 1, 0), (26, .isub, 1, 0), (27, (.invokestatic 127), 3, 649), (30, .ireturn, 1, 0), (31, (.iload_n 1), 1, 0), (32, (.bipush 7), 2, 0), (34, (.if_icmp .ne 18), 3, 0), (37, (.aload_n 0), 1, 0), (38, (.getfield 15), 3, 277), (41, (.iload_n 2), 1, 0), (42, .dup2, 1, 0), (43, .iaload, 1, 0), (44, (.aload_n 0), 1, 0), (45, (.getfield 18), 3, 278), (48, (.iload_n 2), 1, 0), (49, .iaload, 1, 0), (50, .ixor, 1, 0), (51, .iastore, 1, 0), (52, (.aload_n 0), 1, 0), (53, (.getfield 21), 3, 279), (56, (.iload_n 2), 1, 0), (57, (.iload_n 1), 1, 0), (58, .iastore, 1, 0), (59, (.aload_n 0), 1, 0), (60, (.getfield 24), 3, 280), (63, (.iload_n 2), 1, 0), (64, (.iload_n 3), 1, 0), (65, .iastore, 1, 0), (66, (.iload_n 2), 1, 0), (67, .ireturn, 1, 0)]
def x_Math_max : List (Nat × Instr × Nat × Nat) := [(0, (.iload_n 0), 1, 0), (1, (.iload_n 1), 1, 0), (2, (.if_icmp .lt 7), 3, 0), (5, (.iload_n 0), 1, 0), (6, (.goto 4), 3, 0), (9, (.iload_n 1), 1, 0), (10, .ireturn, 1, 0)]
def x_FT_keepNameValues : List (Nat × Instr × Nat × Nat) := [(0, (.aload_n 0), 1, 0), (1, (.getfield 26), 3, 377), (4, (.getfield 142), 3, 274), (7, (.iconst 0), 1, 0), (8, (.aload_n 0), 1, 0), (9, (.getfield 37), 3, 379), (12, (.iconst 0), 1, 0), (13, (.bipush 8), 2, 0), (15, (.invokestatic 145), 3, 656), (18, .return_, 1, 0)]
def x_FT_emptySlots : List (Nat × Instr × Nat × Nat) := [(0, (.iconst 0), 1, 0), (1, (.istore_n 1), 1, 0), (2, (.iload_n 1), 1, 0), (3, (.iconst 3), 1, 0), (4, (.if_icmp .ge 16), 3, 0), (7, (.aload_n 0), 1, 0), (8, (.getfield 49), 3, 382), (11, (.iload_n 1), 1, 0), (12, (.iconst 0), 1, 0), (13, .bastore, 1, 0), (14, (.iinc 1 1), 3, 0), (17, (.goto (-15)), 3, 0), (20, .return_, 1, 0)]
def x_FT_place : List (Nat × Instr × Nat × Nat) := [(0, (.aload_n 0), 1, 0), (1, (.getfield 66), 3, 386), (4, .ireturn, 1, 0)]
def x_FT_change : List (Nat × Instr × Nat × Nat) := [(0, (.iload_n 1), 1, 0), (1, (.invokestatic 110), 3, 669), (4, (.ifCond .eq 11), 3, 0), (7, (.iload_n 2), 1, 0), (8, (.iload_n 1), 1, 0), (9, (.invokestatic 114), 3, 670), (12, (.ifCond .ne 5), 3, 0), (15, (.iconst 0), 1, 0), (16, .ireturn, 1, 0), (17, (.aload_n 0), 1, 0), (18, (.getfield 19), 3, 376), (21, (.getfield 120), 3, 243), (24, (.iload_n 1), 1, 0), (25, .aaload, 1, 0), (26, (.getfield 124), 3, 190), (29, (.istore_n 3), 1, 0), (30, (.iload_n 3), 1, 0), (31, (.iload_n 2), 1, 0), (32, (.if_icmp .ne 5), 3, 0), (35, (.iconst 0), 1, 0), (36, .ireturn, 1, 0), (37, (.aload_n 0), 1, 0), (38, (.getfield 19), 3, 376), (41, (.iload_n 1), 1, 0), (42, (.iload_n 2), 1, 0), (43, (.invokevirtual 129), 3, 671), (46, (.aload_n 0), 1, 0), (47, (.getfield 26), 3, 377), (50, (.aload_n 0), 1, 0), (51, (.getfield 59), 3, 384), (54, (.aload_n 0), 1, 0), (55, (.getfield 19), 3, 376), (58, (.invokevirtual 96), 3, 561), (61, (.ifCond .ne 14), 3, 0), (64, (.aload_n 0), 1, 0), (65, (.getfield 19), 3, 376), (68, (.iload_n 1), 1, 0), (69, (.iload_n 3), 1, 0), (70, (.invokevirtual 129), 3, 671), (73, (.iconst 0), 1, 0), (74, .ireturn, 1, 0), (75, (.aload_n 0), 1, 0), (76, (.invokevirtual 103), 3, 652), (79, (.aload_n 0), 1, 0), (80, (.getfield 33), 3, 378), (83, (.iload_n 1), 1, 0), (84, (.iload_n 3), 1, 0), (85, (.invokevirtual 133), 3, 672), (88, (.iconst 1), 1, 0), (89, .ireturn, 1, 0)]
def x_Hist_push : List (Nat × Instr × Nat × Nat) := [(0, (.aload_n 0), 1, 0), (1, (.getfield 18), 3, 305), (4, (.bipush 30), 2, 0), (6, (.if_icmp .lt 39), 3, 0), (9, (.aload_n 0), 1, 0), (10, (.getfield 9), 3, 303), (13, (.iconst 1), 1, 0), (14, (.aload_n 0), 1, 0), (15, (.getfield 9), 3, 303), (18, (.iconst 0), 1, 0), (19, (.bipush 29), 2, 0), (21, (.invokestatic 22), 3, 676), (24, (.aload_n 0), 1, 0), (25, (.getfield 15), 3, 304), (28, (.iconst 1), 1, 0), (29, (.aload_n 0), 1, 0), (30, (.getfield 15), 3, 304), (33, (.iconst 0), 1, 0), (34, (.bipush 29), 2, 0), (36, (.invokestatic 22), 3, 676), (39, (.aload_n 0), 1, 0), (40, (.bipush 29), 2, 0), (42, (.putfield 18), 3, 305), (45, (.aload_n 0), 1, 0), (46, (.getfield 9), 3, 303), (49, (.aload_n 0), 1, 0), (50, (.getfield 18), 3, 305), (53, (.iload_n 1), 1, 0), (54, .iastore, 1, 0), (55, (.aload_n 0), 1, 0), (56, (.getfield 15), 3, 304), (59, (.aload_n 0), 1, 0), (60, (.getfield 18), 3, 305), (63, (.iload_n 2), 1, 0), (64, .iastore, 1, 0), (65, (.aload_n 0), 1, 0), (66, .dup, 1, 0), (67, (.getfield 18), 3, 305), (70, (.iconst 1), 1, 0), (71, .iadd, 1, 0), (72, (.putfield 18), 3, 305), (75, .return_, 1, 0)]
def x_FT_undo : List (Nat × Instr × Nat × Nat) := [(0, (.aload_n 0), 1, 0), (1, (.getfield 33), 3, 378), (4, (.getfield 106), 3, 306), (7, (.ifCond .gt 5), 3, 0), (10, (.iconst 0), 1, 0), (11, .ireturn, 1, 0), (12, (.aload_n 0), 1, 0), (13, (.getfield 19), 3, 376), (16, (.aload_n 0), 1, 0), (17, (.getfield 33), 3, 378), (20, (.invokevirtual 136), 3, 681), (23, (.aload_n 0), 1, 0), (24, (.getfield 33), 3, 378), (27, (.invokevirtual 139), 3, 685), (30, (.invokevirtual 129), 3, 671), (33, (.aload_n 0), 1, 0), (34, (.getfield 33), 3, 378), (37, .dup, 1, 0), (38, (.getfield 106), 3, 306), (41, (.iconst 1), 1, 0), (42, .isub, 1, 0), (43, (.putfield 106), 3, 306), (46, (.aload_n 0), 1, 0), (47, (.getfield 26), 3, 377), (50, (.aload_n 0), 1, 0), (51, (.getfield 59), 3, 384), (54, (.aload_n 0), 1, 0), (55, (.getfield 19), 3, 376), (58, (.invokevirtual 96), 3, 561), (61, .pop, 1, 0), (62, (.aload_n 0), 1, 0), (63, (.invokevirtual 103), 3, 652), (66, (.iconst 1), 1, 0), (67, .ireturn, 1, 0)]
def x_Hist_lastField : List (Nat × Instr × Nat × Nat) := [(0, (.aload_n 0), 1, 0), (1, (.getfield 18), 3, 305), (4, (.ifCond .le 17), 3, 0), (7, (.aload_n 0), 1, 0), (8, (.getfield 9), 3, 303), (11, (.aload_n 0), 1, 0), (12, (.getfield 18), 3, 305), (15, (.iconst 1), 1, 0), (16, .isub, 1, 0), (17, .iaload, 1, 0), (18, (.goto 4), 3, 0), (21, (.iconst (-1)), 1, 0), (22, .ireturn, 1, 0)]
def x_Hist_lastModulus : List (Nat × Instr × Nat × Nat) := [(0, (.aload_n 0), 1, 0), (1, (.getfield 18), 3, 305), (4, (.ifCond .le 17), 3, 0), (7, (.aload_n 0), 1, 0), (8, (.getfield 15), 3, 304), (11, (.aload_n 0), 1, 0), (12, (.getfield 18), 3, 305), (15, (.iconst 1), 1, 0), (16, .isub, 1, 0), (17, .iaload, 1, 0), (18, (.goto 4), 3, 0), (21, (.iconst (-1)), 1, 0), (22, .ireturn, 1, 0)]
def x_FT_hold : List (Nat × Instr × Nat × Nat) := [(0, (.iload_n 1), 1, 0), (1, (.ifCond .lt 8), 3, 0), (4, (.iload_n 1), 1, 0), (5, (.iconst 3), 1, 0), (6, (.if_icmp .lt 5), 3, 0), (9, (.iconst 0), 1, 0), (10, .ireturn, 1, 0), (11, (.aload_n 0), 1, 0), (12, (.getfield 19), 3, 376), (15, (.aload_n 0), 1, 0), (16, (.getfield 46), 3, 381), (19, (.iload_n 1), 1, 0), (20, .aaload, 1, 0), (21, (.invokevirtual 86), 3, 540), (24, (.aload_n 0), 1, 0), (25, (.getfield 49), 3, 382), (28, (.iload_n 1), 1, 0), (29, (.iconst 1), 1, 0), (30, .bastore, 1, 0), (31, (.iconst 1), 1, 0), (32, .ireturn, 1, 0)]
def x_FT_restore : List (Nat × Instr × Nat × Nat) := [(0, (.iload_n 1), 1, 0), (1, (.ifCond .lt 17), 3, 0), (4, (.iload_n 1), 1, 0), (5, (.iconst 3), 1, 0), (6, (.if_icmp .ge 12), 3, 0), (9, (.aload_n 0), 1, 0), (10, (.getfield 49), 3, 382), (13, (.iload_n 1), 1, 0), (14, .baload, 1, 0), (15, (.ifCond .ne 5), 3, 0), (18, (.iconst 0), 1, 0), (19, .ireturn, 1, 0), (20, (.aload_n 0), 1, 0), (21, (.getfield 19), 3, 376), (24, (.aload_n 0), 1, 0), (25, (.getfield 46), 3, 381), (28, (.iload_n 1), 1, 0), (29, .aaload, 1, 0), (30, (.invokevirtual 93), 3, 544), (33, (.aload_n 0), 1, 0), (34, (.getfield 26), 3, 377), (37, (.aload_n 0), 1, 0), (38, (.getfield 59), 3, 384), (41, (.aload_n 0), 1, 0), (42, (.getfield 19), 3, 376), (45, (.invokevirtual 96), 3, 561), (48, .pop, 1, 0), (49, (.aload_n 0), 1, 0), (50, (.invokevirtual 103), 3, 652), (53, (.aload_n 0), 1, 0), (54, (.getfield 33), 3, 378), (57, (.iconst 0), 1, 0), (58, (.putfield 106), 3, 306), (61, (.iconst 1), 1, 0), (62, .ireturn, 1, 0)]
def x_FT_modulus : List (Nat × Instr × Nat × Nat) := [(0, (.iload_n 1), 1, 0), (1, (.invokestatic 110), 3, 669), (4, (.ifCond .eq 18), 3, 0), (7, (.aload_n 0), 1, 0), (8, (.getfield 19), 3, 376), (11, (.getfield 120), 3, 243), (14, (.iload_n 1), 1, 0), (15, .aaload, 1, 0), (16, (.getfield 124), 3, 190), (19, (.goto 4), 3, 0), (22, (.iconst (-1)), 1, 0), (23, .ireturn, 1, 0)]
def x_FT_whole : List (Nat × Instr × Nat × Nat) := [(0, (.iload_n 1), 1, 0), (1, (.invokestatic 151), 3, 705), (4, (.ifCond .ne 5), 3, 0), (7, (.iconst (-1)), 1, 0), (8, .ireturn, 1, 0), (9, (.iload_n 1), 1, 0), (10, (.invokestatic 154), 3, 708), (13, (.ifCond .eq 7), 3, 0), (16, (.iconst 1), 1, 0), (17, (.goto 4), 3, 0), (20, (.iconst 0), 1, 0), (21, .ireturn, 1, 0)]
def x_FT_hasDegree : List (Nat × Instr × Nat × Nat) := [(0, (.iload_n 0), 1, 0), (1, (.iconst 2), 1, 0), (2, (.if_icmp .lt 14), 3, 0), (5, (.iload_n 0), 1, 0), (6, (.sipush 8191), 3, 0), (9, (.if_icmp .gt 7), 3, 0), (12, (.iconst 1), 1, 0), (13, (.goto 4), 3, 0), (16, (.iconst 0), 1, 0), (17, .ireturn, 1, 0)]
def x_FT_next : List (Nat × Instr × Nat × Nat) := [(0, (.iload_n 1), 1, 0), (1, (.ifCond .lt 10), 3, 0), (4, (.iload_n 1), 1, 0), (5, (.sipush 8191), 3, 0), (8, (.if_icmp .lt 5), 3, 0), (11, (.iconst (-1)), 1, 0), (12, .ireturn, 1, 0), (13, (.iconst 2), 1, 0), (14, (.iload_n 1), 1, 0), (15, (.iconst 1), 1, 0), (16, .iadd, 1, 0), (17, (.invokestatic 157), 3, 713), (20, (.istore_n 2), 1, 0), (21, (.iload_n 2), 1, 0), (22, (.sipush 8191), 3, 0), (25, (.if_icmp .gt 18), 3, 0), (28, (.iload_n 2), 1, 0), (29, (.invokestatic 154), 3, 708), (32, (.ifCond .eq 5), 3, 0), (35, (.iload_n 2), 1, 0), (36, .ireturn, 1, 0), (37, (.iinc 2 1), 3, 0), (40, (.goto (-19)), 3, 0), (43, (.iconst (-1)), 1, 0), (44, .ireturn, 1, 0)]
def x_FT_wholes : List (Nat × Instr × Nat × Nat) := [(0, (.iload_n 1), 1, 0), (1, (.invokestatic 110), 3, 669), (4, (.ifCond .eq 11), 3, 0), (7, (.getstatic 163), 3, 718), (10, (.iload_n 1), 1, 0), (11, .iaload, 1, 0), (12, (.goto 4), 3, 0), (15, (.iconst (-1)), 1, 0), (16, .ireturn, 1, 0)]
def x_FT_value : List (Nat × Instr × Nat × Nat) := [(0, (.iload_n 1), 1, 0), (1, (.iload_n 3), 1, 0), (2, (.invokestatic 166), 3, 724), (5, (.ifCond .eq 14), 3, 0), (8, (.iload_n 2), 1, 0), (9, (.ifCond .lt 10), 3, 0), (12, (.iload_n 2), 1, 0), (13, (.sipush 8191), 3, 0), (16, (.if_icmp .le 5), 3, 0), (19, (.iconst (-1)), 1, 0), (20, .ireturn, 1, 0), (21, (.aload_n 0), 1, 0), (22, (.getfield 19), 3, 376), (25, (.getfield 120), 3, 243), (28, (.iload_n 1), 1, 0), (29, .aaload, 1, 0), (30, (.iload_n 2), 1, 0), (31, (.iload_n 3), 1, 0), (32, (.invokevirtual 169), 3, 727), (35, .ireturn, 1, 0)]
def x_FT_isElement : List (Nat × Instr × Nat × Nat) := [(0, (.iload_n 0), 1, 0), (1, (.invokestatic 110), 3, 669), (4, (.ifCond .eq 18), 3, 0), (7, (.iload_n 1), 1, 0), (8, (.ifCond .lt 14), 3, 0), (11, (.iload_n 1), 1, 0), (12, (.iconst 1), 1, 0), (13, (.iload_n 0), 1, 0), (14, .ishl, 1, 0), (15, (.if_icmp .ge 7), 3, 0), (18, (.iconst 1), 1, 0), (19, (.goto 4), 3, 0), (22, (.iconst 0), 1, 0), (23, .ireturn, 1, 0)]
def x_FT_factor : List (Nat × Instr × Nat × Nat) := [(0, (.iload_n 1), 1, 0), (1, (.invokestatic 151), 3, 705), (4, (.ifCond .eq 8), 3, 0), (7, (.iload_n 2), 1, 0), (8, (.iconst (-1)), 1, 0), (9, (.if_icmp .ge 5), 3, 0), (12, (.iconst (-1)), 1, 0), (13, .ireturn, 1, 0), (14, (.iload_n 1), 1, 0), (15, (.iload_n 2), 1, 0), (16, (.invokestatic 172), 3, 732), (19, .ireturn, 1, 0)]
def x_Poly_factorAt : List (Nat × Instr × Nat × Nat) := [(0, (.iload_n 0), 1, 0), (1, (.istore_n 2), 1, 0), (2, (.iconst 0), 1, 0), (3, (.istore_n 3), 1, 0), (4, (.iconst 2), 1, 0), (5, (.istore 4), 2, 0), (7, (.iconst 0), 1, 0), (8, (.istore 5), 2, 0), (10, (.iload 5), 2, 0), (12, (.sipush 8191), 3, 0), (15, (.if_icmp .gt 56), 3, 0), (18, (.iconst 2), 1, 0), (19, (.iload 4), 2, 0), (21, (.invokestatic 9), 3, 517), (24, .imul, 1, 0), (25, (.iload_n 2), 1, 0), (26, (.invokestatic 9), 3, 517), (29, (.if_icmp .gt 42), 3, 0), (32, (.iload_n 2), 1, 0), (33, (.iload 4), 2, 0), (35, (.invokestatic 15), 3, 520), (38, (.ifCond .eq 9), 3, 0), (41, (.iinc 4 1), 3, 0), (44, (.goto 21), 3, 0), (47, (.iload_n 3), 1, 0), (48, (.iload_n 1), 1, 0), (49, (.if_icmp .ne 6), 3, 0), (52, (.iload 4), 2, 0), (54, .ireturn, 1, 0), (55, (.iinc 3 1), 3, 0), (58, (.iload_n 2), 1, 0), (59, (.iload 4), 2, 0), (61, (.invokestatic 23), 3, 735), (64, (.istore_n 2), 1, 0), (65, (.iinc 5 1), 3, 0), (68, (.goto (-58)), 3, 0), (71, (.iload_n 1), 1, 0), (72, (.iconst (-1)), 1, 0), (73, (.if_icmp .ne 7), 3, 0), (76, (.iload_n 3), 1, 0), (77, (.iconst 1), 1, 0), (78, .iadd, 1, 0), (79, .ireturn, 1, 0), (80, (.iload_n 3), 1, 0), (81, (.iload_n 1), 1, 0), (82, (.if_icmp .ne 7), 3, 0), (85, (.iload_n 2), 1, 0), (86, (.goto 4), 3, 0), (89, (.iconst (-1)), 1, 0), (90, .ireturn, 1, 0)]
def x_Poly_quotient : List (Nat × Instr × Nat × Nat) := [(0, (.iload_n 1), 1, 0), (1, (.invokestatic 9), 3, 517), (4, (.istore_n 2), 1, 0), (5, (.iload_n 0), 1, 0), (6, (.istore_n 3), 1, 0), (7, (.iconst 0), 1, 0), (8, (.istore 4), 2, 0), (10, (.bipush 12), 2, 0), (12, (.istore 5), 2, 0), (14, (.iload 5), 2, 0), (16, (.iload_n 2), 1, 0), (17, (.if_icmp .lt 42), 3, 0), (20, (.iload_n 2), 1, 0), (21, (.ifCond .lt 38), 3, 0), (24, (.iload_n 3), 1, 0), (25, (.iload 5), 2, 0), (27, .ishr, 1, 0), (28, (.iconst 1), 1, 0), (29, .iand, 1, 0), (30, (.ifCond .eq 23), 3, 0), (33, (.iload_n 3), 1, 0), (34, (.iload_n 1), 1, 0), (35, (.iload 5), 2, 0), (37, (.iload_n 2), 1, 0), (38, .isub, 1, 0), (39, .ishl, 1, 0), (40, .ixor, 1, 0), (41, (.istore_n 3), 1, 0), (42, (.iload 4), 2, 0), (44, (.iconst 1), 1, 0), (45, (.iload 5), 2, 0), (47, (.iload_n 2), 1, 0), (48, .isub, 1, 0), (49, .ishl, 1, 0), (50, .ior, 1, 0), (51, (.istore 4), 2, 0), (53, (.iinc 5 (-1)), 3, 0), (56, (.goto (-42)), 3, 0), (59, (.iload 4), 2, 0), (61, .ireturn, 1, 0)]
def x_FT_period : List (Nat × Instr × Nat × Nat) := [(0, (.iload_n 1), 1, 0), (1, (.invokestatic 151), 3, 705), (4, (.ifCond .ne 5), 3, 0), (7, (.iconst (-1)), 1, 0), (8, .ireturn, 1, 0), (9, (.iload_n 1), 1, 0), (10, (.iconst 1), 1, 0), (11, .iand, 1, 0), (12, (.ifCond .ne 8), 3, 0), (15, (.bipush (-2)), 2, 0), (17, (.goto 7), 3, 0), (20, (.iload_n 1), 1, 0), (21, (.invokestatic 175), 3, 742), (24, .ireturn, 1, 0)]
def x_Poly_periodOf : List (Nat × Instr × Nat × Nat) := [(0, (.iconst 1), 1, 0), (1, (.iload_n 0), 1, 0), (2, (.invokestatic 9), 3, 517), (5, .ishl, 1, 0), (6, (.istore_n 1), 1, 0), (7, (.iconst 1), 1, 0), (8, (.istore_n 2), 1, 0), (9, (.iconst 1), 1, 0), (10, (.istore_n 3), 1, 0), (11, (.iload_n 3), 1, 0), (12, (.sipush 8191), 3, 0), (15, (.if_icmp .gt 30), 3, 0), (18, (.iload_n 2), 1, 0), (19, (.iconst 1), 1, 0), (20, .ishl, 1, 0), (21, (.istore_n 2), 1, 0), (22, (.iload_n 2), 1, 0), (23, (.iload_n 1), 1, 0), (24, .iand, 1, 0), (25, (.ifCond .eq 7), 3, 0), (28, (.iload_n 2), 1, 0), (29, (.iload_n 0), 1, 0), (30, .ixor, 1, 0), (31, (.istore_n 2), 1, 0), (32, (.iload_n 2), 1, 0), (33, (.iconst 1), 1, 0), (34, (.if_icmp .ne 5), 3, 0), (37, (.iload_n 3), 1, 0), (38, .ireturn, 1, 0), (39, (.iinc 3 1), 3, 0), (42, (.goto (-31)), 3, 0), (45, (.iconst (-1)), 1, 0), (46, .ireturn, 1, 0)]
def x_FT_code : List (Nat × Instr × Nat × Nat) := [(0, (.iload_n 1), 1, 0), (1, (.invokestatic 110), 3, 669), (4, (.ifCond .eq 18), 3, 0), (7, (.iload_n 1), 1, 0), (8, (.iconst 2), 1, 0), (9, (.if_icmp .lt 13), 3, 0), (12, (.iload_n 2), 1, 0), (13, (.iconst 1), 1, 0), (14, (.if_icmp .lt 8), 3, 0), (17, (.iload_n 2), 1, 0), (18, (.iconst 5), 1, 0), (19, (.if_icmp .le 7), 3, 0), (22, (.ldc2_w 179), 3, 749), (25, .lreturn, 1, 0), (26, (.aload_n 0), 1, 0), (27, (.getfield 19), 3, 376), (30, (.iload_n 1), 1, 0), (31, (.iload_n 2), 1, 0), (32, (.invokevirtual 181), 3, 750), (35, .lreturn, 1, 0)]
def x_Tower_codePolynomial : List (Nat × Instr × Nat × Nat) := [(0, (.aload_n 0), 1, 0), (1, (.getfield 19), 3, 244), (4, (.iload_n 1), 1, 0), (5, .aaload, 1, 0), (6, (.invokevirtual 95), 3, 590), (9, (.istore_n 3), 1, 0), (10, (.lconst 1), 1, 0), (11, (.lstore 4), 2, 0), (13, (.iconst 1), 1, 0), (14, (.istore 6), 2, 0), (16, (.iconst 0), 1, 0), (17, (.istore 7), 2, 0), (19, (.iload 7), 2, 0), (21, (.iload_n 2), 1, 0), (22, (.if_icmp .ge 70), 3, 0), (25, (.iload 7), 2, 0), (27, (.iconst 5), 1, 0), (28, (.if_icmp .ge 64), 3, 0), (31, (.aload_n 0), 1, 0), (32, (.getfield 11), 3, 241), (35, (.iload_n 1), 1, 0), (36, .aaload, 1, 0), (37, (.iload 6), 2, 0), (39, (.iload_n 3), 1, 0), (40, (.invokevirtual 113), 3, 614), (43, (.istore 6), 2, 0), (45, (.aload_n 0), 1, 0), (46, (.getfield 45), 3, 251), (49, (.iload 7), 2, 0), (51, (.aload_n 0), 1, 0), (52, (.getfield 11), 3, 241), (55, (.iload_n 1), 1, 0), (56, .aaload, 1, 0), (57, (.iload 6), 2, 0), (59, (.invokevirtual 129), 3, 754), (62, .iastore, 1, 0), (63, (.aload_n 0), 1, 0), (64, (.iload 7), 2, 0), (66, (.invokevirtual 132), 3, 773), (69, (.ifCond .eq 17), 3, 0), (72, (.lload 4), 2, 0), (74, (.aload_n 0), 1, 0), (75, (.getfield 45), 3, 251), (78, (.iload 7), 2, 0), (80, .iaload, 1, 0), (81, (.invokestatic 135), 3, 777), (84, (.lstore 4), 2, 0), (86, (.iinc 7 1), 3, 0), (89, (.goto (-70)), 3, 0), (92, (.lload 4), 2, 0), (94, .lreturn, 1, 0)]
def x_Field_leastPolynomial : List (Nat × Instr × Nat × Nat) := [(0, (.aload_n 0), 1, 0), (1, (.iconst 1), 1, 0), (2, (.iload_n 1), 1, 0), (3, (.invokevirtual 52), 3, 758), (6, (.istore_n 2), 1, 0), (7, (.iconst 0), 1, 0), (8, (.istore_n 3), 1, 0), (9, (.iconst 0), 1, 0), (10, (.istore 4), 2, 0), (12, (.iload 4), 2, 0), (14, (.iload_n 2), 1, 0), (15, (.if_icmp .gt 24), 3, 0), (18, (.iload_n 3), 1, 0), (19, (.aload_n 0), 1, 0), (20, (.getfield 25), 3, 191), (23, (.iload 4), 2, 0), (25, .iaload, 1, 0), (26, (.iconst 1), 1, 0), (27, .iand, 1, 0), (28, (.iload 4), 2, 0), (30, .ishl, 1, 0), (31, .ior, 1, 0), (32, (.istore_n 3), 1, 0), (33, (.iinc 4 1), 3, 0), (36, (.goto (-24)), 3, 0), (39, (.iload_n 3), 1, 0), (40, .ireturn, 1, 0)]
def x_Field_expandLeast : List (Nat × Instr × Nat × Nat) := [(0, (.bipush 12), 2, 0), (2, (.aload_n 0), 1, 0), (3, (.iload_n 1), 1, 0), (4, (.iload_n 2), 1, 0), (5, (.invokevirtual 41), 3, 762), (8, (.invokestatic 44), 3, 770), (11, (.istore_n 3), 1, 0), (12, (.iload_n 2), 1, 0), (13, (.istore 4), 2, 0), (15, (.aload_n 0), 1, 0), (16, (.getfield 25), 3, 191), (19, (.iconst 0), 1, 0), (20, (.iconst 1), 1, 0), (21, .iastore, 1, 0), (22, (.iconst 0), 1, 0), (23, (.istore 5), 2, 0), (25, (.iload 5), 2, 0), (27, (.iload_n 3), 1, 0), (28, (.if_icmp .ge 97), 3, 0), (31, (.aload_n 0), 1, 0), (32, (.getfield 25), 3, 191), (35, (.iload 5), 2, 0), (37, (.iconst 1), 1, 0), (38, .iadd, 1, 0), (39, (.aload_n 0), 1, 0), (40, (.getfield 25), 3, 191), (43, (.iload 5), 2, 0), (45, .iaload, 1, 0), (46, .iastore, 1, 0), (47, (.iload 5), 2, 0), (49, (.istore 6), 2, 0), (51, (.iload 6), 2, 0), (53, (.ifCond .le 39), 3, 0), (56, (.aload_n 0), 1, 0), (57, (.getfield 25), 3, 191), (60, (.iload 6), 2, 0), (62, (.aload_n 0), 1, 0), (63, (.getfield 25), 3, 191), (66, (.iload 6), 2, 0), (68, (.iconst 1), 1, 0), (69, .isub, 1, 0), (70, .iaload, 1, 0), (71, (.aload_n 0), 1, 0), (72, (.aload_n 0), 1, 0), (73, (.getfield 25), 3, 191), (76, (.iload 6), 2, 0), (78, .iaload, 1, 0), (79, (.iload 4), 2, 0), (81, (.invokevirtual 28), 3, 586), (84, .ixor, 1, 0), (85, .iastore, 1, 0), (86, (.iinc 6 (-1)), 3, 0), (89, (.goto (-38)), 3, 0), (92, (.aload_n 0), 1, 0), (93, (.getfield 25), 3, 191), (96, (.iconst 0), 1, 0), (97, (.aload_n 0), 1, 0), (98, (.aload_n 0), 1, 0), (99, (.getfield 25), 3, 191), (102, (.iconst 0), 1, 0), (103, .iaload, 1, 0), (104, (.iload 4), 2, 0), (106, (.invokevirtual 28), 3, 586), (109, .iastore, 1, 0), (110, (.aload_n 0), 1, 0), (111, (.iload 4), 2, 0), (113, (.iload_n 1), 1, 0), (114, (.invokevirtual 49), 3, 766), (117, (.istore 4), 2, 0), (119, (.iinc 5 1), 3, 0), (122, (.goto (-97)), 3, 0), (125, (.iload_n 3), 1, 0), (126, .ireturn, 1, 0)]
def x_Field_degreeOver : List (Nat × Instr × Nat × Nat) := [(0, (.aload_n 0), 1, 0), (1, (.iload_n 2), 1, 0), (2, (.iload_n 1), 1, 0), (3, (.invokevirtual 49), 3, 766), (6, (.istore_n 3), 1, 0), (7, (.iconst 1), 1, 0), (8, (.istore 4), 2, 0), (10, (.iconst 1), 1, 0), (11, (.istore 5), 2, 0), (13, (.iload 5), 2, 0), (15, (.aload_n 0), 1, 0), (16, (.getfield 9), 3, 181), (19, (.if_icmp .ge 24), 3, 0), (22, (.iload_n 3), 1, 0), (23, (.iload_n 2), 1, 0), (24, (.if_icmp .eq 19), 3, 0), (27, (.aload_n 0), 1, 0), (28, (.iload_n 3), 1, 0), (29, (.iload_n 1), 1, 0), (30, (.invokevirtual 49), 3, 766), (33, (.istore_n 3), 1, 0), (34, (.iinc 4 1), 3, 0), (37, (.iinc 5 1), 3, 0), (40, (.goto (-27)), 3, 0), (43, (.iload 4), 2, 0), (45, .ireturn, 1, 0)]
def x_Field_squared : List (Nat × Instr × Nat × Nat) := [(0, (.iload_n 1), 1, 0), (1, (.istore_n 3), 1, 0), (2, (.iconst 0), 1, 0), (3, (.istore 4), 2, 0), (5, (.iload 4), 2, 0), (7, (.iload_n 2), 1, 0), (8, (.if_icmp .ge 16), 3, 0), (11, (.aload_n 0), 1, 0), (12, (.iload_n 3), 1, 0), (13, (.iload_n 3), 1, 0), (14, (.invokevirtual 28), 3, 586), (17, (.istore_n 3), 1, 0), (18, (.iinc 4 1), 3, 0), (21, (.goto (-16)), 3, 0), (24, (.iload_n 3), 1, 0), (25, .ireturn, 1, 0)]
def x_Math_min : List (Nat × Instr × Nat × Nat) := [(0, (.iload_n 0), 1, 0), (1, (.iload_n 1), 1, 0), (2, (.if_icmp .gt 7), 3, 0), (5, (.iload_n 0), 1, 0), (6, (.goto 4), 3, 0), (9, (.iload_n 1), 1, 0), (10, .ireturn, 1, 0)]
def x_Tower_isNewPart : List (Nat × Instr × Nat × Nat) := [(0, (.iconst 0), 1, 0), (1, (.istore_n 2), 1, 0), (2, (.iload_n 2), 1, 0), (3, (.iload_n 1), 1, 0), (4, (.if_icmp .ge 26), 3, 0), (7, (.aload_n 0), 1, 0), (8, (.getfield 45), 3, 251), (11, (.iload_n 2), 1, 0), (12, .iaload, 1, 0), (13, (.aload_n 0), 1, 0), (14, (.getfield 45), 3, 251), (17, (.iload_n 1), 1, 0), (18, .iaload, 1, 0), (19, (.if_icmp .ne 5), 3, 0), (22, (.iconst 0), 1, 0), (23, .ireturn, 1, 0), (24, (.iinc 2 1), 3, 0), (27, (.goto (-25)), 3, 0), (30, (.iconst 1), 1, 0), (31, .ireturn, 1, 0)]
def x_Poly_product : List (Nat × Instr × Nat × Nat) := [(0, (.lconst 0), 1, 0), (1, (.lstore_n 3), 1, 0), (2, (.iconst 0), 1, 0), (3, (.istore 5), 2, 0), (5, (.iload 5), 2, 0), (7, (.bipush 12), 2, 0), (9, (.if_icmp .gt 25), 3, 0), (12, (.iload_n 2), 1, 0), (13, (.iload 5), 2, 0), (15, .ishr, 1, 0), (16, (.iconst 1), 1, 0), (17, .iand, 1, 0), (18, (.ifCond .eq 10), 3, 0), (21, (.lload_n 3), 1, 0), (22, (.lload_n 0), 1, 0), (23, (.iload 5), 2, 0), (25, .lshl, 1, 0), (26, .lxor, 1, 0), (27, (.lstore_n 3), 1, 0), (28, (.iinc 5 1), 3, 0), (31, (.goto (-26)), 3, 0), (34, (.lload_n 3), 1, 0), (35, .lreturn, 1, 0)]
def x_FT_both : List (Nat × Instr × Nat × Nat) := [(0, (.iload_n 1), 1, 0), (1, (.iload_n 2), 1, 0), (2, (.invokestatic 166), 3, 724), (5, (.ifCond .eq 11), 3, 0), (8, (.iload_n 1), 1, 0), (9, (.iload_n 3), 1, 0), (10, (.invokestatic 166), 3, 724), (13, (.ifCond .ne 5), 3, 0), (16, (.iconst (-1)), 1, 0), (17, .ireturn, 1, 0), (18, (.aload_n 0), 1, 0), (19, (.getfield 19), 3, 376), (22, (.getfield 120), 3, 243), (25, (.iload_n 1), 1, 0), (26, .aaload, 1, 0), (27, (.astore 5), 2, 0), (29, (.iload 4), 2, 0), (31, (.tableswitch 59 0 2 #[25, 29, 37]), 25, 0), (56, (.iload_n 2), 1, 0), (57, (.iload_n 3), 1, 0), (58, .ixor, 1, 0), (59, .ireturn, 1, 0), (60, (.aload 5), 2, 0), (62, (.iload_n 2), 1, 0), (63, (.iload_n 3), 1, 0), (64, (.invokevirtual 185), 3, 784), (67, .ireturn, 1, 0), (68, (.iload_n 3), 1, 0), (69, (.ifCond .ne 8), 3, 0), (72, (.bipush (-2)), 2, 0), (74, (.goto 15), 3, 0), (77, (.aload 5), 2, 0), (79, (.iload_n 2), 1, 0), (80, (.aload 5), 2, 0), (82, (.iload_n 3), 1, 0), (83, (.invokevirtual 188), 3, 785), (86, (.invokevirtual 185), 3, 784), (89, .ireturn, 1, 0), (90, (.iconst (-1)), 1, 0), (91, .ireturn, 1, 0)]
def x_FT_power : List (Nat × Instr × Nat × Nat) := [(0, (.iload_n 1), 1, 0), (1, (.iload_n 2), 1, 0), (2, (.invokestatic 166), 3, 724), (5, (.ifCond .ne 5), 3, 0), (8, (.iconst (-1)), 1, 0), (9, .ireturn, 1, 0), (10, (.aload_n 0), 1, 0), (11, (.getfield 19), 3, 376), (14, (.getfield 120), 3, 243), (17, (.iload_n 1), 1, 0), (18, .aaload, 1, 0), (19, (.astore 4), 2, 0), (21, (.iload_n 3), 1, 0), (22, (.ifCond .lt 12), 3, 0), (25, (.aload 4), 2, 0), (27, (.iload_n 2), 1, 0), (28, (.iload_n 3), 1, 0), (29, .i2l, 1, 0), (30, (.invokevirtual 191), 3, 790), (33, .ireturn, 1, 0), (34, (.iload_n 2), 1, 0), (35, (.ifCond .ne 8), 3, 0), (38, (.bipush (-2)), 2, 0), (40, (.goto 17), 3, 0), (43, (.aload 4), 2, 0), (45, (.aload 4), 2, 0), (47, (.iload_n 2), 1, 0), (48, (.invokevirtual 188), 3, 785), (51, (.iload_n 3), 1, 0), (52, .i2l, 1, 0), (53, .lneg, 1, 0), (54, (.invokevirtual 191), 3, 790), (57, .ireturn, 1, 0)]
def x_FT_element : List (Nat × Instr × Nat × Nat) := [(0, (.iload_n 1), 1, 0), (1, (.iload_n 2), 1, 0), (2, (.invokestatic 166), 3, 724), (5, (.ifCond .ne 5), 3, 0), (8, (.iconst (-1)), 1, 0), (9, .ireturn, 1, 0), (10, (.iload_n 3), 1, 0), (11, (.tableswitch 268 0 10 #[57, 80, 97, 120, 143, 157, 143, 171, 197, 219, 233]), 57, 0), (68, (.iload_n 2), 1, 0), (69, (.ifCond .ne 8), 3, 0), (72, (.bipush (-2)), 2, 0), (74, (.goto 16), 3, 0), (77, (.aload_n 0), 1, 0), (78, (.getfield 19), 3, 376), (81, (.getfield 120), 3, 243), (84, (.iload_n 1), 1, 0), (85, .aaload, 1, 0), (86, (.iload_n 2), 1, 0), (87, (.invokevirtual 188), 3, 785), (90, .ireturn, 1, 0), (91, (.aload_n 0), 1, 0), (92, (.getfield 19), 3, 376), (95, (.getfield 120), 3, 243), (98, (.iload_n 1), 1, 0), (99, .aaload, 1, 0), (100, (.iload_n 2), 1, 0), (101, (.iload_n 1), 1, 0), (102, (.iconst 1), 1, 0), (103, .isub, 1, 0), (104, (.invokevirtual 195), 3, 795), (107, .ireturn, 1, 0), (108, (.iload_n 2), 1, 0), (109, (.ifCond .ne 8), 3, 0), (112, (.bipush (-2)), 2, 0), (114, (.goto 16), 3, 0), (117, (.aload_n 0), 1, 0), (118, (.getfield 19), 3, 376), (121, (.getfield 198), 3, 245), (124, (.iload_n 1), 1, 0), (125, .aaload, 1, 0), (126, (.iload_n 2), 1, 0), (127, (.invokevirtual 202), 3, 796), (130, .ireturn, 1, 0), (131, (.iload_n 2), 1, 0), (132, (.ifCond .ne 8), 3, 0), (135, (.bipush (-2)), 2, 0), (137, (.goto 16), 3, 0), (140, (.aload_n 0), 1, 0), (141, (.getfield 19), 3, 376), (144, (.getfield 198), 3, 245), (147, (.iload_n 1), 1, 0), (148, .aaload, 1, 0), (149, (.iload_n 2), 1, 0), (150, (.invokevirtual 207), 3, 797), (153, .ireturn, 1, 0), (154, (.aload_n 0), 1, 0), (155, (.getfield 19), 3, 376), (158, (.getfield 120), 3, 243), (161, (.iload_n 1), 1, 0), (162, .aaload, 1, 0), (163, (.iload_n 2), 1, 0), (164, (.invokevirtual 210), 3, 807), (167, .ireturn, 1, 0), (168, (.aload_n 0), 1, 0), (169, (.getfield 19), 3, 376), (172, (.getfield 120), 3, 243), (175, (.iload_n 1), 1, 0), (176, .aaload, 1, 0), (177, (.iload_n 2), 1, 0), (178, (.invokevirtual 213), 3, 811), (181, .ireturn, 1, 0), (182, (.iload_n 2), 1, 0), (183, (.ifCond .eq 23), 3, 0), (186, (.aload_n 0), 1, 0), (187, (.getfield 19), 3, 376), (190, (.getfield 198), 3, 245), (193, (.iload_n 1), 1, 0), (194, .aaload, 1, 0), (195, (.iload_n 2), 1, 0), (196, (.invokevirtual 216), 3, 815), (199, (.ifCond .eq 7), 3, 0), (202, (.iconst 1), 1, 0), (203, (.goto 4), 3, 0), (206, (.iconst 0), 1, 0), (207, .ireturn, 1, 0), (208, (.aload_n 0), 1, 0), (209, (.getfield 19), 3, 376), (212, (.getfield 219), 3, 247), (215, (.iload_n 1), 1, 0), (216, .aaload, 1, 0), (217, (.iload_n 2), 1, 0), (218, (.invokevirtual 223), 3, 819), (221, (.ifCond .eq 7), 3, 0), (224, (.iconst 1), 1, 0), (225, (.goto 4), 3, 0), (228, (.iconst 0), 1, 0), (229, .ireturn, 1, 0), (230, (.aload_n 0), 1, 0), (231, (.getfield 19), 3, 376), (234, (.getfield 219), 3, 247), (237, (.iload_n 1), 1, 0), (238, .aaload, 1, 0), (239, (.iload_n 2), 1, 0), (240, (.invokevirtual 228), 3, 850), (243, .ireturn, 1, 0), (244, (.aload_n 0), 1, 0), (245, (.getfield 19), 3, 376), (248, (.getfield 219), 3, 247), (251, (.iload_n 1), 1, 0), (252, .aaload, 1, 0), (253, (.iload_n 2), 1, 0), (254, (.invokevirtual 223), 3, 819), (257, (.ifCond .eq 19), 3, 0), (260, (.aload_n 0), 1, 0), (261, (.getfield 19), 3, 376), (264, (.getfield 219), 3, 247), (267, (.iload_n 1), 1, 0), (268, .aaload, 1, 0), (269, (.iload_n 2), 1, 0), (270, (.invokevirtual 231), 3, 863), (273, (.goto 5), 3, 0), (276, (.bipush (-2)), 2, 0), (278, .ireturn, 1, 0), (279, (.iconst (-1)), 1, 0), (280, .ireturn, 1, 0)]
def x_Cycle_logarithmOf : List (Nat × Instr × Nat × Nat) := [(0, (.aload_n 0), 1, 0), (1, (.getfield 27), 3, 210), (4, (.ifCond .ne 7), 3, 0), (7, (.aload_n 0), 1, 0), (8, (.invokevirtual 39), 3, 801), (11, (.aload_n 0), 1, 0), (12, (.getfield 42), 3, 211), (15, (.ifnull 25), 3, 0), (18, (.iload_n 1), 1, 0), (19, (.ifCond .le 21), 3, 0), (22, (.iload_n 1), 1, 0), (23, (.aload_n 0), 1, 0), (24, (.getfield 42), 3, 211), (27, .arraylength, 1, 0), (28, (.if_icmp .ge 12), 3, 0), (31, (.aload_n 0), 1, 0), (32, (.getfield 42), 3, 211), (35, (.iload_n 1), 1, 0), (36, .iaload, 1, 0), (37, (.goto 4), 3, 0), (40, (.iconst (-1)), 1, 0), (41, .ireturn, 1, 0)]
def x_Cycle_listLogarithms : List (Nat × Instr × Nat × Nat) := [(0, (.aload_n 0), 1, 0), (1, (.getfield 42), 3, 211), (4, (.ifnonnull 15), 3, 0), (7, (.aload_n 0), 1, 0), (8, (.aload_n 0), 1, 0), (9, (.getfield 21), 3, 208), (12, (.iconst 1), 1, 0), (13, .iadd, 1, 0), (14, (.newarray .int), 2, 0), (16, (.putfield 42), 3, 211), (19, (.aload_n 0), 1, 0), (20, (.invokevirtual 46), 3, 805), (23, (.istore_n 1), 1, 0), (24, (.iconst 1), 1, 0), (25, (.istore_n 2), 1, 0), (26, (.iconst 0), 1, 0), (27, (.istore_n 3), 1, 0), (28, (.iload_n 3), 1, 0), (29, (.aload_n 0), 1, 0), (30, (.getfield 21), 3, 208), (33, (.if_icmp .ge 26), 3, 0), (36, (.aload_n 0), 1, 0), (37, (.getfield 42), 3, 211), (40, (.iload_n 2), 1, 0), (41, (.iload_n 3), 1, 0), (42, .iastore, 1, 0), (43, (.aload_n 0), 1, 0), (44, (.getfield 9), 3, 207), (47, (.iload_n 2), 1, 0), (48, (.iload_n 1), 1, 0), (49, (.invokevirtual 50), 3, 806), (52, (.istore_n 2), 1, 0), (53, (.iinc 3 1), 3, 0), (56, (.goto (-28)), 3, 0), (59, (.aload_n 0), 1, 0), (60, (.iconst 1), 1, 0), (61, (.putfield 27), 3, 210), (64, .return_, 1, 0)]
def x_Field_degreeOf : List (Nat × Instr × Nat × Nat) := [(0, (.aload_n 0), 1, 0), (1, (.iconst 1), 1, 0), (2, (.iload_n 1), 1, 0), (3, (.invokevirtual 41), 3, 762), (6, .ireturn, 1, 0)]
def x_Field_leastConjugate : List (Nat × Instr × Nat × Nat) := [(0, (.iload_n 1), 1, 0), (1, (.istore_n 2), 1, 0), (2, (.iload_n 1), 1, 0), (3, (.istore_n 3), 1, 0), (4, (.iconst 1), 1, 0), (5, (.istore 4), 2, 0), (7, (.iload 4), 2, 0), (9, (.aload_n 0), 1, 0), (10, (.getfield 9), 3, 181), (13, (.if_icmp .ge 22), 3, 0), (16, (.aload_n 0), 1, 0), (17, (.iload_n 3), 1, 0), (18, (.iload_n 3), 1, 0), (19, (.invokevirtual 28), 3, 586), (22, (.istore_n 3), 1, 0), (23, (.iload_n 2), 1, 0), (24, (.iload_n 3), 1, 0), (25, (.invokestatic 44), 3, 770), (28, (.istore_n 2), 1, 0), (29, (.iinc 4 1), 3, 0), (32, (.goto (-25)), 3, 0), (35, (.iload_n 2), 1, 0), (36, .ireturn, 1, 0)]
def x_Cycle_isPrimitive : List (Nat × Instr × Nat × Nat) := [(0, (.aload_n 0), 1, 0), (1, (.iload_n 1), 1, 0), (2, (.invokevirtual 35), 3, 594), (5, (.aload_n 0), 1, 0), (6, (.getfield 21), 3, 208), (9, (.if_icmp .ne 7), 3, 0), (12, (.iconst 1), 1, 0), (13, (.goto 4), 3, 0), (16, (.iconst 0), 1, 0), (17, .ireturn, 1, 0)]
def x_Space_isNormal : List (Nat × Instr × Nat × Nat) := [(0, (.aload_n 0), 1, 0), (1, (.iload_n 1), 1, 0), (2, (.invokevirtual 39), 3, 823), (5, (.ifCond .eq 15), 3, 0), (8, (.aload_n 0), 1, 0), (9, (.iload_n 1), 1, 0), (10, (.invokevirtual 42), 3, 837), (13, (.ifCond .eq 7), 3, 0), (16, (.iconst 1), 1, 0), (17, (.goto 4), 3, 0), (20, (.iconst 0), 1, 0), (21, .ireturn, 1, 0)]
def x_Space_traceOf : List (Nat × Instr × Nat × Nat) := [(0, (.aload_n 0), 1, 0), (1, (.getfield 17), 3, 230), (4, (.ifCond .ne 46), 3, 0), (7, (.iconst 0), 1, 0), (8, (.istore_n 2), 1, 0), (9, (.iload_n 2), 1, 0), (10, (.aload_n 0), 1, 0), (11, (.getfield 7), 3, 228), (14, (.getfield 24), 3, 182), (17, (.if_icmp .ge 33), 3, 0), (20, (.aload_n 0), 1, 0), (21, .dup, 1, 0), (22, (.getfield 17), 3, 230), (25, (.aload_n 0), 1, 0), (26, (.getfield 7), 3, 228), (29, (.iconst 1), 1, 0), (30, (.iconst 1), 1, 0), (31, (.iload_n 2), 1, 0), (32, .ishl, 1, 0), (33, (.invokevirtual 29), 3, 827), (36, (.iconst 1), 1, 0), (37, .iand, 1, 0), (38, (.iload_n 2), 1, 0), (39, .ishl, 1, 0), (40, .ior, 1, 0), (41, (.putfield 17), 3, 230), (44, (.iinc 2 1), 3, 0), (47, (.goto (-38)), 3, 0), (50, (.aload_n 0), 1, 0), (51, (.getfield 17), 3, 230), (54, (.iload_n 1), 1, 0), (55, .iand, 1, 0), (56, (.invokestatic 33), 3, 831), (59, (.iconst 1), 1, 0), (60, .iand, 1, 0), (61, .ireturn, 1, 0)]
def x_Field_traceTo : List (Nat × Instr × Nat × Nat) := [(0, (.iconst 0), 1, 0), (1, (.istore_n 3), 1, 0), (2, (.iload_n 2), 1, 0), (3, (.istore 4), 2, 0), (5, (.iconst 0), 1, 0), (6, (.istore 5), 2, 0), (8, (.iload 5), 2, 0), (10, (.aload_n 0), 1, 0), (11, (.getfield 9), 3, 181), (14, (.if_icmp .ge 30), 3, 0), (17, (.iload_n 1), 1, 0), (18, (.ifCond .le 26), 3, 0), (21, (.iload_n 3), 1, 0), (22, (.iload 4), 2, 0), (24, .ixor, 1, 0), (25, (.istore_n 3), 1, 0), (26, (.aload_n 0), 1, 0), (27, (.iload 4), 2, 0), (29, (.iload_n 1), 1, 0), (30, (.invokevirtual 49), 3, 766), (33, (.istore 4), 2, 0), (35, (.iload 5), 2, 0), (37, (.iload_n 1), 1, 0), (38, .iadd, 1, 0), (39, (.istore 5), 2, 0), (41, (.goto (-33)), 3, 0), (44, (.iload_n 3), 1, 0), (45, .ireturn, 1, 0)]
def x_Intg_bitCount : List (Nat × Instr × Nat × Nat) := [(0, (.iload_n 0), 1, 0), (1, (.iload_n 0), 1, 0), (2, (.iconst 1), 1, 0), (3, .iushr, 1, 0), (4, (.ldc_w 265), 3, 834), (7, .iand, 1, 0), (8, .isub, 1, 0), (9, (.istore_n 0), 1, 0), (10, (.iload_n 0), 1, 0), (11, (.ldc_w 266), 3, 835), (14, .iand, 1, 0), (15, (.iload_n 0), 1, 0), (16, (.iconst 2), 1, 0), (17, .iushr, 1, 0), (18, (.ldc_w 266), 3, 835), (21, .iand, 1, 0), (22, .iadd, 1, 0), (23, (.istore_n 0), 1, 0), (24, (.iload_n 0), 1, 0), (25, (.iload_n 0), 1, 0), (26, (.iconst 4), 1, 0), (27, .iushr, 1, 0), (28, .iadd, 1, 0), (29, (.ldc_w 267), 3, 836), (32, .iand, 1, 0), (33, (.istore_n 0), 1, 0), (34, (.iload_n 0), 1, 0), (35, (.iload_n 0), 1, 0), (36, (.bipush 8), 2, 0), (38, .iushr, 1, 0), (39, .iadd, 1, 0), (40, (.istore_n 0), 1, 0), (41, (.iload_n 0), 1, 0), (42, (.iload_n 0), 1, 0), (43, (.bipush 16), 2, 0), (45, .iushr, 1, 0), (46, .iadd, 1, 0), (47, (.istore_n 0), 1, 0), (48, (.iload_n 0), 1, 0), (49, (.bipush 63), 2, 0), (51, .iand, 1, 0), (52, .ireturn, 1, 0)]
def x_Space_spanConjugates : List (Nat × Instr × Nat × Nat) := [(0, (.aload_n 0), 1, 0), (1, (.getfield 13), 3, 229), (4, (.invokevirtual 46), 3, 841), (7, (.iload_n 1), 1, 0), (8, (.istore_n 2), 1, 0), (9, (.iconst 1), 1, 0), (10, (.istore_n 3), 1, 0), (11, (.iconst 0), 1, 0), (12, (.istore 4), 2, 0), (14, (.iload 4), 2, 0), (16, (.aload_n 0), 1, 0), (17, (.getfield 7), 3, 228), (20, (.getfield 24), 3, 182), (23, (.if_icmp .ge 30), 3, 0), (26, (.iload_n 3), 1, 0), (27, (.aload_n 0), 1, 0), (28, (.getfield 13), 3, 229), (31, (.iload_n 2), 1, 0), (32, (.invokevirtual 51), 3, 845), (35, .iand, 1, 0), (36, (.istore_n 3), 1, 0), (37, (.aload_n 0), 1, 0), (38, (.getfield 7), 3, 228), (41, (.iload_n 2), 1, 0), (42, (.iload_n 2), 1, 0), (43, (.invokevirtual 54), 3, 849), (46, (.istore_n 2), 1, 0), (47, (.iinc 4 1), 3, 0), (50, (.goto (-36)), 3, 0), (53, (.iload_n 3), 1, 0), (54, .ireturn, 1, 0)]
def x_Span_clear : List (Nat × Instr × Nat × Nat) := [(0, (.iconst 0), 1, 0), (1, (.istore_n 1), 1, 0), (2, (.iload_n 1), 1, 0), (3, (.bipush 12), 2, 0), (5, (.if_icmp .ge 23), 3, 0), (8, (.aload_n 0), 1, 0), (9, (.getfield 9), 3, 161), (12, (.iload_n 1), 1, 0), (13, (.iconst 0), 1, 0), (14, .iastore, 1, 0), (15, (.aload_n 0), 1, 0), (16, (.getfield 15), 3, 162), (19, (.iload_n 1), 1, 0), (20, (.iconst 0), 1, 0), (21, .iastore, 1, 0), (22, (.iinc 1 1), 3, 0), (25, (.goto (-23)), 3, 0), (28, (.aload_n 0), 1, 0), (29, (.iconst 0), 1, 0), (30, (.putfield 18), 3, 163), (33, .return_, 1, 0)]
def x_Span_add : List (Nat × Instr × Nat × Nat) := [(0, (.iload_n 1), 1, 0), (1, (.istore_n 2), 1, 0), (2, (.iconst 1), 1, 0), (3, (.aload_n 0), 1, 0), (4, (.getfield 18), 3, 163), (7, .ishl, 1, 0), (8, (.istore_n 3), 1, 0), (9, (.aload_n 0), 1, 0), (10, .dup, 1, 0), (11, (.getfield 18), 3, 163), (14, (.iconst 1), 1, 0), (15, .iadd, 1, 0), (16, (.putfield 18), 3, 163), (19, (.bipush 11), 2, 0), (21, (.istore 4), 2, 0), (23, (.iload 4), 2, 0), (25, (.ifCond .lt 69), 3, 0), (28, (.iload_n 2), 1, 0), (29, (.iload 4), 2, 0), (31, .ishr, 1, 0), (32, (.iconst 1), 1, 0), (33, .iand, 1, 0), (34, (.ifCond .ne 6), 3, 0), (37, (.goto 51), 3, 0), (40, (.aload_n 0), 1, 0), (41, (.getfield 9), 3, 161), (44, (.iload 4), 2, 0), (46, .iaload, 1, 0), (47, (.ifCond .ne 21), 3, 0), (50, (.aload_n 0), 1, 0), (51, (.getfield 9), 3, 161), (54, (.iload 4), 2, 0), (56, (.iload_n 2), 1, 0), (57, .iastore, 1, 0), (58, (.aload_n 0), 1, 0), (59, (.getfield 15), 3, 162), (62, (.iload 4), 2, 0), (64, (.iload_n 3), 1, 0), (65, .iastore, 1, 0), (66, (.iconst 1), 1, 0), (67, .ireturn, 1, 0), (68, (.iload_n 2), 1, 0), (69, (.aload_n 0), 1, 0), (70, (.getfield 9), 3, 161), (73, (.iload 4), 2, 0), (75, .iaload, 1, 0), (76, .ixor, 1, 0), (77, (.istore_n 2), 1, 0), (78, (.iload_n 3), 1, 0), (79, (.aload_n 0), 1, 0), (80, (.getfield 15), 3, 162), (83, (.iload 4), 2, 0), (85, .iaload, 1, 0), (86, .ixor, 1, 0), (87, (.istore_n 3), 1, 0), (88, (.iinc 4 (-1)), 3, 0), (91, (.goto (-68)), 3, 0), (94, (.iconst 0), 1, 0), (95, .ireturn, 1, 0)]
def x_Space_coordinatesOf : List (Nat × Instr × Nat × Nat) := [(0, (.aload_n 0), 1, 0), (1, (.aload_n 0), 1, 0), (2, (.invokevirtual 63), 3, 854), (5, (.invokevirtual 42), 3, 837), (8, .pop, 1, 0), (9, (.aload_n 0), 1, 0), (10, (.getfield 13), 3, 229), (13, (.iload_n 1), 1, 0), (14, (.invokevirtual 67), 3, 859), (17, .ireturn, 1, 0)]
def x_Space_leastNormal : List (Nat × Instr × Nat × Nat) := [(0, (.iconst 1), 1, 0), (1, (.istore_n 1), 1, 0), (2, (.iload_n 1), 1, 0), (3, (.aload_n 0), 1, 0), (4, (.getfield 7), 3, 228), (7, (.getfield 57), 3, 185), (10, (.if_icmp .ge 29), 3, 0), (13, (.aload_n 0), 1, 0), (14, (.getfield 21), 3, 231), (17, (.ifCond .ne 22), 3, 0), (20, (.aload_n 0), 1, 0), (21, (.iload_n 1), 1, 0), (22, (.invokevirtual 60), 3, 858), (25, (.ifCond .eq 8), 3, 0), (28, (.aload_n 0), 1, 0), (29, (.iload_n 1), 1, 0), (30, (.putfield 21), 3, 231), (33, (.iinc 1 1), 3, 0), (36, (.goto (-34)), 3, 0), (39, (.aload_n 0), 1, 0), (40, (.getfield 21), 3, 231), (43, .ireturn, 1, 0)]
def x_Span_express : List (Nat × Instr × Nat × Nat) := [(0, (.iload_n 1), 1, 0), (1, (.istore_n 2), 1, 0), (2, (.iconst 0), 1, 0), (3, (.istore_n 3), 1, 0), (4, (.bipush 11), 2, 0), (6, (.istore 4), 2, 0), (8, (.iload 4), 2, 0), (10, (.ifCond .lt 53), 3, 0), (13, (.iload_n 2), 1, 0), (14, (.iload 4), 2, 0), (16, .ishr, 1, 0), (17, (.iconst 1), 1, 0), (18, .iand, 1, 0), (19, (.ifCond .ne 6), 3, 0), (22, (.goto 35), 3, 0), (25, (.aload_n 0), 1, 0), (26, (.getfield 9), 3, 161), (29, (.iload 4), 2, 0), (31, .iaload, 1, 0), (32, (.ifCond .ne 5), 3, 0), (35, (.iconst (-1)), 1, 0), (36, .ireturn, 1, 0), (37, (.iload_n 2), 1, 0), (38, (.aload_n 0), 1, 0), (39, (.getfield 9), 3, 161), (42, (.iload 4), 2, 0), (44, .iaload, 1, 0), (45, .ixor, 1, 0), (46, (.istore_n 2), 1, 0), (47, (.iload_n 3), 1, 0), (48, (.aload_n 0), 1, 0), (49, (.getfield 15), 3, 162), (52, (.iload 4), 2, 0), (54, .iaload, 1, 0), (55, .ixor, 1, 0), (56, (.istore_n 3), 1, 0), (57, (.iinc 4 (-1)), 3, 0), (60, (.goto (-52)), 3, 0), (63, (.iload_n 3), 1, 0), (64, .ireturn, 1, 0)]
def x_Space_dualOf : List (Nat × Instr × Nat × Nat) := [(0, (.aload_n 0), 1, 0), (1, (.getfield 13), 3, 229), (4, (.invokevirtual 46), 3, 841), (7, (.iconst 0), 1, 0), (8, (.istore_n 2), 1, 0), (9, (.iload_n 2), 1, 0), (10, (.aload_n 0), 1, 0), (11, (.getfield 7), 3, 228), (14, (.getfield 24), 3, 182), (17, (.if_icmp .ge 25), 3, 0), (20, (.aload_n 0), 1, 0), (21, (.getfield 13), 3, 229), (24, (.aload_n 0), 1, 0), (25, (.iconst 1), 1, 0), (26, (.iload_n 2), 1, 0), (27, .ishl, 1, 0), (28, (.iload_n 1), 1, 0), (29, (.invokevirtual 70), 3, 867), (32, (.invokevirtual 51), 3, 845), (35, .pop, 1, 0), (36, (.iinc 2 1), 3, 0), (39, (.goto (-30)), 3, 0), (42, (.aload_n 0), 1, 0), (43, (.getfield 13), 3, 229), (46, (.iconst 1), 1, 0), (47, (.invokevirtual 67), 3, 859), (50, .ireturn, 1, 0)]
def x_Space_tracesWith : List (Nat × Instr × Nat × Nat) := [(0, (.iconst 0), 1, 0), (1, (.istore_n 3), 1, 0), (2, (.iload_n 2), 1, 0), (3, (.istore 4), 2, 0), (5, (.iconst 0), 1, 0), (6, (.istore 5), 2, 0), (8, (.iload 5), 2, 0), (10, (.aload_n 0), 1, 0), (11, (.getfield 7), 3, 228), (14, (.getfield 24), 3, 182), (17, (.if_icmp .ge 42), 3, 0), (20, (.iload_n 3), 1, 0), (21, (.aload_n 0), 1, 0), (22, (.aload_n 0), 1, 0), (23, (.getfield 7), 3, 228), (26, (.iload_n 1), 1, 0), (27, (.iload 4), 2, 0), (29, (.invokevirtual 54), 3, 849), (32, (.invokevirtual 39), 3, 823), (35, (.iload 5), 2, 0), (37, .ishl, 1, 0), (38, .ior, 1, 0), (39, (.istore_n 3), 1, 0), (40, (.aload_n 0), 1, 0), (41, (.getfield 7), 3, 228), (44, (.iload 4), 2, 0), (46, (.iload 4), 2, 0), (48, (.invokevirtual 54), 3, 849), (51, (.istore 4), 2, 0), (53, (.iinc 5 1), 3, 0), (56, (.goto (-48)), 3, 0), (59, (.iload_n 3), 1, 0), (60, .ireturn, 1, 0)]
def x_FT_solve : List (Nat × Instr × Nat × Nat) := [(0, (.iload_n 1), 1, 0), (1, (.iload_n 2), 1, 0), (2, (.invokestatic 166), 3, 724), (5, (.ifCond .eq 22), 3, 0), (8, (.iload_n 1), 1, 0), (9, (.iload_n 3), 1, 0), (10, (.invokestatic 166), 3, 724), (13, (.ifCond .eq 14), 3, 0), (16, (.iload 4), 2, 0), (18, (.ifCond .lt 9), 3, 0), (21, (.iload 4), 2, 0), (23, (.iconst 1), 1, 0), (24, (.if_icmp .le 5), 3, 0), (27, (.iconst (-1)), 1, 0), (28, .ireturn, 1, 0), (29, (.aload_n 0), 1, 0), (30, (.getfield 19), 3, 376), (33, (.getfield 219), 3, 247), (36, (.iload_n 1), 1, 0), (37, .aaload, 1, 0), (38, (.iload_n 2), 1, 0), (39, (.iload_n 3), 1, 0), (40, (.invokevirtual 234), 3, 875), (43, (.istore 5), 2, 0), (45, (.iload 5), 2, 0), (47, (.iconst (-1)), 1, 0), (48, (.if_icmp .ne 15), 3, 0), (51, (.iload 4), 2, 0), (53, (.ifCond .ne 7), 3, 0), (56, (.iconst 0), 1, 0), (57, (.goto 5), 3, 0), (60, (.bipush (-2)), 2, 0), (62, .ireturn, 1, 0), (63, (.iload 4), 2, 0), (65, (.ifCond .ne 13), 3, 0), (68, (.iload_n 2), 1, 0), (69, (.ifCond .ne 7), 3, 0), (72, (.iconst 1), 1, 0), (73, (.goto 4), 3, 0), (76, (.iconst 2), 1, 0), (77, .ireturn, 1, 0), (78, (.iload 5), 2, 0), (80, (.iload 5), 2, 0), (82, (.iload_n 2), 1, 0), (83, .ixor, 1, 0), (84, (.invokestatic 237), 3, 879), (87, .ireturn, 1, 0)]
def x_Space_solveSquare : List (Nat × Instr × Nat × Nat) := [(0, (.aload_n 0), 1, 0), (1, (.getfield 13), 3, 229), (4, (.invokevirtual 46), 3, 841), (7, (.iconst 0), 1, 0), (8, (.istore_n 3), 1, 0), (9, (.iload_n 3), 1, 0), (10, (.aload_n 0), 1, 0), (11, (.getfield 7), 3, 228), (14, (.getfield 24), 3, 182), (17, (.if_icmp .ge 32), 3, 0), (20, (.aload_n 0), 1, 0), (21, (.getfield 13), 3, 229), (24, (.aload_n 0), 1, 0), (25, (.getfield 7), 3, 228), (28, (.iconst 1), 1, 0), (29, (.iload_n 3), 1, 0), (30, .ishl, 1, 0), (31, (.iconst 1), 1, 0), (32, (.iload_n 3), 1, 0), (33, .ishl, 1, 0), (34, (.iload_n 1), 1, 0), (35, .ixor, 1, 0), (36, (.invokevirtual 54), 3, 849), (39, (.invokevirtual 51), 3, 845), (42, .pop, 1, 0), (43, (.iinc 3 1), 3, 0), (46, (.goto (-37)), 3, 0), (49, (.aload_n 0), 1, 0), (50, (.getfield 13), 3, 229), (53, (.iload_n 2), 1, 0), (54, (.invokevirtual 67), 3, 859), (57, .ireturn, 1, 0)]
def x_FT_roots : List (Nat × Instr × Nat × Nat) := [(0, (.iload_n 1), 1, 0), (1, (.iload_n 2), 1, 0), (2, (.invokestatic 166), 3, 724), (5, (.ifCond .eq 26), 3, 0), (8, (.iload_n 3), 1, 0), (9, (.iconst 1), 1, 0), (10, (.if_icmp .lt 21), 3, 0), (13, (.iload_n 3), 1, 0), (14, (.sipush 9999), 3, 0), (17, (.if_icmp .gt 14), 3, 0), (20, (.iload 4), 2, 0), (22, (.ifCond .lt 9), 3, 0), (25, (.iload 4), 2, 0), (27, (.iconst 1), 1, 0), (28, (.if_icmp .le 5), 3, 0), (31, (.iconst (-1)), 1, 0), (32, .ireturn, 1, 0), (33, (.iload_n 2), 1, 0), (34, (.ifCond .ne 14), 3, 0), (37, (.iload 4), 2, 0), (39, (.ifCond .ne 7), 3, 0), (42, (.iconst 1), 1, 0), (43, (.goto 4), 3, 0), (46, (.iconst 0), 1, 0), (47, .ireturn, 1, 0), (48, (.aload_n 0), 1, 0), (49, (.getfield 19), 3, 376), (52, (.getfield 198), 3, 245), (55, (.iload_n 1), 1, 0), (56, .aaload, 1, 0), (57, (.iload_n 2), 1, 0), (58, (.iload_n 3), 1, 0), (59, (.invokevirtual 240), 3, 884), (62, (.istore 5), 2, 0), (64, (.iload 4), 2, 0), (66, (.ifCond .ne 6), 3, 0), (69, (.iload 5), 2, 0), (71, .ireturn, 1, 0), (72, (.iload 5), 2, 0), (74, (.ifCond .ne 8), 3, 0), (77, (.bipush (-2)), 2, 0), (79, (.goto 17), 3, 0), (82, (.aload_n 0), 1, 0), (83, (.getfield 19), 3, 376), (86, (.getfield 198), 3, 245), (89, (.iload_n 1), 1, 0), (90, .aaload, 1, 0), (91, (.iload_n 2), 1, 0), (92, (.iload_n 3), 1, 0), (93, (.invokevirtual 243), 3, 891), (96, .ireturn, 1, 0)]
def x_Cycle_rootCount : List (Nat × Instr × Nat × Nat) := [(0, (.iload_n 2), 1, 0), (1, (.aload_n 0), 1, 0), (2, (.getfield 21), 3, 208), (5, (.invokestatic 54), 3, 888), (8, (.istore_n 3), 1, 0), (9, (.iload_n 3), 1, 0), (10, (.aload_n 0), 1, 0), (11, (.iload_n 1), 1, 0), (12, (.invokevirtual 57), 3, 889), (15, (.invokestatic 60), 3, 890), (18, (.ifCond .eq 7), 3, 0), (21, (.iload_n 3), 1, 0), (22, (.goto 4), 3, 0), (25, (.iconst 0), 1, 0), (26, .ireturn, 1, 0)]
def x_Cycle_leastRoot : List (Nat × Instr × Nat × Nat) := [(0, (.iload_n 2), 1, 0), (1, (.aload_n 0), 1, 0), (2, (.getfield 21), 3, 208), (5, (.invokestatic 54), 3, 888), (8, (.istore_n 3), 1, 0), (9, (.iload_n 3), 1, 0), (10, (.iconst 1), 1, 0), (11, (.if_icmp .ge 5), 3, 0), (14, (.iconst (-1)), 1, 0), (15, .ireturn, 1, 0), (16, (.aload_n 0), 1, 0), (17, (.getfield 9), 3, 207), (20, (.aload_n 0), 1, 0), (21, (.invokevirtual 46), 3, 805), (24, (.aload_n 0), 1, 0), (25, (.aload_n 0), 1, 0), (26, (.iload_n 1), 1, 0), (27, (.invokevirtual 57), 3, 889), (30, (.iload_n 2), 1, 0), (31, (.invokevirtual 64), 3, 895), (34, .i2l, 1, 0), (35, (.invokevirtual 31), 3, 598), (38, (.istore 4), 2, 0), (40, (.aload_n 0), 1, 0), (41, (.getfield 9), 3, 207), (44, (.aload_n 0), 1, 0), (45, (.invokevirtual 46), 3, 805), (48, (.aload_n 0), 1, 0), (49, (.getfield 21), 3, 208), (52, (.iload_n 3), 1, 0), (53, .idiv, 1, 0), (54, .i2l, 1, 0), (55, (.invokevirtual 31), 3, 598), (58, (.istore 5), 2, 0), (60, (.iload 4), 2, 0), (62, (.istore 6), 2, 0), (64, (.iconst 1), 1, 0), (65, (.istore 7), 2, 0), (67, (.iload 7), 2, 0), (69, (.iload_n 3), 1, 0), (70, (.if_icmp .ge 31), 3, 0), (73, (.aload_n 0), 1, 0), (74, (.getfield 9), 3, 207), (77, (.iload 4), 2, 0), (79, (.iload 5), 2, 0), (81, (.invokevirtual 50), 3, 806), (84, (.istore 4), 2, 0), (86, (.iload 6), 2, 0), (88, (.iload 4), 2, 0), (90, (.invokestatic 67), 3, 899), (93, (.istore 6), 2, 0), (95, (.iinc 7 1), 3, 0), (98, (.goto (-31)), 3, 0), (101, (.iload 6), 2, 0), (103, .ireturn, 1, 0)]
def x_Cycle_rootLogarithm : List (Nat × Instr × Nat × Nat) := [(0, (.aload_n 0), 1, 0), (1, (.getfield 21), 3, 208), (4, (.ifCond .le 12), 3, 0), (7, (.iload_n 2), 1, 0), (8, (.aload_n 0), 1, 0), (9, (.getfield 21), 3, 208), (12, .irem, 1, 0), (13, (.goto 4), 3, 0), (16, (.iconst 0), 1, 0), (17, (.istore_n 3), 1, 0), (18, (.iconst 0), 1, 0), (19, (.istore 4), 2, 0), (21, (.iconst 0), 1, 0), (22, (.istore 5), 2, 0), (24, (.iload 5), 2, 0), (26, (.aload_n 0), 1, 0), (27, (.getfield 21), 3, 208), (30, (.if_icmp .ge 42), 3, 0), (33, (.iload 4), 2, 0), (35, (.iload_n 1), 1, 0), (36, (.if_icmp .ne 6), 3, 0), (39, (.iload 5), 2, 0), (41, .ireturn, 1, 0), (42, (.iload 4), 2, 0), (44, (.iload_n 3), 1, 0), (45, .iadd, 1, 0), (46, (.istore 4), 2, 0), (48, (.iload 4), 2, 0), (50, (.aload_n 0), 1, 0), (51, (.getfield 21), 3, 208), (54, (.if_icmp .lt 12), 3, 0), (57, (.iload 4), 2, 0), (59, (.aload_n 0), 1, 0), (60, (.getfield 21), 3, 208), (63, .isub, 1, 0), (64, (.istore 4), 2, 0), (66, (.iinc 5 1), 3, 0), (69, (.goto (-45)), 3, 0), (72, (.iconst 0), 1, 0), (73, .ireturn, 1, 0)]
def x_FT_coset : List (Nat × Instr × Nat × Nat) := [(0, (.iload_n 1), 1, 0), (1, (.invokestatic 110), 3, 669), (4, (.ifCond .eq 25), 3, 0), (7, (.iload_n 2), 1, 0), (8, (.ifCond .lt 21), 3, 0), (11, (.iload_n 2), 1, 0), (12, (.iconst 1), 1, 0), (13, (.iload_n 1), 1, 0), (14, .ishl, 1, 0), (15, (.iconst 2), 1, 0), (16, .isub, 1, 0), (17, (.if_icmp .gt 12), 3, 0), (20, (.iload_n 3), 1, 0), (21, (.ifCond .lt 8), 3, 0), (24, (.iload_n 3), 1, 0), (25, (.iconst 1), 1, 0), (26, (.if_icmp .le 5), 3, 0), (29, (.iconst (-1)), 1, 0), (30, .ireturn, 1, 0), (31, (.iconst 1), 1, 0), (32, (.iload_n 1), 1, 0), (33, .ishl, 1, 0), (34, (.iconst 1), 1, 0), (35, .isub, 1, 0), (36, (.istore 4), 2, 0), (38, (.iload_n 2), 1, 0), (39, (.istore 5), 2, 0), (41, (.iconst 1), 1, 0), (42, (.istore 6), 2, 0), (44, (.iload_n 2), 1, 0), (45, (.iload 4), 2, 0), (47, (.invokestatic 246), 3, 904), (50, (.istore 7), 2, 0), (52, (.iconst 1), 1, 0), (53, (.istore 8), 2, 0), (55, (.iload 8), 2, 0), (57, (.iload_n 1), 1, 0), (58, (.if_icmp .ge 36), 3, 0), (61, (.iload 7), 2, 0), (63, (.iload_n 2), 1, 0), (64, (.if_icmp .eq 30), 3, 0), (67, (.iload 5), 2, 0), (69, (.iload 7), 2, 0), (71, (.invokestatic 237), 3, 879), (74, (.istore 5), 2, 0), (76, (.iinc 6 1), 3, 0), (79, (.iload 7), 2, 0), (81, (.iload 4), 2, 0), (83, (.invokestatic 246), 3, 904), (86, (.istore 7), 2, 0), (88, (.iinc 8 1), 3, 0), (91, (.goto (-36)), 3, 0), (94, (.iload_n 3), 1, 0), (95, (.ifCond .ne 8), 3, 0), (98, (.iload 5), 2, 0), (100, (.goto 5), 3, 0), (103, (.iload 6), 2, 0), (105, .ireturn, 1, 0)]
def x_FT_doubled : List (Nat × Instr × Nat × Nat) := [(0, (.iconst 2), 1, 0), (1, (.iload_n 0), 1, 0), (2, .imul, 1, 0), (3, (.iload_n 1), 1, 0), (4, (.if_icmp .ge 9), 3, 0), (7, (.iconst 2), 1, 0), (8, (.iload_n 0), 1, 0), (9, .imul, 1, 0), (10, (.goto 8), 3, 0), (13, (.iconst 2), 1, 0), (14, (.iload_n 0), 1, 0), (15, .imul, 1, 0), (16, (.iload_n 1), 1, 0), (17, .isub, 1, 0), (18, .ireturn, 1, 0)]
def x_FT_raise : List (Nat × Instr × Nat × Nat) := [(0, (.iload_n 2), 1, 0), (1, (.invokestatic 110), 3, 669), (4, (.ifCond .eq 11), 3, 0), (7, (.iload_n 1), 1, 0), (8, (.iload_n 3), 1, 0), (9, (.invokestatic 166), 3, 724), (12, (.ifCond .ne 5), 3, 0), (15, (.iconst (-1)), 1, 0), (16, .ireturn, 1, 0), (17, (.iload_n 1), 1, 0), (18, (.iload_n 2), 1, 0), (19, (.invokestatic 249), 3, 911), (22, (.ifCond .ne 6), 3, 0), (25, (.bipush (-2)), 2, 0), (27, .ireturn, 1, 0), (28, (.aload_n 0), 1, 0), (29, (.getfield 19), 3, 376), (32, (.iload_n 2), 1, 0), (33, (.invokevirtual 252), 3, 912), (36, (.aload_n 0), 1, 0), (37, (.getfield 19), 3, 376), (40, (.iload_n 1), 1, 0), (41, (.iload_n 2), 1, 0), (42, (.iload_n 3), 1, 0), (43, (.invokevirtual 255), 3, 913), (46, .ireturn, 1, 0)]
def x_FT_lower : List (Nat × Instr × Nat × Nat) := [(0, (.iload_n 2), 1, 0), (1, (.invokestatic 110), 3, 669), (4, (.ifCond .eq 11), 3, 0), (7, (.iload_n 1), 1, 0), (8, (.iload_n 3), 1, 0), (9, (.invokestatic 166), 3, 724), (12, (.ifCond .ne 5), 3, 0), (15, (.iconst (-1)), 1, 0), (16, .ireturn, 1, 0), (17, (.iload_n 2), 1, 0), (18, (.iload_n 1), 1, 0), (19, (.invokestatic 249), 3, 911), (22, (.ifCond .ne 6), 3, 0), (25, (.bipush (-2)), 2, 0), (27, .ireturn, 1, 0), (28, (.aload_n 0), 1, 0), (29, (.getfield 19), 3, 376), (32, (.iload_n 1), 1, 0), (33, (.invokevirtual 252), 3, 912), (36, (.aload_n 0), 1, 0), (37, (.getfield 19), 3, 376), (40, (.iload_n 1), 1, 0), (41, (.iload_n 2), 1, 0), (42, (.iload_n 3), 1, 0), (43, (.invokevirtual 259), 3, 918), (46, .ireturn, 1, 0)]
def x_Tower_lowered : List (Nat × Instr × Nat × Nat) := [(0, (.aload_n 0), 1, 0), (1, (.getfield 32), 3, 248), (4, (.invokevirtual 119), 3, 922), (7, (.iconst 1), 1, 0), (8, (.istore 4), 2, 0), (10, (.iconst 0), 1, 0), (11, (.istore 5), 2, 0), (13, (.iload 5), 2, 0), (15, (.iload_n 2), 1, 0), (16, (.if_icmp .ge 40), 3, 0), (19, (.aload_n 0), 1, 0), (20, (.getfield 32), 3, 248), (23, (.iload 4), 2, 0), (25, (.invokevirtual 122), 3, 923), (28, .pop, 1, 0), (29, (.aload_n 0), 1, 0), (30, (.getfield 11), 3, 241), (33, (.iload_n 1), 1, 0), (34, .aaload, 1, 0), (35, (.iload 4), 2, 0), (37, (.aload_n 0), 1, 0), (38, (.getfield 38), 3, 249), (41, (.iload_n 1), 1, 0), (42, .aaload, 1, 0), (43, (.iload_n 2), 1, 0), (44, .iaload, 1, 0), (45, (.invokevirtual 113), 3, 614), (48, (.istore 4), 2, 0), (50, (.iinc 5 1), 3, 0), (53, (.goto (-40)), 3, 0), (56, (.aload_n 0), 1, 0), (57, (.getfield 32), 3, 248), (60, (.iload_n 3), 1, 0), (61, (.invokevirtual 125), 3, 924), (64, (.istore 5), 2, 0), (66, (.iload 5), 2, 0), (68, (.iconst (-1)), 1, 0), (69, (.if_icmp .ne 8), 3, 0), (72, (.bipush (-2)), 2, 0), (74, (.goto 5), 3, 0), (77, (.iload 5), 2, 0), (79, .ireturn, 1, 0)]
def x_FT_down : List (Nat × Instr × Nat × Nat) := [(0, (.iload_n 2), 1, 0), (1, (.invokestatic 110), 3, 669), (4, (.ifCond .eq 11), 3, 0), (7, (.iload_n 1), 1, 0), (8, (.iload_n 3), 1, 0), (9, (.invokestatic 166), 3, 724), (12, (.ifCond .ne 5), 3, 0), (15, (.iconst (-1)), 1, 0), (16, .ireturn, 1, 0), (17, (.iload_n 2), 1, 0), (18, (.iload_n 1), 1, 0), (19, (.invokestatic 249), 3, 911), (22, (.ifCond .ne 6), 3, 0), (25, (.bipush (-2)), 2, 0), (27, .ireturn, 1, 0), (28, (.aload_n 0), 1, 0), (29, (.getfield 19), 3, 376), (32, (.iload_n 1), 1, 0), (33, (.invokevirtual 252), 3, 912), (36, (.aload_n 0), 1, 0), (37, (.getfield 19), 3, 376), (40, (.iload_n 1), 1, 0), (41, (.iload_n 2), 1, 0), (42, (.iload 4), 2, 0), (44, (.ifCond .eq 20), 3, 0), (47, (.aload_n 0), 1, 0), (48, (.getfield 19), 3, 376), (51, (.getfield 120), 3, 243), (54, (.iload_n 1), 1, 0), (55, .aaload, 1, 0), (56, (.iload_n 2), 1, 0), (57, (.iload_n 3), 1, 0), (58, (.invokevirtual 262), 3, 929), (61, (.goto 17), 3, 0), (64, (.aload_n 0), 1, 0), (65, (.getfield 19), 3, 376), (68, (.getfield 120), 3, 243), (71, (.iload_n 1), 1, 0), (72, .aaload, 1, 0), (73, (.iload_n 2), 1, 0), (74, (.iload_n 3), 1, 0), (75, (.invokevirtual 265), 3, 933), (78, (.invokevirtual 259), 3, 918), (81, .ireturn, 1, 0)]
def x_Field_normTo : List (Nat × Instr × Nat × Nat) := [(0, (.iconst 1), 1, 0), (1, (.istore_n 3), 1, 0), (2, (.iload_n 2), 1, 0), (3, (.istore 4), 2, 0), (5, (.iconst 0), 1, 0), (6, (.istore 5), 2, 0), (8, (.iload 5), 2, 0), (10, (.aload_n 0), 1, 0), (11, (.getfield 9), 3, 181), (14, (.if_icmp .ge 33), 3, 0), (17, (.iload_n 1), 1, 0), (18, (.ifCond .le 29), 3, 0), (21, (.aload_n 0), 1, 0), (22, (.iload_n 3), 1, 0), (23, (.iload 4), 2, 0), (25, (.invokevirtual 28), 3, 586), (28, (.istore_n 3), 1, 0), (29, (.aload_n 0), 1, 0), (30, (.iload 4), 2, 0), (32, (.iload_n 1), 1, 0), (33, (.invokevirtual 49), 3, 766), (36, (.istore 4), 2, 0), (38, (.iload 5), 2, 0), (40, (.iload_n 1), 1, 0), (41, .iadd, 1, 0), (42, (.istore 5), 2, 0), (44, (.goto (-36)), 3, 0), (47, (.iload_n 3), 1, 0), (48, .ireturn, 1, 0)]
def x_FT_least : List (Nat × Instr × Nat × Nat) := [(0, (.iload_n 2), 1, 0), (1, (.invokestatic 110), 3, 669), (4, (.ifCond .eq 17), 3, 0), (7, (.iload_n 1), 1, 0), (8, (.iload_n 3), 1, 0), (9, (.invokestatic 166), 3, 724), (12, (.ifCond .eq 9), 3, 0), (15, (.iload 4), 2, 0), (17, (.iconst (-1)), 1, 0), (18, (.if_icmp .ge 5), 3, 0), (21, (.iconst (-1)), 1, 0), (22, .ireturn, 1, 0), (23, (.iload_n 2), 1, 0), (24, (.iload_n 1), 1, 0), (25, (.invokestatic 249), 3, 911), (28, (.ifCond .ne 6), 3, 0), (31, (.bipush (-2)), 2, 0), (33, .ireturn, 1, 0), (34, (.aload_n 0), 1, 0), (35, (.getfield 19), 3, 376), (38, (.getfield 120), 3, 243), (41, (.iload_n 1), 1, 0), (42, .aaload, 1, 0), (43, (.iload_n 2), 1, 0), (44, (.iload_n 3), 1, 0), (45, (.invokevirtual 268), 3, 938), (48, (.istore 5), 2, 0), (50, (.iload 4), 2, 0), (52, (.iconst (-1)), 1, 0), (53, (.if_icmp .ne 6), 3, 0), (56, (.iload 5), 2, 0), (58, .ireturn, 1, 0), (59, (.iload 4), 2, 0), (61, (.iload 5), 2, 0), (63, (.if_icmp .le 5), 3, 0), (66, (.iconst (-1)), 1, 0), (67, .ireturn, 1, 0), (68, (.aload_n 0), 1, 0), (69, (.getfield 19), 3, 376), (72, (.iload_n 1), 1, 0), (73, (.invokevirtual 252), 3, 912), (76, (.aload_n 0), 1, 0), (77, (.getfield 19), 3, 376), (80, (.iload_n 1), 1, 0), (81, (.iload_n 2), 1, 0), (82, (.aload_n 0), 1, 0), (83, (.getfield 19), 3, 376), (86, (.getfield 120), 3, 243), (89, (.iload_n 1), 1, 0), (90, .aaload, 1, 0), (91, (.iload_n 2), 1, 0), (92, (.iload_n 3), 1, 0), (93, (.iload 4), 2, 0), (95, (.invokevirtual 271), 3, 939), (98, (.invokevirtual 259), 3, 918), (101, .ireturn, 1, 0)]
def x_Field_leastCoefficient : List (Nat × Instr × Nat × Nat) := [(0, (.aload_n 0), 1, 0), (1, (.iload_n 1), 1, 0), (2, (.iload_n 2), 1, 0), (3, (.invokevirtual 52), 3, 758), (6, (.istore 4), 2, 0), (8, (.iload_n 3), 1, 0), (9, (.ifCond .lt 18), 3, 0), (12, (.iload_n 3), 1, 0), (13, (.iload 4), 2, 0), (15, (.if_icmp .gt 12), 3, 0), (18, (.aload_n 0), 1, 0), (19, (.getfield 25), 3, 191), (22, (.iload_n 3), 1, 0), (23, .iaload, 1, 0), (24, (.goto 4), 3, 0), (27, (.iconst 0), 1, 0), (28, .ireturn, 1, 0)]
def x_FT_field : List (Nat × Instr × Nat × Nat) := [(0, (.iload_n 1), 1, 0), (1, (.invokestatic 110), 3, 669), (4, (.ifCond .ne 5), 3, 0), (7, (.iconst (-1)), 1, 0), (8, .ireturn, 1, 0), (9, (.iload_n 2), 1, 0), (10, (.tableswitch 96 0 5 #[38, 51, 64, 77, 83, 91]), 38, 0), (48, (.aload_n 0), 1, 0), (49, (.getfield 19), 3, 376), (52, (.getfield 198), 3, 245), (55, (.iload_n 1), 1, 0), (56, .aaload, 1, 0), (57, (.invokevirtual 274), 3, 947), (60, .ireturn, 1, 0), (61, (.aload_n 0), 1, 0), (62, (.getfield 19), 3, 376), (65, (.getfield 198), 3, 245), (68, (.iload_n 1), 1, 0), (69, .aaload, 1, 0), (70, (.invokevirtual 277), 3, 948), (73, .ireturn, 1, 0), (74, (.aload_n 0), 1, 0), (75, (.getfield 19), 3, 376), (78, (.getfield 219), 3, 247), (81, (.iload_n 1), 1, 0), (82, .aaload, 1, 0), (83, (.invokevirtual 280), 3, 952), (86, .ireturn, 1, 0), (87, (.getstatic 283), 3, 953), (90, (.iload_n 1), 1, 0), (91, .iaload, 1, 0), (92, .ireturn, 1, 0), (93, (.iload_n 1), 1, 0), (94, (.getstatic 163), 3, 718), (97, (.iload_n 1), 1, 0), (98, .iaload, 1, 0), (99, .imul, 1, 0), (100, .ireturn, 1, 0), (101, (.iload_n 1), 1, 0), (102, (.invokestatic 286), 3, 955), (105, .ireturn, 1, 0), (106, (.iconst (-1)), 1, 0), (107, .ireturn, 1, 0)]
def x_Cycle_primitiveCount : List (Nat × Instr × Nat × Nat) := [(0, (.aload_n 0), 1, 0), (1, (.getfield 21), 3, 208), (4, (.istore_n 1), 1, 0), (5, (.aload_n 0), 1, 0), (6, (.getfield 21), 3, 208), (9, (.istore_n 2), 1, 0), (10, (.iconst 2), 1, 0), (11, (.istore_n 3), 1, 0), (12, (.iload_n 3), 1, 0), (13, (.iload_n 2), 1, 0), (14, (.if_icmp .gt 47), 3, 0), (17, (.iload_n 2), 1, 0), (18, (.iload_n 3), 1, 0), (19, .irem, 1, 0), (20, (.ifCond .ne 9), 3, 0), (23, (.iload_n 1), 1, 0), (24, (.iload_n 1), 1, 0), (25, (.iload_n 3), 1, 0), (26, .idiv, 1, 0), (27, .isub, 1, 0), (28, (.istore_n 1), 1, 0), (29, (.iconst 0), 1, 0), (30, (.istore 4), 2, 0), (32, (.iload 4), 2, 0), (34, (.bipush 12), 2, 0), (36, (.if_icmp .ge 19), 3, 0), (39, (.iload_n 2), 1, 0), (40, (.iload_n 3), 1, 0), (41, .irem, 1, 0), (42, (.ifCond .ne 13), 3, 0), (45, (.iload_n 2), 1, 0), (46, (.iload_n 3), 1, 0), (47, .idiv, 1, 0), (48, (.istore_n 2), 1, 0), (49, (.iinc 4 1), 3, 0), (52, (.goto (-20)), 3, 0), (55, (.iinc 3 1), 3, 0), (58, (.goto (-46)), 3, 0), (61, (.iload_n 1), 1, 0), (62, .ireturn, 1, 0)]
def x_FT_divisorBits : List (Nat × Instr × Nat × Nat) := [(0, (.iconst 0), 1, 0), (1, (.istore_n 1), 1, 0), (2, (.iconst 1), 1, 0), (3, (.istore_n 2), 1, 0), (4, (.iload_n 2), 1, 0), (5, (.iload_n 0), 1, 0), (6, (.if_icmp .gt 25), 3, 0), (9, (.iload_n 2), 1, 0), (10, (.iload_n 0), 1, 0), (11, (.invokestatic 249), 3, 911), (14, (.ifCond .eq 11), 3, 0), (17, (.iload_n 1), 1, 0), (18, (.iconst 1), 1, 0), (19, (.iload_n 2), 1, 0), (20, (.iconst 1), 1, 0), (21, .isub, 1, 0), (22, .ishl, 1, 0), (23, .ior, 1, 0), (24, (.istore_n 1), 1, 0), (25, (.iinc 2 1), 3, 0), (28, (.goto (-24)), 3, 0), (31, (.iload_n 1), 1, 0), (32, .ireturn, 1, 0)]
def x_FT_written : List (Nat × Instr × Nat × Nat) := [(0, (.iload_n 1), 1, 0), (1, (.iload_n 2), 1, 0), (2, (.invokestatic 166), 3, 724), (5, (.ifCond .eq 19), 3, 0), (8, (.iload_n 3), 1, 0), (9, (.ifCond .lt 15), 3, 0), (12, (.iload_n 3), 1, 0), (13, (.bipush 26), 2, 0), (15, (.if_icmp .ge 9), 3, 0), (18, (.iload 4), 2, 0), (20, (.iconst (-1)), 1, 0), (21, (.if_icmp .ge 5), 3, 0), (24, (.iconst (-1)), 1, 0), (25, .ireturn, 1, 0), (26, (.aload_n 0), 1, 0), (27, (.iload_n 2), 1, 0), (28, (.bipush 97), 2, 0), (30, (.iload_n 3), 1, 0), (31, .iadd, 1, 0), (32, (.invokevirtual 289), 3, 962), (35, (.istore 5), 2, 0), (37, (.iload 4), 2, 0), (39, (.iconst (-1)), 1, 0), (40, (.if_icmp .ne 6), 3, 0), (43, (.iload 5), 2, 0), (45, .ireturn, 1, 0), (46, (.iload 4), 2, 0), (48, (.iload 5), 2, 0), (50, (.if_icmp .ge 13), 3, 0), (53, (.aload_n 0), 1, 0), (54, (.getfield 53), 3, 383), (57, (.iload 4), 2, 0), (59, .iaload, 1, 0), (60, (.goto 4), 3, 0), (63, (.iconst (-1)), 1, 0), (64, .ireturn, 1, 0)]
def x_FT_writeOut : List (Nat × Instr × Nat × Nat) := [(0, (.iconst 0), 1, 0), (1, (.istore_n 3), 1, 0), (2, (.bipush 11), 2, 0), (4, (.istore 4), 2, 0), (6, (.iload 4), 2, 0), (8, (.ifCond .lt 27), 3, 0), (11, (.iload_n 1), 1, 0), (12, (.iload 4), 2, 0), (14, .ishr, 1, 0), (15, (.iconst 1), 1, 0), (16, .iand, 1, 0), (17, (.ifCond .eq 12), 3, 0), (20, (.aload_n 0), 1, 0), (21, (.iload 4), 2, 0), (23, (.iload_n 2), 1, 0), (24, (.iload_n 3), 1, 0), (25, (.invokevirtual 292), 3, 966), (28, (.istore_n 3), 1, 0), (29, (.iinc 4 (-1)), 3, 0), (32, (.goto (-26)), 3, 0), (35, (.iload_n 3), 1, 0), (36, (.ifCond .le 7), 3, 0), (39, (.iload_n 3), 1, 0), (40, (.goto 10), 3, 0), (43, (.aload_n 0), 1, 0), (44, (.bipush 48), 2, 0), (46, (.iconst 0), 1, 0), (47, (.invokevirtual 295), 3, 970), (50, .ireturn, 1, 0)]
def x_FT_writePower : List (Nat × Instr × Nat × Nat) := [(0, (.iload_n 3), 1, 0), (1, (.ifCond .le 13), 3, 0), (4, (.aload_n 0), 1, 0), (5, (.bipush 43), 2, 0), (7, (.iload_n 3), 1, 0), (8, (.invokevirtual 295), 3, 970), (11, (.goto 4), 3, 0), (14, (.iload_n 3), 1, 0), (15, (.istore 4), 2, 0), (17, (.iload_n 1), 1, 0), (18, (.ifCond .ne 12), 3, 0), (21, (.aload_n 0), 1, 0), (22, (.bipush 49), 2, 0), (24, (.iload 4), 2, 0), (26, (.invokevirtual 295), 3, 970), (29, .ireturn, 1, 0), (30, (.aload_n 0), 1, 0), (31, (.iload_n 2), 1, 0), (32, (.iload 4), 2, 0), (34, (.invokevirtual 295), 3, 970), (37, (.istore 4), 2, 0), (39, (.iload_n 1), 1, 0), (40, (.iconst 1), 1, 0), (41, (.if_icmp .ne 6), 3, 0), (44, (.iload 4), 2, 0), (46, .ireturn, 1, 0), (47, (.aload_n 0), 1, 0), (48, (.bipush 94), 2, 0), (50, (.iload 4), 2, 0), (52, (.invokevirtual 295), 3, 970), (55, (.istore 4), 2, 0), (57, (.iload_n 1), 1, 0), (58, (.bipush 10), 2, 0), (60, (.if_icmp .lt 13), 3, 0), (63, (.aload_n 0), 1, 0), (64, (.bipush 49), 2, 0), (66, (.iload 4), 2, 0), (68, (.invokevirtual 295), 3, 970), (71, (.istore 4), 2, 0), (73, (.aload_n 0), 1, 0), (74, (.bipush 48), 2, 0), (76, (.iload_n 1), 1, 0), (77, (.bipush 10), 2, 0), (79, .irem, 1, 0), (80, .iadd, 1, 0), (81, (.iload 4), 2, 0), (83, (.invokevirtual 295), 3, 970), (86, .ireturn, 1, 0)]
def x_FT_writeByte : List (Nat × Instr × Nat × Nat) := [(0, (.iload_n 2), 1, 0), (1, (.ifCond .lt 9), 3, 0), (4, (.iload_n 2), 1, 0), (5, (.bipush 64), 2, 0), (7, (.if_icmp .lt 5), 3, 0), (10, (.iload_n 2), 1, 0), (11, .ireturn, 1, 0), (12, (.aload_n 0), 1, 0), (13, (.getfield 53), 3, 383), (16, (.iload_n 2), 1, 0), (17, (.iload_n 1), 1, 0), (18, .iastore, 1, 0), (19, (.iload_n 2), 1, 0), (20, (.iconst 1), 1, 0), (21, .iadd, 1, 0), (22, .ireturn, 1, 0)]
def x_FT_let : List (Nat × Instr × Nat × Nat) := [(0, (.iload_n 1), 1, 0), (1, (.ifCond .lt 20), 3, 0), (4, (.iload_n 1), 1, 0), (5, (.aload_n 0), 1, 0), (6, (.getfield 59), 3, 384), (9, (.getfield 298), 3, 335), (12, (.if_icmp .ge 9), 3, 0), (15, (.iload_n 1), 1, 0), (16, (.bipush 8), 2, 0), (18, (.if_icmp .lt 5), 3, 0), (21, (.iconst (-1)), 1, 0), (22, .ireturn, 1, 0), (23, (.aload_n 0), 1, 0), (24, (.getfield 59), 3, 384), (27, (.getfield 301), 3, 339), (30, (.iload_n 1), 1, 0), (31, .iaload, 1, 0), (32, (.istore_n 3), 1, 0), (33, (.aload_n 0), 1, 0), (34, (.getfield 37), 3, 379), (37, (.iload_n 1), 1, 0), (38, .iaload, 1, 0), (39, (.istore 4), 2, 0), (41, (.iload_n 3), 1, 0), (42, (.iload 4), 2, 0), (44, (.invokestatic 166), 3, 724), (47, (.ifCond .ne 5), 3, 0), (50, (.iconst (-1)), 1, 0), (51, .ireturn, 1, 0), (52, (.iload_n 2), 1, 0), (53, (.tableswitch 84 0 3 #[31, 33, 36, 51]), 31, 0), (84, (.iload_n 3), 1, 0), (85, .ireturn, 1, 0), (86, (.iload 4), 2, 0), (88, .ireturn, 1, 0), (89, (.aload_n 0), 1, 0), (90, (.getfield 19), 3, 376), (93, (.getfield 120), 3, 243), (96, (.iload_n 3), 1, 0), (97, .aaload, 1, 0), (98, (.iload 4), 2, 0), (100, (.invokevirtual 210), 3, 807), (103, .ireturn, 1, 0), (104, (.aload_n 0), 1, 0), (105, (.getfield 19), 3, 376), (108, (.iload_n 3), 1, 0), (109, (.invokevirtual 252), 3, 912), (112, (.aload_n 0), 1, 0), (113, (.getfield 19), 3, 376), (116, (.iload_n 3), 1, 0), (117, (.aload_n 0), 1, 0), (118, (.getfield 19), 3, 376), (121, (.getfield 120), 3, 243), (124, (.iload_n 3), 1, 0), (125, .aaload, 1, 0), (126, (.iload 4), 2, 0), (128, (.invokevirtual 210), 3, 807), (131, (.iload 4), 2, 0), (133, (.invokevirtual 259), 3, 918), (136, .ireturn, 1, 0), (137, (.iconst (-1)), 1, 0), (138, .ireturn, 1, 0)]
def x_FT_count : List (Nat × Instr × Nat × Nat) := [(0, (.iload_n 1), 1, 0), (1, (.tableswitch 72 0 4 #[35, 43, 51, 59, 64]), 35, 0), (36, (.aload_n 0), 1, 0), (37, (.getfield 59), 3, 384), (40, (.getfield 298), 3, 335), (43, .ireturn, 1, 0), (44, (.aload_n 0), 1, 0), (45, (.getfield 10), 3, 375), (48, (.getfield 70), 3, 120), (51, .ireturn, 1, 0), (52, (.aload_n 0), 1, 0), (53, (.getfield 33), 3, 378), (56, (.getfield 106), 3, 306), (59, .ireturn, 1, 0), (60, (.aload_n 0), 1, 0), (61, (.invokevirtual 304), 3, 982), (64, .ireturn, 1, 0), (65, (.aload_n 0), 1, 0), (66, (.getfield 19), 3, 376), (69, (.invokevirtual 307), 3, 986), (72, .ireturn, 1, 0), (73, (.iconst (-1)), 1, 0), (74, .ireturn, 1, 0)]
def x_FT_heldSlots : List (Nat × Instr × Nat × Nat) := [(0, (.iconst 0), 1, 0), (1, (.istore_n 1), 1, 0), (2, (.iconst 0), 1, 0), (3, (.istore_n 2), 1, 0), (4, (.iload_n 2), 1, 0), (5, (.iconst 3), 1, 0), (6, (.if_icmp .ge 21), 3, 0), (9, (.aload_n 0), 1, 0), (10, (.getfield 49), 3, 382), (13, (.iload_n 2), 1, 0), (14, .baload, 1, 0), (15, (.ifCond .eq 6), 3, 0), (18, (.iinc 1 1), 3, 0), (21, (.iinc 2 1), 3, 0), (24, (.goto (-20)), 3, 0), (27, (.iload_n 1), 1, 0), (28, .ireturn, 1, 0)]
def x_Tower_otherModuli : List (Nat × Instr × Nat × Nat) := [(0, (.iconst 0), 1, 0), (1, (.istore_n 1), 1, 0), (2, (.iconst 1), 1, 0), (3, (.istore_n 2), 1, 0), (4, (.iload_n 2), 1, 0), (5, (.bipush 12), 2, 0), (7, (.if_icmp .gt 34), 3, 0), (10, (.aload_n 0), 1, 0), (11, (.getfield 11), 3, 241), (14, (.iload_n 2), 1, 0), (15, .aaload, 1, 0), (16, (.getfield 62), 3, 188), (19, (.getstatic 74), 3, 990), (22, (.iload_n 2), 1, 0), (23, .iaload, 1, 0), (24, (.if_icmp .eq 11), 3, 0), (27, (.iload_n 1), 1, 0), (28, (.iconst 1), 1, 0), (29, (.iload_n 2), 1, 0), (30, (.iconst 1), 1, 0), (31, .isub, 1, 0), (32, .ishl, 1, 0), (33, .ior, 1, 0), (34, (.istore_n 1), 1, 0), (35, (.iinc 2 1), 3, 0), (38, (.goto (-34)), 3, 0), (41, (.iload_n 1), 1, 0), (42, .ireturn, 1, 0)]
def x_M_init : List (Nat × Instr × Nat × Nat) := [(0, (.aload_n 0), 1, 0), (1, (.invokespecial 7), 3, 996), (4, (.aload_n 0), 1, 0), (5, (.sipush 2000), 3, 0), (8, (.newarray .byte), 2, 0), (10, (.putfield 13), 3, 1047), (13, (.aload_n 0), 1, 0), (14, (.sipush 2000), 3, 0), (17, (.newarray .byte), 2, 0), (19, (.putfield 17), 3, 1049), (22, (.aload_n 0), 1, 0), (23, (.sipush 403), 3, 0), (26, (.newarray .int), 2, 0), (28, (.putfield 20), 3, 1051), (31, (.aload_n 0), 1, 0), (32, (.sipush 403), 3, 0), (35, (.newarray .int), 2, 0), (37, (.putfield 24), 3, 1052), (40, (.aload_n 0), 1, 0), (41, (.sipush 403), 3, 0), (44, (.newarray .int), 2, 0), (46, (.putfield 27), 3, 1053), (49, (.aload_n 0), 1, 0), (50, (.sipush 403), 3, 0), (53, (.newarray .long), 2, 0), (55, (.putfield 30), 3, 1054), (58, (.aload_n 0), 1, 0), (59, (.iconst 3), 1, 0), (60, (.newarray .long), 2, 0), (62, (.putfield 34), 3, 1055), (65, (.aload_n 0), 1, 0), (66, (.iconst (-1)), 1, 0), (67, (.putfield 37), 3, 1062), (70, (.aload_n 0), 1, 0), (71, (.sipush 8192), 3, 0), (74, (.newarray .boolean), 2, 0), (76, (.putfield 40), 3, 1063), (79, (.aload_n 0), 1, 0), (80, (.bipush 13), 2, 0), (82, (.newarray .int), 2, 0), (84, (.putfield 44), 3, 1064), (87, (.aload_n 0), 1, 0), (88, (.bipush 13), 2, 0), (90, (.newarray .int), 2, 0), (92, (.putfield 47), 3, 1065), (95, (.aload_n 0), 1, 0), (96, (.sipush 410), 3, 0), (99, (.newarray .int), 2, 0), (101, (.putfield 50), 3, 1067), (104, (.aload_n 0), 1, 0), (105, (.sipush 410), 3, 0), (108, (.newarray .int), 2, 0), (110, (.putfield 53), 3, 1068), (113, (.aload_n 0), 1, 0), (114, (.sipush 410), 3, 0), (117, (.newarray .int), 2, 0), (119, (.putfield 56), 3, 1069), (122, (.aload_n 0), 1, 0), (123, (.bipush 9), 2, 0), (125, (.newarray .int), 2, 0), (127, (.putfield 59), 3, 1071), (130, (.aload_n 0), 1, 0), (131, (.bipush 8), 2, 0), (133, (.newarray .int), 2, 0), (135, (.putfield 62), 3, 1072), (138, (.aload_n 0), 1, 0), (139, (.bipush 8), 2, 0), (141, (.newarray .int), 2, 0), (143, (.putfield 65), 3, 1073), (146, (.aload_n 0), 1, 0), (147, (.bipush 8), 2, 0), (149, (.newarray .long), 2, 0), (151, (.putfield 68), 3, 1074), (154, (.aload_n 0), 1, 0), (155, (.sipush 410), 3, 0), (158, (.newarray .int), 2, 0), (160, (.putfield 71), 3, 1076), (163, (.aload_n 0), 1, 0), (164, (.sipush 410), 3, 0), (167, (.newarray .int), 2, 0), (169, (.putfield 74), 3, 1077), (172, (.aload_n 0), 1, 0), (173, (.sipush 410), 3, 0), (176, (.newarray .int), 2, 0), (178, (.putfield 77), 3, 1078), (181, (.aload_n 0), 1, 0), (182, (.bipush 26), 2, 0), (184, (.newarray .int), 2, 0), (186, (.putfield 80), 3, 1079), (189, (.aload_n 0), 1, 0), (190, (.bipush 13), 2, 0), (192, (.newarray .int), 2, 0), (194, (.putfield 83), 3, 1080), (197, (.aload_n 0), 1, 0), (198, (.sipush 400), 3, 0), (201, (.newarray .int), 2, 0), (203, (.putfield 86), 3, 1082), (206, (.aload_n 0), 1, 0), (207, (.sipush 410), 3, 0), (210, (.newarray .int), 2, 0), (212, (.putfield 89), 3, 1084), (215, (.aload_n 0), 1, 0), (216, (.sipush 390), 3, 0), (219, (.newarray .int), 2, 0), (221, (.putfield 92), 3, 1085), (224, (.aload_n 0), 1, 0), (225, (.bipush 39), 2, 0), (227, (.newarray .int), 2, 0), (229, (.putfield 95), 3, 1088), (232, (.aload_n 0), 1, 0), (233, (.iconst 3), 1, 0), (234, (.newarray .boolean), 2, 0), (236, (.putfield 98), 3, 1089), (239, (.aload_n 0), 1, 0), (240, (.sipush 169), 3, 0), (243, (.newarray .int), 2, 0), (245, (.putfield 101), 3, 1090), (248, (.aload_n 0), 1, 0), (249, (.bipush 12), 2, 0), (251, (.newarray .int), 2, 0), (253, (.putfield 104), 3, 1091), (256, (.aload_n 0), 1, 0), (257, (.bipush 12), 2, 0), (259, (.newarray .int), 2, 0), (261, (.putfield 107), 3, 1092), (264, (.aload_n 0), 1, 0), (265, (.bipush 14), 2, 0), (267, (.newarray .int), 2, 0), (269, (.putfield 110), 3, 1093), (272, (.aload_n 0), 1, 0), (273, (.bipush 80), 2, 0), (275, (.newarray .int), 2, 0), (277, (.putfield 113), 3, 1094), (280, (.aload_n 0), 1, 0), (281, (.getfield 34), 3, 1055), (284, (.iconst 0), 1, 0), (285, (.bipush 109), 2, 0), (287, (.bipush 111), 2, 0), (289, (.bipush 100), 2, 0), (291, (.bipush 117), 2, 0), (293, (.bipush 108), 2, 0), (295, (.bipush 117), 2, 0), (297, (.bipush 115), 2, 0), (299, (.invokestatic 116), 3, 997), (302, .lastore, 1, 0), (303, (.aload_n 0), 1, 0), (304, (.getfield 34), 3, 1055), (307, (.iconst 1), 1, 0), (308, (.bipush 108), 2, 0), (310, (.bipush 101), 2, 0), (312, (.bipush 116), 2, 0), (314, (.iconst 0), 1, 0), (315, (.iconst 0), 1, 0), (316, (.iconst 0), 1, 0), (317, (.iconst 0), 1, 0), (318, (.invokestatic 116), 3, 997), (321, .lastore, 1, 0), (322, (.aload_n 0), 1, 0), (323, (.getfield 34), 3, 1055), (326, (.iconst 2), 1, 0), (327, (.bipush 120), 2, 0), (329, (.iconst 0), 1, 0), (330, (.iconst 0), 1, 0), (331, (.iconst 0), 1, 0), (332, (.iconst 0), 1, 0), (333, (.iconst 0), 1, 0), (334, (.iconst 0), 1, 0), (335, (.invokestatic 116), 3, 997), (338, .lastore, 1, 0), (339, (.iconst 2), 1, 0), (340, (.istore_n 1), 1, 0), (341, (.iload_n 1), 1, 0), (342, (.sipush 8192), 3, 0), (345, (.if_icmp .ge 47), 3, 0), (348, (.iconst 2), 1, 0), (349, (.istore_n 2), 1, 0), (350, (.iload_n 2), 1, 0), (351, (.iload_n 1), 1, 0), (352, (.if_icmp .gt 34), 3, 0), (355, (.iload_n 1), 1, 0), (356, (.invokestatic 120), 3, 1004), (359, (.iload_n 2), 1, 0), (360, (.invokestatic 120), 3, 1004), (363, .iadd, 1, 0), (364, (.bipush 12), 2, 0), (366, (.if_icmp .gt 20), 3, 0), (369, (.aload_n 0), 1, 0), (370, (.getfield 40), 3, 1063), (373, (.iload_n 1), 1, 0), (374, (.iload_n 2), 1, 0), (375, (.invokestatic 124), 3, 1007), (378, (.iconst 1), 1, 0), (379, .bastore, 1, 0), (380, (.iinc 2 1), 3, 0), (383, (.goto (-33)), 3, 0), (386, (.iinc 1 1), 3, 0), (389, (.goto (-48)), 3, 0), (392, (.iconst 1), 1, 0), (393, (.istore_n 1), 1, 0), (394, (.iload_n 1), 1, 0), (395, (.bipush 12), 2, 0), (397, (.if_icmp .gt 20), 3, 0), (400, (.aload_n 0), 1, 0), (401, (.getfield 44), 3, 1064), (404, (.iload_n 1), 1, 0), (405, (.aload_n 0), 1, 0), (406, (.iload_n 1), 1, 0), (407, (.invokevirtual 128), 3, 1013), (410, .iastore, 1, 0), (411, (.iinc 1 1), 3, 0), (414, (.goto (-20)), 3, 0), (417, (.aload_n 0), 1, 0), (418, (.invokevirtual 131), 3, 1017), (421, .return_, 1, 0)]
def x_M_letters : List (Nat × Instr × Nat × Nat) := [(0, (.lconst 0), 1, 0), (1, (.iload_n 0), 1, 0), (2, (.invokestatic 146), 3, 1000), (5, (.iload_n 1), 1, 0), (6, (.invokestatic 146), 3, 1000), (9, (.iload_n 2), 1, 0), (10, (.invokestatic 146), 3, 1000), (13, (.iload_n 3), 1, 0), (14, (.invokestatic 146), 3, 1000), (17, (.iload 4), 2, 0), (19, (.invokestatic 146), 3, 1000), (22, (.iload 5), 2, 0), (24, (.invokestatic 146), 3, 1000), (27, (.iload 6), 2, 0), (29, (.invokestatic 146), 3, 1000), (32, .lreturn, 1, 0)]
def x_M_appends : List (Nat × Instr × Nat × Nat) := [(0, (.iload_n 2), 1, 0), (1, (.ifCond .ne 7), 3, 0), (4, (.lload_n 0), 1, 0), (5, (.goto 16), 3, 0), (8, (.ldc2_w 144), 3, 1003), (11, (.lload_n 0), 1, 0), (12, .lmul, 1, 0), (13, (.iload_n 2), 1, 0), (14, (.bipush 97), 2, 0), (16, .isub, 1, 0), (17, (.iconst 1), 1, 0), (18, .iadd, 1, 0), (19, .i2l, 1, 0), (20, .ladd, 1, 0), (21, .lreturn, 1, 0)]
def x_M_degree : List (Nat × Instr × Nat × Nat) := [(0, (.iconst 0), 1, 0), (1, (.istore_n 1), 1, 0), (2, (.iload_n 0), 1, 0), (3, (.iload_n 1), 1, 0), (4, .ishr, 1, 0), (5, (.iconst 1), 1, 0), (6, (.if_icmp .le 9), 3, 0), (9, (.iinc 1 1), 3, 0), (12, (.goto (-10)), 3, 0), (15, (.iload_n 1), 1, 0), (16, .ireturn, 1, 0)]
def x_M_times : List (Nat × Instr × Nat × Nat) := [(0, (.iconst 0), 1, 0), (1, (.istore_n 2), 1, 0), (2, (.iconst 0), 1, 0), (3, (.istore_n 3), 1, 0), (4, (.iload_n 1), 1, 0), (5, (.iload_n 3), 1, 0), (6, .ishr, 1, 0), (7, (.ifCond .le 23), 3, 0), (10, (.iload_n 1), 1, 0), (11, (.iload_n 3), 1, 0), (12, (.invokestatic 195), 3, 1010), (15, (.ifCond .eq 9), 3, 0), (18, (.iload_n 2), 1, 0), (19, (.iload_n 0), 1, 0), (20, (.iload_n 3), 1, 0), (21, .ishl, 1, 0), (22, .ixor, 1, 0), (23, (.istore_n 2), 1, 0), (24, (.iinc 3 1), 3, 0), (27, (.goto (-23)), 3, 0), (30, (.iload_n 2), 1, 0), (31, .ireturn, 1, 0)]
def x_M_has : List (Nat × Instr × Nat × Nat) := [(0, (.iload_n 0), 1, 0), (1, (.iload_n 1), 1, 0), (2, .ishr, 1, 0), (3, (.iconst 1), 1, 0), (4, .iand, 1, 0), (5, (.iconst 1), 1, 0), (6, (.if_icmp .ne 7), 3, 0), (9, (.iconst 1), 1, 0), (10, (.goto 4), 3, 0), (13, (.iconst 0), 1, 0), (14, .ireturn, 1, 0)]
def x_M_leastWhole : List (Nat × Instr × Nat × Nat) := [(0, (.iconst 1), 1, 0), (1, (.iload_n 1), 1, 0), (2, .ishl, 1, 0), (3, (.istore_n 2), 1, 0), (4, (.aload_n 0), 1, 0), (5, (.getfield 40), 3, 1063), (8, (.iload_n 2), 1, 0), (9, .baload, 1, 0), (10, (.ifCond .eq 9), 3, 0), (13, (.iinc 2 1), 3, 0), (16, (.goto (-12)), 3, 0), (19, (.iload_n 2), 1, 0), (20, .ireturn, 1, 0)]
def x_M_laysTower : List (Nat × Instr × Nat × Nat) := [(0, (.iconst 1), 1, 0), (1, (.istore_n 1), 1, 0), (2, (.iload_n 1), 1, 0), (3, (.bipush 12), 2, 0), (5, (.if_icmp .gt 57), 3, 0), (8, (.aload_n 0), 1, 0), (9, (.getfield 101), 3, 1090), (12, (.bipush 13), 2, 0), (14, (.iload_n 1), 1, 0), (15, .imul, 1, 0), (16, (.iload_n 1), 1, 0), (17, .iadd, 1, 0), (18, (.iconst 2), 1, 0), (19, (.aload_n 0), 1, 0), (20, (.getfield 44), 3, 1064), (23, (.iload_n 1), 1, 0), (24, .iaload, 1, 0), (25, (.invokestatic 288), 3, 1021), (28, .iastore, 1, 0), (29, (.iload_n 1), 1, 0), (30, (.iconst 1), 1, 0), (31, .isub, 1, 0), (32, (.istore_n 2), 1, 0), (33, (.iload_n 2), 1, 0), (34, (.iconst 1), 1, 0), (35, (.if_icmp .lt 21), 3, 0), (38, (.iload_n 1), 1, 0), (39, (.iload_n 2), 1, 0), (40, .irem, 1, 0), (41, (.ifCond .ne 9), 3, 0), (44, (.aload_n 0), 1, 0), (45, (.iload_n 2), 1, 0), (46, (.iload_n 1), 1, 0), (47, (.invokevirtual 310), 3, 1024), (50, (.iinc 2 (-1)), 3, 0), (53, (.goto (-20)), 3, 0), (56, (.iinc 1 1), 3, 0), (59, (.goto (-57)), 3, 0), (62, .return_, 1, 0)]
def x_M_rest : List (Nat × Instr × Nat × Nat) := [(0, (.iload_n 0), 1, 0), (1, (.istore_n 2), 1, 0), (2, (.iload_n 1), 1, 0), (3, (.invokestatic 120), 3, 1004), (6, (.istore_n 3), 1, 0), (7, (.iload_n 0), 1, 0), (8, (.invokestatic 120), 3, 1004), (11, (.istore 4), 2, 0), (13, (.iload 4), 2, 0), (15, (.iload_n 3), 1, 0), (16, (.if_icmp .lt 27), 3, 0), (19, (.iload_n 2), 1, 0), (20, (.iload 4), 2, 0), (22, (.invokestatic 195), 3, 1010), (25, (.ifCond .eq 12), 3, 0), (28, (.iload_n 2), 1, 0), (29, (.iload_n 1), 1, 0), (30, (.iload 4), 2, 0), (32, (.iload_n 3), 1, 0), (33, .isub, 1, 0), (34, .ishl, 1, 0), (35, .ixor, 1, 0), (36, (.istore_n 2), 1, 0), (37, (.iinc 4 (-1)), 3, 0), (40, (.goto (-27)), 3, 0), (43, (.iload_n 2), 1, 0), (44, .ireturn, 1, 0)]
def x_M_laysUp : List (Nat × Instr × Nat × Nat) := [(0, (.iload_n 2), 1, 0), (1, (.iconst 1), 1, 0), (2, .isub, 1, 0), (3, (.istore_n 3), 1, 0), (4, (.iload_n 3), 1, 0), (5, (.iload_n 1), 1, 0), (6, (.if_icmp .le 53), 3, 0), (9, (.iload_n 2), 1, 0), (10, (.iload_n 3), 1, 0), (11, .irem, 1, 0), (12, (.ifCond .ne 41), 3, 0), (15, (.iload_n 3), 1, 0), (16, (.iload_n 1), 1, 0), (17, .irem, 1, 0), (18, (.ifCond .eq 6), 3, 0), (21, (.goto 32), 3, 0), (24, (.aload_n 0), 1, 0), (25, (.getfield 101), 3, 1090), (28, (.bipush 13), 2, 0), (30, (.iload_n 1), 1, 0), (31, .imul, 1, 0), (32, (.iload_n 2), 1, 0), (33, .iadd, 1, 0), (34, (.aload_n 0), 1, 0), (35, (.iload_n 3), 1, 0), (36, (.iload_n 2), 1, 0), (37, (.aload_n 0), 1, 0), (38, (.getfield 101), 3, 1090), (41, (.bipush 13), 2, 0), (43, (.iload_n 1), 1, 0), (44, .imul, 1, 0), (45, (.iload_n 3), 1, 0), (46, .iadd, 1, 0), (47, .iaload, 1, 0), (48, (.invokevirtual 291), 3, 1028), (51, .iastore, 1, 0), (52, .return_, 1, 0), (53, (.iinc 3 (-1)), 3, 0), (56, (.goto (-52)), 3, 0), (59, (.iconst 0), 1, 0), (60, (.istore_n 3), 1, 0), (61, (.aload_n 0), 1, 0), (62, (.iload_n 1), 1, 0), (63, (.iload_n 2), 1, 0), (64, (.iload_n 3), 1, 0), (65, (.invokevirtual 313), 3, 1036), (68, (.ifCond .ne 9), 3, 0), (71, (.iinc 3 1), 3, 0), (74, (.goto (-13)), 3, 0), (77, (.aload_n 0), 1, 0), (78, (.getfield 101), 3, 1090), (81, (.bipush 13), 2, 0), (83, (.iload_n 1), 1, 0), (84, .imul, 1, 0), (85, (.iload_n 2), 1, 0), (86, .iadd, 1, 0), (87, (.iload_n 3), 1, 0), (88, .iastore, 1, 0), (89, .return_, 1, 0)]
def x_M_up : List (Nat × Instr × Nat × Nat) := [(0, (.iconst 0), 1, 0), (1, (.istore 4), 2, 0), (3, (.iload_n 1), 1, 0), (4, (.iconst 1), 1, 0), (5, .isub, 1, 0), (6, (.istore 5), 2, 0), (8, (.iload 5), 2, 0), (10, (.ifCond .lt 44), 3, 0), (13, (.aload_n 0), 1, 0), (14, (.iload_n 2), 1, 0), (15, (.iload 4), 2, 0), (17, (.aload_n 0), 1, 0), (18, (.getfield 101), 3, 1090), (21, (.bipush 13), 2, 0), (23, (.iload_n 1), 1, 0), (24, .imul, 1, 0), (25, (.iload_n 2), 1, 0), (26, .iadd, 1, 0), (27, .iaload, 1, 0), (28, (.invokevirtual 298), 3, 1032), (31, (.iload_n 3), 1, 0), (32, (.iload 5), 2, 0), (34, (.invokestatic 195), 3, 1010), (37, (.ifCond .eq 7), 3, 0), (40, (.iconst 1), 1, 0), (41, (.goto 4), 3, 0), (44, (.iconst 0), 1, 0), (45, .ixor, 1, 0), (46, (.istore 4), 2, 0), (48, (.iinc 5 (-1)), 3, 0), (51, (.goto (-43)), 3, 0), (54, (.iload 4), 2, 0), (56, .ireturn, 1, 0)]
def x_M_product : List (Nat × Instr × Nat × Nat) := [(0, (.iconst 0), 1, 0), (1, (.istore 4), 2, 0), (3, (.iload_n 2), 1, 0), (4, (.istore 5), 2, 0), (6, (.iconst 0), 1, 0), (7, (.istore 6), 2, 0), (9, (.iload 6), 2, 0), (11, (.iload_n 1), 1, 0), (12, (.if_icmp .ge 51), 3, 0), (15, (.iload_n 3), 1, 0), (16, (.iload 6), 2, 0), (18, (.invokestatic 195), 3, 1010), (21, (.ifCond .eq 10), 3, 0), (24, (.iload 4), 2, 0), (26, (.iload 5), 2, 0), (28, .ixor, 1, 0), (29, (.istore 4), 2, 0), (31, (.iload 5), 2, 0), (33, (.iconst 1), 1, 0), (34, .ishl, 1, 0), (35, (.istore 5), 2, 0), (37, (.iload 5), 2, 0), (39, (.iload_n 1), 1, 0), (40, (.invokestatic 195), 3, 1010), (43, (.ifCond .eq 14), 3, 0), (46, (.iload 5), 2, 0), (48, (.aload_n 0), 1, 0), (49, (.getfield 44), 3, 1064), (52, (.iload_n 1), 1, 0), (53, .iaload, 1, 0), (54, .ixor, 1, 0), (55, (.istore 5), 2, 0), (57, (.iinc 6 1), 3, 0), (60, (.goto (-51)), 3, 0), (63, (.iload 4), 2, 0), (65, .ireturn, 1, 0)]
def x_M_agrees : List (Nat × Instr × Nat × Nat) := [(0, (.aload_n 0), 1, 0), (1, (.iload_n 2), 1, 0), (2, (.aload_n 0), 1, 0), (3, (.getfield 44), 3, 1064), (6, (.iload_n 1), 1, 0), (7, .iaload, 1, 0), (8, (.iload_n 3), 1, 0), (9, (.invokevirtual 316), 3, 1040), (12, (.ifCond .eq 5), 3, 0), (15, (.iconst 0), 1, 0), (16, .ireturn, 1, 0), (17, (.aload_n 0), 1, 0), (18, (.getfield 101), 3, 1090), (21, (.bipush 13), 2, 0), (23, (.iload_n 1), 1, 0), (24, .imul, 1, 0), (25, (.iload_n 2), 1, 0), (26, .iadd, 1, 0), (27, (.iload_n 3), 1, 0), (28, .iastore, 1, 0), (29, (.iload_n 2), 1, 0), (30, (.iconst 1), 1, 0), (31, .isub, 1, 0), (32, (.istore 4), 2, 0), (34, (.iload 4), 2, 0), (36, (.iload_n 1), 1, 0), (37, (.if_icmp .le 82), 3, 0), (40, (.iload_n 2), 1, 0), (41, (.iload 4), 2, 0), (43, .irem, 1, 0), (44, (.ifCond .eq 6), 3, 0), (47, (.goto 66), 3, 0), (50, (.iload_n 1), 1, 0), (51, (.iload 4), 2, 0), (53, (.invokestatic 319), 3, 1044), (56, (.istore 5), 2, 0), (58, (.iconst 0), 1, 0), (59, (.istore 6), 2, 0), (61, (.iload 6), 2, 0), (63, (.iconst 1), 1, 0), (64, (.iload 5), 2, 0), (66, .ishl, 1, 0), (67, (.if_icmp .ge 46), 3, 0), (70, (.aload_n 0), 1, 0), (71, (.iload_n 1), 1, 0), (72, (.iload_n 2), 1, 0), (73, (.aload_n 0), 1, 0), (74, (.iload 5), 2, 0), (76, (.iload_n 1), 1, 0), (77, (.iload 6), 2, 0), (79, (.invokevirtual 291), 3, 1028), (82, (.invokevirtual 291), 3, 1028), (85, (.aload_n 0), 1, 0), (86, (.iload 4), 2, 0), (88, (.iload_n 2), 1, 0), (89, (.aload_n 0), 1, 0), (90, (.iload 5), 2, 0), (92, (.iload 4), 2, 0), (94, (.iload 6), 2, 0), (96, (.invokevirtual 291), 3, 1028), (99, (.invokevirtual 291), 3, 1028), (102, (.if_icmp .eq 5), 3, 0), (105, (.iconst 0), 1, 0), (106, .ireturn, 1, 0), (107, (.iinc 6 1), 3, 0), (110, (.goto (-49)), 3, 0), (113, (.iinc 4 (-1)), 3, 0), (116, (.goto (-82)), 3, 0), (119, (.iconst 1), 1, 0), (120, .ireturn, 1, 0)]
def x_M_valueAt : List (Nat × Instr × Nat × Nat) := [(0, (.iconst 0), 1, 0), (1, (.istore 4), 2, 0), (3, (.iload_n 2), 1, 0), (4, (.invokestatic 120), 3, 1004), (7, (.istore 5), 2, 0), (9, (.iload 5), 2, 0), (11, (.ifCond .lt 34), 3, 0), (14, (.aload_n 0), 1, 0), (15, (.iload_n 1), 1, 0), (16, (.iload 4), 2, 0), (18, (.iload_n 3), 1, 0), (19, (.invokevirtual 298), 3, 1032), (22, (.iload_n 2), 1, 0), (23, (.iload 5), 2, 0), (25, (.invokestatic 195), 3, 1010), (28, (.ifCond .eq 7), 3, 0), (31, (.iconst 1), 1, 0), (32, (.goto 4), 3, 0), (35, (.iconst 0), 1, 0), (36, .ixor, 1, 0), (37, (.istore 4), 2, 0), (39, (.iinc 5 (-1)), 3, 0), (42, (.goto (-33)), 3, 0), (45, (.iload 4), 2, 0), (47, .ireturn, 1, 0)]
def x_M_common : List (Nat × Instr × Nat × Nat) := [(0, (.iload_n 0), 1, 0), (1, (.istore_n 2), 1, 0), (2, (.iload_n 1), 1, 0), (3, (.istore_n 3), 1, 0), (4, (.iload_n 3), 1, 0), (5, (.ifCond .le 16), 3, 0), (8, (.iload_n 2), 1, 0), (9, (.iload_n 3), 1, 0), (10, .irem, 1, 0), (11, (.istore 4), 2, 0), (13, (.iload_n 3), 1, 0), (14, (.istore_n 2), 1, 0), (15, (.iload 4), 2, 0), (17, (.istore_n 3), 1, 0), (18, (.goto (-14)), 3, 0), (21, (.iload_n 2), 1, 0), (22, .ireturn, 1, 0)]
def x_M_feed : List (Nat × Instr × Nat × Nat) := [(0, (.aload_n 0), 1, 0), (1, (.getfield 134), 3, 1048), (4, (.bipush 20), 2, 0), (6, .iadd, 1, 0), (7, (.sipush 2000), 3, 0), (10, (.if_icmp .le 5), 3, 0), (13, (.iconst (-1)), 1, 0), (14, .ireturn, 1, 0), (15, (.aload_n 0), 1, 0), (16, (.iload_n 1), 1, 0), (17, (.invokevirtual 137), 3, 1201), (20, (.aload_n 0), 1, 0), (21, (.iload_n 2), 1, 0), (22, (.invokevirtual 137), 3, 1201), (25, (.aload_n 0), 1, 0), (26, (.iload_n 3), 1, 0), (27, (.invokevirtual 137), 3, 1201), (30, (.aload_n 0), 1, 0), (31, (.iload 4), 2, 0), (33, (.invokevirtual 137), 3, 1201), (36, (.aload_n 0), 1, 0), (37, (.iload 5), 2, 0), (39, (.invokevirtual 137), 3, 1201), (42, (.aload_n 0), 1, 0), (43, (.getfield 134), 3, 1048), (46, .ireturn, 1, 0)]
def x_M_lays : List (Nat × Instr × Nat × Nat) := [(0, (.bipush 24), 2, 0), (2, (.istore_n 2), 1, 0), (3, (.iload_n 2), 1, 0), (4, (.ifCond .lt 32), 3, 0), (7, (.aload_n 0), 1, 0), (8, (.getfield 13), 3, 1047), (11, (.aload_n 0), 1, 0), (12, (.getfield 134), 3, 1048), (15, (.iload_n 1), 1, 0), (16, (.iload_n 2), 1, 0), (17, .ishr, 1, 0), (18, .i2b, 1, 0), (19, .bastore, 1, 0), (20, (.aload_n 0), 1, 0), (21, .dup, 1, 0), (22, (.getfield 134), 3, 1048), (25, (.iconst 1), 1, 0), (26, .iadd, 1, 0), (27, (.putfield 134), 3, 1048), (30, (.iinc 2 (-8)), 3, 0), (33, (.goto (-30)), 3, 0), (36, .return_, 1, 0)]
def x_M_back : List (Nat × Instr × Nat × Nat) := [(0, (.iload_n 1), 1, 0), (1, (.ifCond .lt 11), 3, 0), (4, (.iload_n 1), 1, 0), (5, (.aload_n 0), 1, 0), (6, (.getfield 134), 3, 1048), (9, (.if_icmp .le 5), 3, 0), (12, (.iconst (-1)), 1, 0), (13, .ireturn, 1, 0), (14, (.aload_n 0), 1, 0), (15, .dup, 1, 0), (16, (.getfield 134), 3, 1048), (19, (.iload_n 1), 1, 0), (20, .isub, 1, 0), (21, (.putfield 134), 3, 1048), (24, (.aload_n 0), 1, 0), (25, (.getfield 134), 3, 1048), (28, .ireturn, 1, 0)]
def x_M_read : List (Nat × Instr × Nat × Nat) := [(0, (.aload_n 0), 1, 0), (1, (.aload_n 0), 1, 0), (2, (.getfield 134), 3, 1048), (5, (.putfield 141), 3, 1050), (8, (.iconst 0), 1, 0), (9, (.istore_n 1), 1, 0), (10, (.iload_n 1), 1, 0), (11, (.aload_n 0), 1, 0), (12, (.getfield 141), 3, 1050), (15, (.if_icmp .ge 21), 3, 0), (18, (.aload_n 0), 1, 0), (19, (.getfield 17), 3, 1049), (22, (.iload_n 1), 1, 0), (23, (.aload_n 0), 1, 0), (24, (.getfield 13), 3, 1047), (27, (.iload_n 1), 1, 0), (28, .baload, 1, 0), (29, .bastore, 1, 0), (30, (.iinc 1 1), 3, 0), (33, (.goto (-23)), 3, 0), (36, (.aload_n 0), 1, 0), (37, (.iconst 0), 1, 0), (38, (.putfield 134), 3, 1048), (41, (.aload_n 0), 1, 0), (42, (.invokevirtual 215), 3, 1213), (45, (.aload_n 0), 1, 0), (46, (.iconst 0), 1, 0), (47, (.putfield 174), 3, 1057), (50, (.aload_n 0), 1, 0), (51, (.iconst 0), 1, 0), (52, (.putfield 171), 3, 1058), (55, (.aload_n 0), 1, 0), (56, (.iconst 0), 1, 0), (57, (.putfield 180), 3, 1060), (60, (.aload_n 0), 1, 0), (61, (.iconst 0), 1, 0), (62, (.putfield 218), 3, 1066), (65, (.aload_n 0), 1, 0), (66, (.getfield 171), 3, 1058), (69, (.ifCond .ne 18), 3, 0), (72, (.aload_n 0), 1, 0), (73, (.iconst 0), 1, 0), (74, (.invokevirtual 189), 3, 1236), (77, (.ifCond .ne 10), 3, 0), (80, (.aload_n 0), 1, 0), (81, (.invokevirtual 221), 3, 1240), (84, (.goto (-19)), 3, 0), (87, (.aload_n 0), 1, 0), (88, (.getfield 171), 3, 1058), (91, (.ifCond .le 16), 3, 0), (94, (.aload_n 0), 1, 0), (95, (.aload_n 0), 1, 0), (96, (.getfield 177), 3, 1059), (99, (.putfield 37), 3, 1062), (102, (.aload_n 0), 1, 0), (103, (.getfield 171), 3, 1058), (106, .ireturn, 1, 0), (107, (.aload_n 0), 1, 0), (108, (.invokevirtual 224), 3, 1264), (111, (.aload_n 0), 1, 0), (112, (.invokevirtual 227), 3, 1268), (115, (.aload_n 0), 1, 0), (116, (.getfield 180), 3, 1060), (119, (.ifCond .ne 53), 3, 0), (122, (.iconst 1), 1, 0), (123, (.istore_n 1), 1, 0), (124, (.iload_n 1), 1, 0), (125, (.bipush 12), 2, 0), (127, (.if_icmp .gt 21), 3, 0), (130, (.aload_n 0), 1, 0), (131, (.getfield 44), 3, 1064), (134, (.iload_n 1), 1, 0), (135, (.aload_n 0), 1, 0), (136, (.getfield 47), 3, 1065), (139, (.iload_n 1), 1, 0), (140, .iaload, 1, 0), (141, .iastore, 1, 0), (142, (.iinc 1 1), 3, 0), (145, (.goto (-21)), 3, 0), (148, (.aload_n 0), 1, 0), (149, (.invokevirtual 131), 3, 1017), (152, (.aload_n 0), 1, 0), (153, (.invokevirtual 230), 3, 1317), (156, (.istore_n 1), 1, 0), (157, (.iload_n 1), 1, 0), (158, (.ifCond .lt 14), 3, 0), (161, (.aload_n 0), 1, 0), (162, (.bipush 7), 2, 0), (164, (.putfield 180), 3, 1060), (167, (.aload_n 0), 1, 0), (168, (.iload_n 1), 1, 0), (169, (.putfield 183), 3, 1061), (172, (.aload_n 0), 1, 0), (173, (.aload_n 0), 1, 0), (174, (.getfield 180), 3, 1060), (177, (.ifCond .le 10), 3, 0), (180, (.aload_n 0), 1, 0), (181, (.getfield 183), 3, 1061), (184, (.goto 4), 3, 0), (187, (.iconst (-1)), 1, 0), (188, (.putfield 37), 3, 1062), (191, (.aload_n 0), 1, 0), (192, (.getfield 180), 3, 1060), (195, (.ifCond .le 12), 3, 0), (198, (.aload_n 0), 1, 0), (199, (.invokevirtual 234), 3, 1333), (202, (.aload_n 0), 1, 0), (203, (.getfield 180), 3, 1060), (206, .ireturn, 1, 0), (207, (.aload_n 0), 1, 0), (208, (.iconst 0), 1, 0), (209, (.putfield 237), 3, 1087), (212, (.iconst 0), 1, 0), (213, (.istore_n 1), 1, 0), (214, (.iload_n 1), 1, 0), (215, (.iconst 3), 1, 0), (216, (.if_icmp .ge 16), 3, 0), (219, (.aload_n 0), 1, 0), (220, (.getfield 98), 3, 1089), (223, (.iload_n 1), 1, 0), (224, (.iconst 0), 1, 0), (225, .bastore, 1, 0), (226, (.iinc 1 1), 3, 0), (229, (.goto (-15)), 3, 0), (232, (.iconst 0), 1, 0), (233, .ireturn, 1, 0)]
def x_M_cutsText : List (Nat × Instr × Nat × Nat) := [(0, (.aload_n 0), 1, 0), (1, (.iconst 0), 1, 0), (2, (.putfield 150), 3, 1056), (5, (.iconst 0), 1, 0), (6, (.istore_n 1), 1, 0), (7, (.aload_n 0), 1, 0), (8, (.getfield 150), 3, 1056), (11, (.sipush 400), 3, 0), (14, (.if_icmp .gt 275), 3, 0), (17, (.aload_n 0), 1, 0), (18, (.iload_n 1), 1, 0), (19, (.invokevirtual 153), 3, 1217), (22, (.istore_n 2), 1, 0), (23, (.iload_n 1), 1, 0), (24, (.aload_n 0), 1, 0), (25, (.getfield 141), 3, 1050), (28, (.if_icmp .lt 15), 3, 0), (31, (.aload_n 0), 1, 0), (32, (.iconst 0), 1, 0), (33, (.aload_n 0), 1, 0), (34, (.getfield 141), 3, 1050), (37, (.iconst 0), 1, 0), (38, (.lconst 0), 1, 0), (39, (.invokevirtual 156), 3, 1221), (42, .return_, 1, 0), (43, (.iload_n 2), 1, 0), (44, (.bipush 9), 2, 0), (46, (.if_icmp .eq 21), 3, 0), (49, (.iload_n 2), 1, 0), (50, (.bipush 10), 2, 0), (52, (.if_icmp .eq 15), 3, 0), (55, (.iload_n 2), 1, 0), (56, (.bipush 13), 2, 0), (58, (.if_icmp .eq 9), 3, 0), (61, (.iload_n 2), 1, 0), (62, (.bipush 32), 2, 0), (64, (.if_icmp .ne 9), 3, 0), (67, (.iinc 1 1), 3, 0), (70, (.goto 216), 3, 0), (73, (.iload_n 2), 1, 0), (74, (.invokestatic 160), 3, 1225), (77, (.ifCond .eq 118), 3, 0), (80, (.iconst 0), 1, 0), (81, (.istore_n 3), 1, 0), (82, (.lconst 0), 1, 0), (83, (.lstore 4), 2, 0), (85, (.aload_n 0), 1, 0), (86, (.iload_n 1), 1, 0), (87, (.iload_n 3), 1, 0), (88, .iadd, 1, 0), (89, (.invokevirtual 153), 3, 1217), (92, (.invokestatic 160), 3, 1225), (95, (.ifCond .eq 29), 3, 0), (98, (.iload_n 3), 1, 0), (99, (.bipush 8), 2, 0), (101, (.if_icmp .ge 17), 3, 0), (104, (.lload 4), 2, 0), (106, (.aload_n 0), 1, 0), (107, (.iload_n 1), 1, 0), (108, (.iload_n 3), 1, 0), (109, .iadd, 1, 0), (110, (.invokevirtual 153), 3, 1217), (113, (.invokestatic 146), 3, 1000), (116, (.lstore 4), 2, 0), (118, (.iinc 3 1), 3, 0), (121, (.goto (-36)), 3, 0), (124, (.iload_n 3), 1, 0), (125, (.bipush 8), 2, 0), (127, (.if_icmp .le 7), 3, 0), (130, (.iconst 3), 1, 0), (131, (.goto 4), 3, 0), (134, (.iconst 1), 1, 0), (135, (.istore 6), 2, 0), (137, (.iload_n 3), 1, 0), (138, (.bipush 8), 2, 0), (140, (.if_icmp .gt 38), 3, 0), (143, (.iconst 0), 1, 0), (144, (.istore 7), 2, 0), (146, (.iload 7), 2, 0), (148, (.iconst 3), 1, 0), (149, (.if_icmp .ge 29), 3, 0), (152, (.aload_n 0), 1, 0), (153, (.getfield 34), 3, 1055), (156, (.iload 7), 2, 0), (158, .laload, 1, 0), (159, (.lload 4), 2, 0), (161, .lcmp, 1, 0), (162, (.ifCond .ne 10), 3, 0), (165, (.bipush 20), 2, 0), (167, (.iload 7), 2, 0), (169, .iadd, 1, 0), (170, (.istore 6), 2, 0), (172, (.iinc 7 1), 3, 0), (175, (.goto (-29)), 3, 0), (178, (.aload_n 0), 1, 0), (179, (.iload 6), 2, 0), (181, (.iload_n 1), 1, 0), (182, (.iconst 0), 1, 0), (183, (.lload 4), 2, 0), (185, (.invokevirtual 156), 3, 1221), (188, (.iload_n 1), 1, 0), (189, (.iload_n 3), 1, 0), (190, .iadd, 1, 0), (191, (.istore_n 1), 1, 0), (192, (.goto 94), 3, 0), (195, (.iload_n 2), 1, 0), (196, (.invokestatic 164), 3, 1228), (199, (.ifCond .eq 78), 3, 0), (202, (.iconst 0), 1, 0), (203, (.istore_n 3), 1, 0), (204, (.iconst 0), 1, 0), (205, (.istore 4), 2, 0), (207, (.aload_n 0), 1, 0), (208, (.iload_n 1), 1, 0), (209, (.iload_n 3), 1, 0), (210, .iadd, 1, 0), (211, (.invokevirtual 153), 3, 1217), (214, (.invokestatic 164), 3, 1228), (217, (.ifCond .eq 34), 3, 0), (220, (.iload 4), 2, 0), (222, (.ldc 167), 2, 1231), (224, (.if_icmp .ge 21), 3, 0), (227, (.bipush 10), 2, 0), (229, (.iload 4), 2, 0), (231, .imul, 1, 0), (232, (.aload_n 0), 1, 0), (233, (.iload_n 1), 1, 0), (234, (.iload_n 3), 1, 0), (235, .iadd, 1, 0), (236, (.invokevirtual 153), 3, 1217), (239, .iadd, 1, 0), (240, (.bipush 48), 2, 0), (242, .isub, 1, 0), (243, (.istore 4), 2, 0), (245, (.iinc 3 1), 3, 0), (248, (.goto (-41)), 3, 0), (251, (.aload_n 0), 1, 0), (252, (.iload_n 3), 1, 0), (253, (.bipush 13), 2, 0), (255, (.if_icmp .le 7), 3, 0), (258, (.iconst 3), 1, 0), (259, (.goto 4), 3, 0), (262, (.iconst 2), 1, 0), (263, (.iload_n 1), 1, 0), (264, (.iload 4), 2, 0), (266, (.lconst 0), 1, 0), (267, (.invokevirtual 156), 3, 1221), (270, (.iload_n 1), 1, 0), (271, (.iload_n 3), 1, 0), (272, .iadd, 1, 0), (273, (.istore_n 1), 1, 0), (274, (.goto 12), 3, 0), (277, (.iload_n 1), 1, 0), (278, (.aload_n 0), 1, 0), (279, (.iload_n 1), 1, 0), (280, (.iload_n 2), 1, 0), (281, (.invokevirtual 168), 3, 1232), (284, .iadd, 1, 0), (285, (.istore_n 1), 1, 0), (286, (.goto (-279)), 3, 0), (289, .return_, 1, 0)]
def x_M_byteAt : List (Nat × Instr × Nat × Nat) := [(0, (.iload_n 1), 1, 0), (1, (.aload_n 0), 1, 0), (2, (.getfield 141), 3, 1050), (5, (.if_icmp .ge 16), 3, 0), (8, (.aload_n 0), 1, 0), (9, (.getfield 17), 3, 1049), (12, (.iload_n 1), 1, 0), (13, .baload, 1, 0), (14, (.sipush 255), 3, 0), (17, .iand, 1, 0), (18, (.goto 4), 3, 0), (21, (.iconst 0), 1, 0), (22, .ireturn, 1, 0)]
def x_M_token : List (Nat × Instr × Nat × Nat) := [(0, (.aload_n 0), 1, 0), (1, (.getfield 20), 3, 1051), (4, (.aload_n 0), 1, 0), (5, (.getfield 150), 3, 1056), (8, (.iload_n 1), 1, 0), (9, .iastore, 1, 0), (10, (.aload_n 0), 1, 0), (11, (.getfield 24), 3, 1052), (14, (.aload_n 0), 1, 0), (15, (.getfield 150), 3, 1056), (18, (.iload_n 2), 1, 0), (19, .iastore, 1, 0), (20, (.aload_n 0), 1, 0), (21, (.getfield 27), 3, 1053), (24, (.aload_n 0), 1, 0), (25, (.getfield 150), 3, 1056), (28, (.iload_n 3), 1, 0), (29, .iastore, 1, 0), (30, (.aload_n 0), 1, 0), (31, (.getfield 30), 3, 1054), (34, (.aload_n 0), 1, 0), (35, (.getfield 150), 3, 1056), (38, (.lload 4), 2, 0), (40, .lastore, 1, 0), (41, (.aload_n 0), 1, 0), (42, .dup, 1, 0), (43, (.getfield 150), 3, 1056), (46, (.iconst 1), 1, 0), (47, .iadd, 1, 0), (48, (.putfield 150), 3, 1056), (51, .return_, 1, 0)]
def x_M_isLetter : List (Nat × Instr × Nat × Nat) := [(0, (.iload_n 0), 1, 0), (1, (.bipush 97), 2, 0), (3, (.if_icmp .lt 13), 3, 0), (6, (.iload_n 0), 1, 0), (7, (.bipush 122), 2, 0), (9, (.if_icmp .gt 7), 3, 0), (12, (.iconst 1), 1, 0), (13, (.goto 4), 3, 0), (16, (.iconst 0), 1, 0), (17, .ireturn, 1, 0)]
def x_M_isDigit : List (Nat × Instr × Nat × Nat) := [(0, (.iload_n 0), 1, 0), (1, (.bipush 48), 2, 0), (3, (.if_icmp .lt 13), 3, 0), (6, (.iload_n 0), 1, 0), (7, (.bipush 57), 2, 0), (9, (.if_icmp .gt 7), 3, 0), (12, (.iconst 1), 1, 0), (13, (.goto 4), 3, 0), (16, (.iconst 0), 1, 0), (17, .ireturn, 1, 0)]
def x_M_sign : List (Nat × Instr × Nat × Nat) := [(0, (.aload_n 0), 1, 0), (1, (.iload_n 2), 1, 0), (2, (.bipush 59), 2, 0), (4, (.if_icmp .ne 7), 3, 0), (7, (.iconst 4), 1, 0), (8, (.goto 69), 3, 0), (11, (.iload_n 2), 1, 0), (12, (.bipush 43), 2, 0), (14, (.if_icmp .ne 7), 3, 0), (17, (.iconst 5), 1, 0), (18, (.goto 59), 3, 0), (21, (.iload_n 2), 1, 0), (22, (.bipush 42), 2, 0), (24, (.if_icmp .ne 8), 3, 0), (27, (.bipush 6), 2, 0), (29, (.goto 48), 3, 0), (32, (.iload_n 2), 1, 0), (33, (.bipush 47), 2, 0), (35, (.if_icmp .ne 8), 3, 0), (38, (.bipush 7), 2, 0), (40, (.goto 37), 3, 0), (43, (.iload_n 2), 1, 0), (44, (.bipush 94), 2, 0), (46, (.if_icmp .ne 8), 3, 0), (49, (.bipush 8), 2, 0), (51, (.goto 26), 3, 0), (54, (.iload_n 2), 1, 0), (55, (.bipush 40), 2, 0), (57, (.if_icmp .ne 8), 3, 0), (60, (.bipush 9), 2, 0), (62, (.goto 15), 3, 0), (65, (.iload_n 2), 1, 0), (66, (.bipush 41), 2, 0), (68, (.if_icmp .ne 8), 3, 0), (71, (.bipush 10), 2, 0), (73, (.goto 4), 3, 0), (76, (.iconst 3), 1, 0), (77, (.iload_n 1), 1, 0), (78, (.iconst 0), 1, 0), (79, (.lconst 0), 1, 0), (80, (.invokevirtual 156), 3, 1221), (83, (.iconst 1), 1, 0), (84, .ireturn, 1, 0)]
def x_M_is : List (Nat × Instr × Nat × Nat) := [(0, (.aload_n 0), 1, 0), (1, (.getfield 171), 3, 1058), (4, (.ifCond .ne 20), 3, 0), (7, (.aload_n 0), 1, 0), (8, (.getfield 20), 3, 1051), (11, (.aload_n 0), 1, 0), (12, (.getfield 174), 3, 1057), (15, .iaload, 1, 0), (16, (.iload_n 1), 1, 0), (17, (.if_icmp .ne 7), 3, 0), (20, (.iconst 1), 1, 0), (21, (.goto 4), 3, 0), (24, (.iconst 0), 1, 0), (25, .ireturn, 1, 0)]
def x_M_tell : List (Nat × Instr × Nat × Nat) := [(0, (.aload_n 0), 1, 0), (1, (.getfield 20), 3, 1051), (4, (.aload_n 0), 1, 0), (5, (.getfield 174), 3, 1057), (8, .iaload, 1, 0), (9, (.istore_n 1), 1, 0), (10, (.iload_n 1), 1, 0), (11, (.bipush 20), 2, 0), (13, (.if_icmp .eq 15), 3, 0), (16, (.iload_n 1), 1, 0), (17, (.bipush 21), 2, 0), (19, (.if_icmp .eq 9), 3, 0), (22, (.aload_n 0), 1, 0), (23, (.iconst 1), 1, 0), (24, (.invokevirtual 186), 3, 1244), (27, .return_, 1, 0), (28, (.iload_n 1), 1, 0), (29, (.bipush 21), 2, 0), (31, (.if_icmp .ne 18), 3, 0), (34, (.aload_n 0), 1, 0), (35, (.getfield 218), 3, 1066), (38, (.bipush 8), 2, 0), (40, (.if_icmp .ne 9), 3, 0), (43, (.aload_n 0), 1, 0), (44, (.iconst 2), 1, 0), (45, (.invokevirtual 186), 3, 1244), (48, .return_, 1, 0), (49, (.aload_n 0), 1, 0), (50, (.invokevirtual 192), 3, 1248), (53, (.iload_n 1), 1, 0), (54, (.bipush 21), 2, 0), (56, (.if_icmp .ne 30), 3, 0), (59, (.aload_n 0), 1, 0), (60, .dup, 1, 0), (61, (.getfield 218), 3, 1066), (64, (.iconst 1), 1, 0), (65, .iadd, 1, 0), (66, (.putfield 218), 3, 1066), (69, (.aload_n 0), 1, 0), (70, (.iconst 1), 1, 0), (71, (.invokevirtual 240), 3, 1252), (74, (.aload_n 0), 1, 0), (75, (.iconst 2), 1, 0), (76, (.invokevirtual 240), 3, 1252), (79, (.aload_n 0), 1, 0), (80, (.invokevirtual 243), 3, 1256), (83, (.goto 13), 3, 0), (86, (.aload_n 0), 1, 0), (87, (.iconst 2), 1, 0), (88, (.invokevirtual 240), 3, 1252), (91, (.aload_n 0), 1, 0), (92, (.iconst 2), 1, 0), (93, (.invokevirtual 240), 3, 1252), (96, (.aload_n 0), 1, 0), (97, (.iconst 4), 1, 0), (98, (.invokevirtual 240), 3, 1252), (101, .return_, 1, 0)]
def x_M_fail : List (Nat × Instr × Nat × Nat) := [(0, (.aload_n 0), 1, 0), (1, (.getfield 171), 3, 1058), (4, (.ifCond .le 4), 3, 0), (7, .return_, 1, 0), (8, (.aload_n 0), 1, 0), (9, (.iload_n 1), 1, 0), (10, (.putfield 171), 3, 1058), (13, (.aload_n 0), 1, 0), (14, (.aload_n 0), 1, 0), (15, (.getfield 24), 3, 1052), (18, (.aload_n 0), 1, 0), (19, (.getfield 174), 3, 1057), (22, .iaload, 1, 0), (23, (.putfield 177), 3, 1059), (26, .return_, 1, 0)]
def x_M_passes : List (Nat × Instr × Nat × Nat) := [(0, (.aload_n 0), 1, 0), (1, (.getfield 174), 3, 1057), (4, (.sipush 400), 3, 0), (7, (.if_icmp .ne 11), 3, 0), (10, (.aload_n 0), 1, 0), (11, (.iconst 2), 1, 0), (12, (.invokevirtual 186), 3, 1244), (15, (.goto 13), 3, 0), (18, (.aload_n 0), 1, 0), (19, .dup, 1, 0), (20, (.getfield 174), 3, 1057), (23, (.iconst 1), 1, 0), (24, .iadd, 1, 0), (25, (.putfield 174), 3, 1057), (28, .return_, 1, 0)]
def x_M_must : List (Nat × Instr × Nat × Nat) := [(0, (.aload_n 0), 1, 0), (1, (.iload_n 1), 1, 0), (2, (.invokevirtual 189), 3, 1236), (5, (.ifCond .eq 10), 3, 0), (8, (.aload_n 0), 1, 0), (9, (.invokevirtual 192), 3, 1248), (12, (.goto 8), 3, 0), (15, (.aload_n 0), 1, 0), (16, (.iconst 1), 1, 0), (17, (.invokevirtual 186), 3, 1244), (20, .return_, 1, 0)]
def x_M_expression : List (Nat × Instr × Nat × Nat) := [(0, (.iconst 1), 1, 0), (1, (.istore_n 1), 1, 0), (2, (.iconst 0), 1, 0), (3, (.istore_n 2), 1, 0), (4, (.aload_n 0), 1, 0), (5, (.getfield 171), 3, 1058), (8, (.ifCond .ne 146), 3, 0), (11, (.iload_n 1), 1, 0), (12, (.ifCond .eq 36), 3, 0), (15, (.aload_n 0), 1, 0), (16, (.bipush 9), 2, 0), (18, (.invokevirtual 189), 3, 1236), (21, (.ifCond .eq 27), 3, 0), (24, (.iload_n 2), 1, 0), (25, (.bipush 8), 2, 0), (27, (.if_icmp .ne 11), 3, 0), (30, (.aload_n 0), 1, 0), (31, (.iconst 2), 1, 0), (32, (.invokevirtual 186), 3, 1244), (35, (.goto 7), 3, 0), (38, (.aload_n 0), 1, 0), (39, (.invokevirtual 192), 3, 1248), (42, (.iinc 2 1), 3, 0), (45, (.goto (-41)), 3, 0), (48, (.iload_n 1), 1, 0), (49, (.ifCond .eq 49), 3, 0), (52, (.aload_n 0), 1, 0), (53, (.bipush 22), 2, 0), (55, (.invokevirtual 189), 3, 1236), (58, (.ifCond .ne 19), 3, 0), (61, (.aload_n 0), 1, 0), (62, (.iconst 2), 1, 0), (63, (.invokevirtual 189), 3, 1236), (66, (.ifCond .ne 11), 3, 0), (69, (.aload_n 0), 1, 0), (70, (.iconst 1), 1, 0), (71, (.invokevirtual 189), 3, 1236), (74, (.ifCond .eq 10), 3, 0), (77, (.aload_n 0), 1, 0), (78, (.invokevirtual 192), 3, 1248), (81, (.goto 8), 3, 0), (84, (.aload_n 0), 1, 0), (85, (.iconst 1), 1, 0), (86, (.invokevirtual 186), 3, 1244), (89, (.aload_n 0), 1, 0), (90, (.invokevirtual 246), 3, 1260), (93, (.iconst 0), 1, 0), (94, (.istore_n 1), 1, 0), (95, (.goto (-91)), 3, 0), (98, (.aload_n 0), 1, 0), (99, (.iconst 5), 1, 0), (100, (.invokevirtual 189), 3, 1236), (103, (.ifCond .ne 21), 3, 0), (106, (.aload_n 0), 1, 0), (107, (.bipush 6), 2, 0), (109, (.invokevirtual 189), 3, 1236), (112, (.ifCond .ne 12), 3, 0), (115, (.aload_n 0), 1, 0), (116, (.bipush 7), 2, 0), (118, (.invokevirtual 189), 3, 1236), (121, (.ifCond .eq 12), 3, 0), (124, (.aload_n 0), 1, 0), (125, (.invokevirtual 192), 3, 1248), (128, (.iconst 1), 1, 0), (129, (.istore_n 1), 1, 0), (130, (.goto (-126)), 3, 0), (133, (.iload_n 2), 1, 0), (134, (.ifCond .ne 4), 3, 0), (137, .return_, 1, 0), (138, (.aload_n 0), 1, 0), (139, (.bipush 10), 2, 0), (141, (.invokevirtual 240), 3, 1252), (144, (.iinc 2 (-1)), 3, 0), (147, (.aload_n 0), 1, 0), (148, (.invokevirtual 246), 3, 1260), (151, (.goto (-147)), 3, 0), (154, .return_, 1, 0)]
def x_M_maybePower : List (Nat × Instr × Nat × Nat) := [(0, (.aload_n 0), 1, 0), (1, (.bipush 8), 2, 0), (3, (.invokevirtual 189), 3, 1236), (6, (.ifCond .ne 4), 3, 0), (9, .return_, 1, 0), (10, (.aload_n 0), 1, 0), (11, (.invokevirtual 192), 3, 1248), (14, (.aload_n 0), 1, 0), (15, (.iconst 2), 1, 0), (16, (.invokevirtual 240), 3, 1252), (19, .return_, 1, 0)]
def x_M_puts : List (Nat × Instr × Nat × Nat) := [(0, (.iconst 0), 1, 0), (1, (.istore_n 1), 1, 0), (2, (.iload_n 1), 1, 0), (3, (.aload_n 0), 1, 0), (4, (.getfield 206), 3, 1070), (7, (.if_icmp .ge 45), 3, 0), (10, (.aload_n 0), 1, 0), (11, (.getfield 71), 3, 1076), (14, (.iload_n 1), 1, 0), (15, (.aload_n 0), 1, 0), (16, (.getfield 50), 3, 1067), (19, (.iload_n 1), 1, 0), (20, .iaload, 1, 0), (21, .iastore, 1, 0), (22, (.aload_n 0), 1, 0), (23, (.getfield 74), 3, 1077), (26, (.iload_n 1), 1, 0), (27, (.aload_n 0), 1, 0), (28, (.getfield 53), 3, 1068), (31, (.iload_n 1), 1, 0), (32, .iaload, 1, 0), (33, .iastore, 1, 0), (34, (.aload_n 0), 1, 0), (35, (.getfield 77), 3, 1078), (38, (.iload_n 1), 1, 0), (39, (.aload_n 0), 1, 0), (40, (.getfield 56), 3, 1069), (43, (.iload_n 1), 1, 0), (44, .iaload, 1, 0), (45, .iastore, 1, 0), (46, (.iinc 1 1), 3, 0), (49, (.goto (-47)), 3, 0), (52, (.aload_n 0), 1, 0), (53, (.aload_n 0), 1, 0), (54, (.getfield 206), 3, 1070), (57, (.putfield 209), 3, 1081), (60, (.aload_n 0), 1, 0), (61, (.getfield 80), 3, 1079), (64, (.bipush 25), 2, 0), (66, (.aload_n 0), 1, 0), (67, (.getfield 212), 3, 1075), (70, .iastore, 1, 0), (71, (.iconst 0), 1, 0), (72, (.istore_n 1), 1, 0), (73, (.iload_n 1), 1, 0), (74, (.bipush 8), 2, 0), (76, (.if_icmp .ge 51), 3, 0), (79, (.aload_n 0), 1, 0), (80, (.getfield 80), 3, 1079), (83, (.iload_n 1), 1, 0), (84, (.aload_n 0), 1, 0), (85, (.getfield 59), 3, 1071), (88, (.iload_n 1), 1, 0), (89, .iaload, 1, 0), (90, .iastore, 1, 0), (91, (.aload_n 0), 1, 0), (92, (.getfield 80), 3, 1079), (95, (.bipush 8), 2, 0), (97, (.iload_n 1), 1, 0), (98, .iadd, 1, 0), (99, (.aload_n 0), 1, 0), (100, (.getfield 62), 3, 1072), (103, (.iload_n 1), 1, 0), (104, .iaload, 1, 0), (105, .iastore, 1, 0), (106, (.aload_n 0), 1, 0), (107, (.getfield 80), 3, 1079), (110, (.bipush 16), 2, 0), (112, (.iload_n 1), 1, 0), (113, .iadd, 1, 0), (114, (.aload_n 0), 1, 0), (115, (.getfield 65), 3, 1073), (118, (.iload_n 1), 1, 0), (119, .iaload, 1, 0), (120, .iastore, 1, 0), (121, (.iinc 1 1), 3, 0), (124, (.goto (-51)), 3, 0), (127, (.aload_n 0), 1, 0), (128, (.getfield 80), 3, 1079), (131, (.bipush 24), 2, 0), (133, (.aload_n 0), 1, 0), (134, (.getfield 59), 3, 1071), (137, (.bipush 8), 2, 0), (139, .iaload, 1, 0), (140, .iastore, 1, 0), (141, (.iconst 1), 1, 0), (142, (.istore_n 1), 1, 0), (143, (.iload_n 1), 1, 0), (144, (.bipush 12), 2, 0), (146, (.if_icmp .gt 21), 3, 0), (149, (.aload_n 0), 1, 0), (150, (.getfield 83), 3, 1080), (153, (.iload_n 1), 1, 0), (154, (.aload_n 0), 1, 0), (155, (.getfield 44), 3, 1064), (158, (.iload_n 1), 1, 0), (159, .iaload, 1, 0), (160, .iastore, 1, 0), (161, (.iinc 1 1), 3, 0), (164, (.goto (-21)), 3, 0), (167, .return_, 1, 0)]
def x_M_means : List (Nat × Instr × Nat × Nat) := [(0, (.iconst 1), 1, 0), (1, (.istore_n 1), 1, 0), (2, (.iload_n 1), 1, 0), (3, (.bipush 12), 2, 0), (5, (.if_icmp .gt 20), 3, 0), (8, (.aload_n 0), 1, 0), (9, (.getfield 47), 3, 1065), (12, (.iload_n 1), 1, 0), (13, (.aload_n 0), 1, 0), (14, (.iload_n 1), 1, 0), (15, (.invokevirtual 128), 3, 1013), (18, .iastore, 1, 0), (19, (.iinc 1 1), 3, 0), (22, (.goto (-20)), 3, 0), (25, (.aload_n 0), 1, 0), (26, (.iconst 0), 1, 0), (27, (.putfield 206), 3, 1070), (30, (.aload_n 0), 1, 0), (31, (.iconst 0), 1, 0), (32, (.putfield 212), 3, 1075), (35, (.iconst 0), 1, 0), (36, (.istore_n 1), 1, 0), (37, (.iload_n 1), 1, 0), (38, (.aload_n 0), 1, 0), (39, (.getfield 150), 3, 1056), (42, (.if_icmp .ge 60), 3, 0), (45, (.iload_n 1), 1, 0), (46, (.ifCond .le 18), 3, 0), (49, (.aload_n 0), 1, 0), (50, (.getfield 20), 3, 1051), (53, (.iload_n 1), 1, 0), (54, (.iconst 1), 1, 0), (55, .isub, 1, 0), (56, .iaload, 1, 0), (57, (.iconst 4), 1, 0), (58, (.if_icmp .eq 6), 3, 0), (61, (.goto 35), 3, 0), (64, (.aload_n 0), 1, 0), (65, (.getfield 20), 3, 1051), (68, (.iload_n 1), 1, 0), (69, .iaload, 1, 0), (70, (.bipush 20), 2, 0), (72, (.if_icmp .ne 8), 3, 0), (75, (.aload_n 0), 1, 0), (76, (.iload_n 1), 1, 0), (77, (.invokevirtual 249), 3, 1272), (80, (.aload_n 0), 1, 0), (81, (.getfield 20), 3, 1051), (84, (.iload_n 1), 1, 0), (85, .iaload, 1, 0), (86, (.bipush 21), 2, 0), (88, (.if_icmp .ne 8), 3, 0), (91, (.aload_n 0), 1, 0), (92, (.iload_n 1), 1, 0), (93, (.invokevirtual 252), 3, 1294), (96, (.iinc 1 1), 3, 0), (99, (.goto (-62)), 3, 0), (102, .return_, 1, 0)]
def x_M_meansModulus : List (Nat × Instr × Nat × Nat) := [(0, (.aload_n 0), 1, 0), (1, (.getfield 27), 3, 1053), (4, (.iload_n 1), 1, 0), (5, (.iconst 1), 1, 0), (6, .iadd, 1, 0), (7, .iaload, 1, 0), (8, (.istore_n 2), 1, 0), (9, (.iload_n 2), 1, 0), (10, (.invokestatic 203), 3, 1276), (13, (.ifCond .ne 12), 3, 0), (16, (.aload_n 0), 1, 0), (17, (.iconst 5), 1, 0), (18, (.iload_n 1), 1, 0), (19, (.iconst 1), 1, 0), (20, .iadd, 1, 0), (21, (.invokevirtual 255), 3, 1282), (24, .return_, 1, 0), (25, (.aload_n 0), 1, 0), (26, (.iload_n 1), 1, 0), (27, (.iconst 2), 1, 0), (28, .iadd, 1, 0), (29, (.invokevirtual 259), 3, 1286), (32, (.istore_n 3), 1, 0), (33, (.aload_n 0), 1, 0), (34, (.iload_n 3), 1, 0), (35, (.invokevirtual 262), 3, 1290), (38, (.ifCond .eq 11), 3, 0), (41, (.iload_n 3), 1, 0), (42, (.invokestatic 120), 3, 1004), (45, (.iload_n 2), 1, 0), (46, (.if_icmp .eq 14), 3, 0), (49, (.aload_n 0), 1, 0), (50, (.iconst 5), 1, 0), (51, (.iload_n 1), 1, 0), (52, (.iconst 2), 1, 0), (53, .iadd, 1, 0), (54, (.invokevirtual 255), 3, 1282), (57, (.goto 10), 3, 0), (60, (.aload_n 0), 1, 0), (61, (.getfield 47), 3, 1065), (64, (.iload_n 2), 1, 0), (65, (.iload_n 3), 1, 0), (66, .iastore, 1, 0), (67, .return_, 1, 0)]
def x_M_isField : List (Nat × Instr × Nat × Nat) := [(0, (.iload_n 0), 1, 0), (1, (.iconst 1), 1, 0), (2, (.bipush 12), 2, 0), (4, (.invokestatic 199), 3, 1279), (7, .ireturn, 1, 0)]
def x_M_in : List (Nat × Instr × Nat × Nat) := [(0, (.iload_n 0), 1, 0), (1, (.iload_n 1), 1, 0), (2, (.if_icmp .lt 12), 3, 0), (5, (.iload_n 0), 1, 0), (6, (.iload_n 2), 1, 0), (7, (.if_icmp .gt 7), 3, 0), (10, (.iconst 1), 1, 0), (11, (.goto 4), 3, 0), (14, (.iconst 0), 1, 0), (15, .ireturn, 1, 0)]
def x_M_wrong : List (Nat × Instr × Nat × Nat) := [(0, (.aload_n 0), 1, 0), (1, (.getfield 24), 3, 1052), (4, (.iload_n 2), 1, 0), (5, .iaload, 1, 0), (6, (.istore_n 3), 1, 0), (7, (.aload_n 0), 1, 0), (8, (.getfield 171), 3, 1058), (11, (.ifCond .gt 34), 3, 0), (14, (.aload_n 0), 1, 0), (15, (.getfield 180), 3, 1060), (18, (.ifCond .eq 28), 3, 0), (21, (.iload_n 3), 1, 0), (22, (.aload_n 0), 1, 0), (23, (.getfield 183), 3, 1061), (26, (.if_icmp .gt 19), 3, 0), (29, (.iload_n 3), 1, 0), (30, (.aload_n 0), 1, 0), (31, (.getfield 183), 3, 1061), (34, (.if_icmp .ne 12), 3, 0), (37, (.iload_n 1), 1, 0), (38, (.aload_n 0), 1, 0), (39, (.getfield 180), 3, 1060), (42, (.if_icmp .lt 4), 3, 0), (45, .return_, 1, 0), (46, (.aload_n 0), 1, 0), (47, (.iload_n 1), 1, 0), (48, (.putfield 180), 3, 1060), (51, (.aload_n 0), 1, 0), (52, (.iload_n 3), 1, 0), (53, (.putfield 183), 3, 1061), (56, .return_, 1, 0)]
def x_M_rowAt : List (Nat × Instr × Nat × Nat) := [(0, (.iconst 0), 1, 0), (1, (.istore_n 2), 1, 0), (2, (.aload_n 0), 1, 0), (3, (.getfield 24), 3, 1052), (6, (.iload_n 1), 1, 0), (7, .iaload, 1, 0), (8, (.istore_n 3), 1, 0), (9, (.aload_n 0), 1, 0), (10, (.iload_n 3), 1, 0), (11, (.invokevirtual 153), 3, 1217), (14, (.invokestatic 164), 3, 1228), (17, (.ifCond .eq 34), 3, 0), (20, (.aload_n 0), 1, 0), (21, (.iload_n 3), 1, 0), (22, (.invokevirtual 153), 3, 1217), (25, (.bipush 49), 2, 0), (27, (.if_icmp .le 5), 3, 0), (30, (.iconst (-1)), 1, 0), (31, .ireturn, 1, 0), (32, (.iconst 2), 1, 0), (33, (.iload_n 2), 1, 0), (34, .imul, 1, 0), (35, (.aload_n 0), 1, 0), (36, (.iload_n 3), 1, 0), (37, (.invokevirtual 153), 3, 1217), (40, .iadd, 1, 0), (41, (.bipush 48), 2, 0), (43, .isub, 1, 0), (44, (.istore_n 2), 1, 0), (45, (.iinc 3 1), 3, 0), (48, (.goto (-39)), 3, 0), (51, (.iload_n 2), 1, 0), (52, .ireturn, 1, 0)]
def x_M_isWhole : List (Nat × Instr × Nat × Nat) := [(0, (.iload_n 1), 1, 0), (1, (.iconst 2), 1, 0), (2, (.sipush 8191), 3, 0), (5, (.invokestatic 199), 3, 1279), (8, (.ifCond .eq 16), 3, 0), (11, (.aload_n 0), 1, 0), (12, (.getfield 40), 3, 1063), (15, (.iload_n 1), 1, 0), (16, .baload, 1, 0), (17, (.ifCond .ne 7), 3, 0), (20, (.iconst 1), 1, 0), (21, (.goto 4), 3, 0), (24, (.iconst 0), 1, 0), (25, .ireturn, 1, 0)]
def x_M_meansLet : List (Nat × Instr × Nat × Nat) := [(0, (.aload_n 0), 1, 0), (1, (.getfield 27), 3, 1053), (4, (.iload_n 1), 1, 0), (5, (.iconst 2), 1, 0), (6, .iadd, 1, 0), (7, .iaload, 1, 0), (8, (.istore_n 2), 1, 0), (9, (.iload_n 2), 1, 0), (10, (.invokestatic 203), 3, 1276), (13, (.ifCond .ne 11), 3, 0), (16, (.aload_n 0), 1, 0), (17, (.iconst 5), 1, 0), (18, (.iload_n 1), 1, 0), (19, (.iconst 2), 1, 0), (20, .iadd, 1, 0), (21, (.invokevirtual 255), 3, 1282), (24, (.aload_n 0), 1, 0), (25, (.aload_n 0), 1, 0), (26, (.getfield 30), 3, 1054), (29, (.iload_n 1), 1, 0), (30, (.iconst 1), 1, 0), (31, .iadd, 1, 0), (32, .laload, 1, 0), (33, (.invokevirtual 275), 3, 1298), (36, (.ifCond .lt 11), 3, 0), (39, (.aload_n 0), 1, 0), (40, (.iconst 3), 1, 0), (41, (.iload_n 1), 1, 0), (42, (.iconst 1), 1, 0), (43, .iadd, 1, 0), (44, (.invokevirtual 255), 3, 1282), (47, (.aload_n 0), 1, 0), (48, (.getfield 59), 3, 1071), (51, (.aload_n 0), 1, 0), (52, (.getfield 212), 3, 1075), (55, (.aload_n 0), 1, 0), (56, (.getfield 206), 3, 1070), (59, .iastore, 1, 0), (60, (.aload_n 0), 1, 0), (61, (.iconst 0), 1, 0), (62, (.putfield 265), 3, 1083), (65, (.iload_n 1), 1, 0), (66, (.iconst 3), 1, 0), (67, .iadd, 1, 0), (68, (.istore_n 3), 1, 0), (69, (.aload_n 0), 1, 0), (70, (.getfield 20), 3, 1051), (73, (.iload_n 3), 1, 0), (74, .iaload, 1, 0), (75, (.iconst 4), 1, 0), (76, (.if_icmp .eq 15), 3, 0), (79, (.aload_n 0), 1, 0), (80, (.iload_n 3), 1, 0), (81, (.iload_n 2), 1, 0), (82, (.invokevirtual 279), 3, 1302), (85, (.iinc 3 1), 3, 0), (88, (.goto (-19)), 3, 0), (91, (.aload_n 0), 1, 0), (92, (.iconst 1), 1, 0), (93, (.invokevirtual 282), 3, 1310), (96, (.aload_n 0), 1, 0), (97, (.getfield 68), 3, 1074), (100, (.aload_n 0), 1, 0), (101, (.getfield 212), 3, 1075), (104, (.aload_n 0), 1, 0), (105, (.getfield 30), 3, 1054), (108, (.iload_n 1), 1, 0), (109, (.iconst 1), 1, 0), (110, .iadd, 1, 0), (111, .laload, 1, 0), (112, .lastore, 1, 0), (113, (.aload_n 0), 1, 0), (114, (.getfield 62), 3, 1072), (117, (.aload_n 0), 1, 0), (118, (.getfield 212), 3, 1075), (121, (.iload_n 2), 1, 0), (122, .iastore, 1, 0), (123, (.aload_n 0), 1, 0), (124, .dup, 1, 0), (125, (.getfield 212), 3, 1075), (128, (.iconst 1), 1, 0), (129, .iadd, 1, 0), (130, (.putfield 212), 3, 1075), (133, (.aload_n 0), 1, 0), (134, (.getfield 59), 3, 1071), (137, (.aload_n 0), 1, 0), (138, (.getfield 212), 3, 1075), (141, (.aload_n 0), 1, 0), (142, (.getfield 206), 3, 1070), (145, .iastore, 1, 0), (146, .return_, 1, 0)]
def x_M_named : List (Nat × Instr × Nat × Nat) := [(0, (.iconst 0), 1, 0), (1, (.istore_n 3), 1, 0), (2, (.iload_n 3), 1, 0), (3, (.aload_n 0), 1, 0), (4, (.getfield 212), 3, 1075), (7, (.if_icmp .ge 22), 3, 0), (10, (.aload_n 0), 1, 0), (11, (.getfield 68), 3, 1074), (14, (.iload_n 3), 1, 0), (15, .laload, 1, 0), (16, (.lload_n 1), 1, 0), (17, .lcmp, 1, 0), (18, (.ifCond .ne 5), 3, 0), (21, (.iload_n 3), 1, 0), (22, .ireturn, 1, 0), (23, (.iinc 3 1), 3, 0), (26, (.goto (-24)), 3, 0), (29, (.iconst (-1)), 1, 0), (30, .ireturn, 1, 0)]
def x_M_meansToken : List (Nat × Instr × Nat × Nat) := [(0, (.aload_n 0), 1, 0), (1, (.getfield 20), 3, 1051), (4, (.iload_n 1), 1, 0), (5, .iaload, 1, 0), (6, (.tableswitch 335 1 22 #[187, 112, 335, 335, 299, 299, 299, 335, 258, 281, 335, 335, 335, 335, 335, 335, 335, 335, 335, 335, 335, 102]), 102, 0), (108, (.aload_n 0), 1, 0), (109, (.iconst 0), 1, 0), (110, (.iconst 0), 1, 0), (111, (.iconst 0), 1, 0), (112, (.invokevirtual 271), 3, 1306), (115, (.goto 226), 3, 0), (118, (.aload_n 0), 1, 0), (119, (.getfield 20), 3, 1051), (122, (.iload_n 1), 1, 0), (123, (.iconst 1), 1, 0), (124, .isub, 1, 0), (125, .iaload, 1, 0), (126, (.bipush 8), 2, 0), (128, (.if_icmp .ne 37), 3, 0), (131, (.aload_n 0), 1, 0), (132, (.getfield 27), 3, 1053), (135, (.iload_n 1), 1, 0), (136, .iaload, 1, 0), (137, (.sipush 9999), 3, 0), (140, (.if_icmp .le 9), 3, 0), (143, (.aload_n 0), 1, 0), (144, (.iconst 5), 1, 0), (145, (.iload_n 1), 1, 0), (146, (.invokevirtual 255), 3, 1282), (149, (.aload_n 0), 1, 0), (150, (.bipush 6), 2, 0), (152, (.aload_n 0), 1, 0), (153, (.getfield 27), 3, 1053), (156, (.iload_n 1), 1, 0), (157, .iaload, 1, 0), (158, (.iconst 0), 1, 0), (159, (.invokevirtual 271), 3, 1306), (162, (.goto 179), 3, 0), (165, (.aload_n 0), 1, 0), (166, (.iload_n 1), 1, 0), (167, (.invokevirtual 259), 3, 1286), (170, (.ifCond .ge 9), 3, 0), (173, (.aload_n 0), 1, 0), (174, (.iconst 5), 1, 0), (175, (.iload_n 1), 1, 0), (176, (.invokevirtual 255), 3, 1282), (179, (.aload_n 0), 1, 0), (180, (.iconst 1), 1, 0), (181, (.aload_n 0), 1, 0), (182, (.iload_n 1), 1, 0), (183, (.invokevirtual 259), 3, 1286), (186, (.iconst 0), 1, 0), (187, (.invokevirtual 271), 3, 1306), (190, (.goto 151), 3, 0), (193, (.aload_n 0), 1, 0), (194, (.aload_n 0), 1, 0), (195, (.getfield 30), 3, 1054), (198, (.iload_n 1), 1, 0), (199, .laload, 1, 0), (200, (.invokevirtual 275), 3, 1298), (203, (.istore_n 3), 1, 0), (204, (.iload_n 3), 1, 0), (205, (.ifCond .ge 12), 3, 0), (208, (.aload_n 0), 1, 0), (209, (.iconst 4), 1, 0), (210, (.iload_n 1), 1, 0), (211, (.invokevirtual 255), 3, 1282), (214, (.goto 40), 3, 0), (217, (.iload_n 2), 1, 0), (218, (.invokestatic 203), 3, 1276), (221, (.ifCond .eq 33), 3, 0), (224, (.aload_n 0), 1, 0), (225, (.getfield 62), 3, 1072), (228, (.iload_n 3), 1, 0), (229, .iaload, 1, 0), (230, (.invokestatic 203), 3, 1276), (233, (.ifCond .eq 21), 3, 0), (236, (.iload_n 2), 1, 0), (237, (.aload_n 0), 1, 0), (238, (.getfield 62), 3, 1072), (241, (.iload_n 3), 1, 0), (242, .iaload, 1, 0), (243, .irem, 1, 0), (244, (.ifCond .eq 10), 3, 0), (247, (.aload_n 0), 1, 0), (248, (.bipush 6), 2, 0), (250, (.iload_n 1), 1, 0), (251, (.invokevirtual 255), 3, 1282), (254, (.aload_n 0), 1, 0), (255, (.iconst 2), 1, 0), (256, (.iload_n 3), 1, 0), (257, (.iconst 0), 1, 0), (258, (.invokevirtual 271), 3, 1306), (261, (.goto 80), 3, 0), (264, (.aload_n 0), 1, 0), (265, (.getfield 86), 3, 1082), (268, (.aload_n 0), 1, 0), (269, (.getfield 265), 3, 1083), (272, (.iload_n 1), 1, 0), (273, .iastore, 1, 0), (274, (.aload_n 0), 1, 0), (275, .dup, 1, 0), (276, (.getfield 265), 3, 1083), (279, (.iconst 1), 1, 0), (280, .iadd, 1, 0), (281, (.putfield 265), 3, 1083), (284, (.goto 57), 3, 0), (287, (.aload_n 0), 1, 0), (288, (.iconst 1), 1, 0), (289, (.invokevirtual 282), 3, 1310), (292, (.aload_n 0), 1, 0), (293, .dup, 1, 0), (294, (.getfield 265), 3, 1083), (297, (.iconst 1), 1, 0), (298, .isub, 1, 0), (299, (.putfield 265), 3, 1083), (302, (.goto 39), 3, 0), (305, (.aload_n 0), 1, 0), (306, (.aload_n 0), 1, 0), (307, (.getfield 20), 3, 1051), (310, (.iload_n 1), 1, 0), (311, .iaload, 1, 0), (312, (.invokestatic 268), 3, 1314), (315, (.invokevirtual 282), 3, 1310), (318, (.aload_n 0), 1, 0), (319, (.getfield 86), 3, 1082), (322, (.aload_n 0), 1, 0), (323, (.getfield 265), 3, 1083), (326, (.iload_n 1), 1, 0), (327, .iastore, 1, 0), (328, (.aload_n 0), 1, 0), (329, .dup, 1, 0), (330, (.getfield 265), 3, 1083), (333, (.iconst 1), 1, 0), (334, .iadd, 1, 0), (335, (.putfield 265), 3, 1083), (338, (.goto 3), 3, 0), (341, .return_, 1, 0)]
def x_M_step : List (Nat × Instr × Nat × Nat) := [(0, (.aload_n 0), 1, 0), (1, (.getfield 50), 3, 1067), (4, (.aload_n 0), 1, 0), (5, (.getfield 206), 3, 1070), (8, (.iload_n 1), 1, 0), (9, .iastore, 1, 0), (10, (.aload_n 0), 1, 0), (11, (.getfield 53), 3, 1068), (14, (.aload_n 0), 1, 0), (15, (.getfield 206), 3, 1070), (18, (.iload_n 2), 1, 0), (19, .iastore, 1, 0), (20, (.aload_n 0), 1, 0), (21, (.getfield 56), 3, 1069), (24, (.aload_n 0), 1, 0), (25, (.getfield 206), 3, 1070), (28, (.iload_n 3), 1, 0), (29, .iastore, 1, 0), (30, (.aload_n 0), 1, 0), (31, .dup, 1, 0), (32, (.getfield 206), 3, 1070), (35, (.iconst 1), 1, 0), (36, .iadd, 1, 0), (37, (.putfield 206), 3, 1070), (40, .return_, 1, 0)]
def x_M_settles : List (Nat × Instr × Nat × Nat) := [(0, (.aload_n 0), 1, 0), (1, (.getfield 265), 3, 1083), (4, (.ifCond .le 93), 3, 0), (7, (.aload_n 0), 1, 0), (8, (.getfield 20), 3, 1051), (11, (.aload_n 0), 1, 0), (12, (.getfield 86), 3, 1082), (15, (.aload_n 0), 1, 0), (16, (.getfield 265), 3, 1083), (19, (.iconst 1), 1, 0), (20, .isub, 1, 0), (21, .iaload, 1, 0), (22, .iaload, 1, 0), (23, (.invokestatic 268), 3, 1314), (26, (.iload_n 1), 1, 0), (27, (.if_icmp .lt 70), 3, 0), (30, (.aload_n 0), 1, 0), (31, .dup, 1, 0), (32, (.getfield 265), 3, 1083), (35, (.iconst 1), 1, 0), (36, .isub, 1, 0), (37, (.putfield 265), 3, 1083), (40, (.aload_n 0), 1, 0), (41, (.getfield 20), 3, 1051), (44, (.aload_n 0), 1, 0), (45, (.getfield 86), 3, 1082), (48, (.aload_n 0), 1, 0), (49, (.getfield 265), 3, 1083), (52, .iaload, 1, 0), (53, .iaload, 1, 0), (54, (.istore_n 2), 1, 0), (55, (.aload_n 0), 1, 0), (56, (.iload_n 2), 1, 0), (57, (.iconst 5), 1, 0), (58, (.if_icmp .ne 7), 3, 0), (61, (.iconst 3), 1, 0), (62, (.goto 14), 3, 0), (65, (.iload_n 2), 1, 0), (66, (.bipush 6), 2, 0), (68, (.if_icmp .ne 7), 3, 0), (71, (.iconst 4), 1, 0), (72, (.goto 4), 3, 0), (75, (.iconst 5), 1, 0), (76, (.iconst 0), 1, 0), (77, (.aload_n 0), 1, 0), (78, (.getfield 24), 3, 1052), (81, (.aload_n 0), 1, 0), (82, (.getfield 86), 3, 1082), (85, (.aload_n 0), 1, 0), (86, (.getfield 265), 3, 1083), (89, .iaload, 1, 0), (90, .iaload, 1, 0), (91, (.invokevirtual 271), 3, 1306), (94, (.goto (-94)), 3, 0), (97, .return_, 1, 0)]
def x_M_rank : List (Nat × Instr × Nat × Nat) := [(0, (.iload_n 0), 1, 0), (1, (.iconst 5), 1, 0), (2, (.if_icmp .ne 7), 3, 0), (5, (.iconst 1), 1, 0), (6, (.goto 20), 3, 0), (9, (.iload_n 0), 1, 0), (10, (.bipush 6), 2, 0), (12, (.if_icmp .eq 9), 3, 0), (15, (.iload_n 0), 1, 0), (16, (.bipush 7), 2, 0), (18, (.if_icmp .ne 7), 3, 0), (21, (.iconst 2), 1, 0), (22, (.goto 4), 3, 0), (25, (.iconst 0), 1, 0), (26, .ireturn, 1, 0)]
def x_M_works : List (Nat × Instr × Nat × Nat) := [(0, (.iconst 0), 1, 0), (1, (.istore_n 1), 1, 0), (2, (.iload_n 1), 1, 0), (3, (.aload_n 0), 1, 0), (4, (.getfield 212), 3, 1075), (7, (.if_icmp .ge 21), 3, 0), (10, (.aload_n 0), 1, 0), (11, (.iload_n 1), 1, 0), (12, (.invokevirtual 285), 3, 1321), (15, (.istore_n 2), 1, 0), (16, (.iload_n 2), 1, 0), (17, (.ifCond .lt 5), 3, 0), (20, (.iload_n 2), 1, 0), (21, .ireturn, 1, 0), (22, (.iinc 1 1), 3, 0), (25, (.goto (-23)), 3, 0), (28, (.iconst (-1)), 1, 0), (29, .ireturn, 1, 0)]
def x_M_worksOne : List (Nat × Instr × Nat × Nat) := [(0, (.aload_n 0), 1, 0), (1, (.getfield 62), 3, 1072), (4, (.iload_n 1), 1, 0), (5, .iaload, 1, 0), (6, (.istore_n 2), 1, 0), (7, (.iconst 0), 1, 0), (8, (.istore_n 3), 1, 0), (9, (.aload_n 0), 1, 0), (10, (.getfield 59), 3, 1071), (13, (.iload_n 1), 1, 0), (14, .iaload, 1, 0), (15, (.istore 4), 2, 0), (17, (.iload 4), 2, 0), (19, (.aload_n 0), 1, 0), (20, (.getfield 59), 3, 1071), (23, (.iload_n 1), 1, 0), (24, (.iconst 1), 1, 0), (25, .iadd, 1, 0), (26, .iaload, 1, 0), (27, (.if_icmp .ge 278), 3, 0), (30, (.aload_n 0), 1, 0), (31, (.getfield 53), 3, 1068), (34, (.iload 4), 2, 0), (36, .iaload, 1, 0), (37, (.istore 5), 2, 0), (39, (.aload_n 0), 1, 0), (40, (.getfield 50), 3, 1067), (43, (.iload 4), 2, 0), (45, .iaload, 1, 0), (46, (.tableswitch 144 0 6 #[42, 64, 87, 144, 144, 144, 118]), 42, 0), (88, (.aload_n 0), 1, 0), (89, (.getfield 89), 3, 1084), (92, (.iload_n 3), 1, 0), (93, (.iconst 2), 1, 0), (94, (.aload_n 0), 1, 0), (95, (.getfield 44), 3, 1064), (98, (.iload_n 2), 1, 0), (99, .iaload, 1, 0), (100, (.invokestatic 288), 3, 1021), (103, .iastore, 1, 0), (104, (.iinc 3 1), 3, 0), (107, (.goto 192), 3, 0), (110, (.aload_n 0), 1, 0), (111, (.getfield 89), 3, 1084), (114, (.iload_n 3), 1, 0), (115, (.iload 5), 2, 0), (117, (.aload_n 0), 1, 0), (118, (.getfield 44), 3, 1064), (121, (.iload_n 2), 1, 0), (122, .iaload, 1, 0), (123, (.invokestatic 288), 3, 1021), (126, .iastore, 1, 0), (127, (.iinc 3 1), 3, 0), (130, (.goto 169), 3, 0), (133, (.aload_n 0), 1, 0), (134, (.getfield 89), 3, 1084), (137, (.iload_n 3), 1, 0), (138, (.aload_n 0), 1, 0), (139, (.aload_n 0), 1, 0), (140, (.getfield 62), 3, 1072), (143, (.iload 5), 2, 0), (145, .iaload, 1, 0), (146, (.iload_n 2), 1, 0), (147, (.aload_n 0), 1, 0), (148, (.getfield 65), 3, 1073), (151, (.iload 5), 2, 0), (153, .iaload, 1, 0), (154, (.invokevirtual 291), 3, 1028), (157, .iastore, 1, 0), (158, (.iinc 3 1), 3, 0), (161, (.goto 138), 3, 0), (164, (.aload_n 0), 1, 0), (165, (.getfield 89), 3, 1084), (168, (.iload_n 3), 1, 0), (169, (.iconst 1), 1, 0), (170, .isub, 1, 0), (171, (.aload_n 0), 1, 0), (172, (.iload_n 2), 1, 0), (173, (.aload_n 0), 1, 0), (174, (.getfield 89), 3, 1084), (177, (.iload_n 3), 1, 0), (178, (.iconst 1), 1, 0), (179, .isub, 1, 0), (180, .iaload, 1, 0), (181, (.iload 5), 2, 0), (183, (.invokevirtual 295), 3, 1325), (186, .iastore, 1, 0), (187, (.goto 112), 3, 0), (190, (.iinc 3 (-1)), 3, 0), (193, (.aload_n 0), 1, 0), (194, (.getfield 89), 3, 1084), (197, (.iload_n 3), 1, 0), (198, (.iconst 1), 1, 0), (199, .isub, 1, 0), (200, .iaload, 1, 0), (201, (.istore 6), 2, 0), (203, (.aload_n 0), 1, 0), (204, (.getfield 89), 3, 1084), (207, (.iload_n 3), 1, 0), (208, .iaload, 1, 0), (209, (.istore 7), 2, 0), (211, (.aload_n 0), 1, 0), (212, (.getfield 50), 3, 1067), (215, (.iload 4), 2, 0), (217, .iaload, 1, 0), (218, (.iconst 5), 1, 0), (219, (.if_icmp .ne 16), 3, 0), (222, (.iload 7), 2, 0), (224, (.ifCond .ne 11), 3, 0), (227, (.aload_n 0), 1, 0), (228, (.getfield 56), 3, 1069), (231, (.iload 4), 2, 0), (233, .iaload, 1, 0), (234, .ireturn, 1, 0), (235, (.aload_n 0), 1, 0), (236, (.getfield 89), 3, 1084), (239, (.iload_n 3), 1, 0), (240, (.iconst 1), 1, 0), (241, .isub, 1, 0), (242, (.aload_n 0), 1, 0), (243, (.getfield 50), 3, 1067), (246, (.iload 4), 2, 0), (248, .iaload, 1, 0), (249, (.iconst 3), 1, 0), (250, (.if_icmp .ne 11), 3, 0), (253, (.iload 6), 2, 0), (255, (.iload 7), 2, 0), (257, .ixor, 1, 0), (258, (.goto 40), 3, 0), (261, (.aload_n 0), 1, 0), (262, (.getfield 50), 3, 1067), (265, (.iload 4), 2, 0), (267, .iaload, 1, 0), (268, (.iconst 4), 1, 0), (269, (.if_icmp .ne 15), 3, 0), (272, (.aload_n 0), 1, 0), (273, (.iload_n 2), 1, 0), (274, (.iload 6), 2, 0), (276, (.iload 7), 2, 0), (278, (.invokevirtual 298), 3, 1032), (281, (.goto 17), 3, 0), (284, (.aload_n 0), 1, 0), (285, (.iload_n 2), 1, 0), (286, (.iload 6), 2, 0), (288, (.aload_n 0), 1, 0), (289, (.iload_n 2), 1, 0), (290, (.iload 7), 2, 0), (292, (.invokevirtual 301), 3, 1329), (295, (.invokevirtual 298), 3, 1032), (298, .iastore, 1, 0), (299, (.iinc 4 1), 3, 0), (302, (.goto (-285)), 3, 0), (305, (.aload_n 0), 1, 0), (306, (.getfield 65), 3, 1073), (309, (.iload_n 1), 1, 0), (310, (.aload_n 0), 1, 0), (311, (.getfield 89), 3, 1084), (314, (.iconst 0), 1, 0), (315, .iaload, 1, 0), (316, .iastore, 1, 0), (317, (.iconst (-1)), 1, 0), (318, .ireturn, 1, 0)]
def x_M_powered : List (Nat × Instr × Nat × Nat) := [(0, (.iconst 1), 1, 0), (1, (.istore 4), 2, 0), (3, (.iload_n 2), 1, 0), (4, (.istore 5), 2, 0), (6, (.iload_n 3), 1, 0), (7, (.istore 6), 2, 0), (9, (.iload 6), 2, 0), (11, (.ifCond .le 43), 3, 0), (14, (.iload 6), 2, 0), (16, (.iconst 0), 1, 0), (17, (.invokestatic 195), 3, 1010), (20, (.ifCond .eq 14), 3, 0), (23, (.aload_n 0), 1, 0), (24, (.iload_n 1), 1, 0), (25, (.iload 4), 2, 0), (27, (.iload 5), 2, 0), (29, (.invokevirtual 298), 3, 1032), (32, (.istore 4), 2, 0), (34, (.aload_n 0), 1, 0), (35, (.iload_n 1), 1, 0), (36, (.iload 5), 2, 0), (38, (.iload 5), 2, 0), (40, (.invokevirtual 298), 3, 1032), (43, (.istore 5), 2, 0), (45, (.iload 6), 2, 0), (47, (.iconst 1), 1, 0), (48, .ishr, 1, 0), (49, (.istore 6), 2, 0), (51, (.goto (-42)), 3, 0), (54, (.iload 4), 2, 0), (56, .ireturn, 1, 0)]
def x_M_inverse : List (Nat × Instr × Nat × Nat) := [(0, (.aload_n 0), 1, 0), (1, (.iload_n 1), 1, 0), (2, (.iload_n 2), 1, 0), (3, (.iconst 1), 1, 0), (4, (.iload_n 1), 1, 0), (5, .ishl, 1, 0), (6, (.iconst 2), 1, 0), (7, .isub, 1, 0), (8, (.invokevirtual 295), 3, 1325), (11, .ireturn, 1, 0)]
def x_M_takes : List (Nat × Instr × Nat × Nat) := [(0, (.aload_n 0), 1, 0), (1, (.aload_n 0), 1, 0), (2, (.getfield 209), 3, 1081), (5, (.putfield 206), 3, 1070), (8, (.iconst 0), 1, 0), (9, (.istore_n 1), 1, 0), (10, (.iload_n 1), 1, 0), (11, (.aload_n 0), 1, 0), (12, (.getfield 206), 3, 1070), (15, (.if_icmp .ge 45), 3, 0), (18, (.aload_n 0), 1, 0), (19, (.getfield 50), 3, 1067), (22, (.iload_n 1), 1, 0), (23, (.aload_n 0), 1, 0), (24, (.getfield 71), 3, 1076), (27, (.iload_n 1), 1, 0), (28, .iaload, 1, 0), (29, .iastore, 1, 0), (30, (.aload_n 0), 1, 0), (31, (.getfield 53), 3, 1068), (34, (.iload_n 1), 1, 0), (35, (.aload_n 0), 1, 0), (36, (.getfield 74), 3, 1077), (39, (.iload_n 1), 1, 0), (40, .iaload, 1, 0), (41, .iastore, 1, 0), (42, (.aload_n 0), 1, 0), (43, (.getfield 56), 3, 1069), (46, (.iload_n 1), 1, 0), (47, (.aload_n 0), 1, 0), (48, (.getfield 77), 3, 1078), (51, (.iload_n 1), 1, 0), (52, .iaload, 1, 0), (53, .iastore, 1, 0), (54, (.iinc 1 1), 3, 0), (57, (.goto (-47)), 3, 0), (60, (.aload_n 0), 1, 0), (61, (.aload_n 0), 1, 0), (62, (.getfield 80), 3, 1079), (65, (.bipush 25), 2, 0), (67, .iaload, 1, 0), (68, (.putfield 212), 3, 1075), (71, (.iconst 0), 1, 0), (72, (.istore_n 1), 1, 0), (73, (.iload_n 1), 1, 0), (74, (.bipush 8), 2, 0), (76, (.if_icmp .ge 51), 3, 0), (79, (.aload_n 0), 1, 0), (80, (.getfield 59), 3, 1071), (83, (.iload_n 1), 1, 0), (84, (.aload_n 0), 1, 0), (85, (.getfield 80), 3, 1079), (88, (.iload_n 1), 1, 0), (89, .iaload, 1, 0), (90, .iastore, 1, 0), (91, (.aload_n 0), 1, 0), (92, (.getfield 62), 3, 1072), (95, (.iload_n 1), 1, 0), (96, (.aload_n 0), 1, 0), (97, (.getfield 80), 3, 1079), (100, (.bipush 8), 2, 0), (102, (.iload_n 1), 1, 0), (103, .iadd, 1, 0), (104, .iaload, 1, 0), (105, .iastore, 1, 0), (106, (.aload_n 0), 1, 0), (107, (.getfield 65), 3, 1073), (110, (.iload_n 1), 1, 0), (111, (.aload_n 0), 1, 0), (112, (.getfield 80), 3, 1079), (115, (.bipush 16), 2, 0), (117, (.iload_n 1), 1, 0), (118, .iadd, 1, 0), (119, .iaload, 1, 0), (120, .iastore, 1, 0), (121, (.iinc 1 1), 3, 0), (124, (.goto (-51)), 3, 0), (127, (.aload_n 0), 1, 0), (128, (.getfield 59), 3, 1071), (131, (.bipush 8), 2, 0), (133, (.aload_n 0), 1, 0), (134, (.getfield 80), 3, 1079), (137, (.bipush 24), 2, 0), (139, .iaload, 1, 0), (140, .iastore, 1, 0), (141, (.iconst 1), 1, 0), (142, (.istore_n 1), 1, 0), (143, (.iload_n 1), 1, 0), (144, (.bipush 12), 2, 0), (146, (.if_icmp .gt 21), 3, 0), (149, (.aload_n 0), 1, 0), (150, (.getfield 44), 3, 1064), (153, (.iload_n 1), 1, 0), (154, (.aload_n 0), 1, 0), (155, (.getfield 83), 3, 1080), (158, (.iload_n 1), 1, 0), (159, .iaload, 1, 0), (160, .iastore, 1, 0), (161, (.iinc 1 1), 3, 0), (164, (.goto (-21)), 3, 0), (167, (.aload_n 0), 1, 0), (168, (.invokevirtual 131), 3, 1017), (171, .return_, 1, 0)]
def x_M_place : List (Nat × Instr × Nat × Nat) := [(0, (.aload_n 0), 1, 0), (1, (.getfield 37), 3, 1062), (4, .ireturn, 1, 0)]
def x_M_change : List (Nat × Instr × Nat × Nat) := [(0, (.iload_n 1), 1, 0), (1, (.invokestatic 203), 3, 1276), (4, (.ifCond .eq 29), 3, 0), (7, (.aload_n 0), 1, 0), (8, (.iload_n 2), 1, 0), (9, (.invokevirtual 262), 3, 1290), (12, (.ifCond .eq 21), 3, 0), (15, (.iload_n 2), 1, 0), (16, (.invokestatic 120), 3, 1004), (19, (.iload_n 1), 1, 0), (20, (.if_icmp .ne 13), 3, 0), (23, (.iload_n 2), 1, 0), (24, (.aload_n 0), 1, 0), (25, (.getfield 44), 3, 1064), (28, (.iload_n 1), 1, 0), (29, .iaload, 1, 0), (30, (.if_icmp .ne 5), 3, 0), (33, (.iconst 0), 1, 0), (34, .ireturn, 1, 0), (35, (.aload_n 0), 1, 0), (36, (.getfield 44), 3, 1064), (39, (.iload_n 1), 1, 0), (40, .iaload, 1, 0), (41, (.istore_n 3), 1, 0), (42, (.aload_n 0), 1, 0), (43, (.getfield 44), 3, 1064), (46, (.iload_n 1), 1, 0), (47, (.iload_n 2), 1, 0), (48, .iastore, 1, 0), (49, (.aload_n 0), 1, 0), (50, (.invokevirtual 131), 3, 1017), (53, (.aload_n 0), 1, 0), (54, (.invokevirtual 230), 3, 1317), (57, (.ifCond .lt 22), 3, 0), (60, (.aload_n 0), 1, 0), (61, (.getfield 44), 3, 1064), (64, (.iload_n 1), 1, 0), (65, (.iload_n 3), 1, 0), (66, .iastore, 1, 0), (67, (.aload_n 0), 1, 0), (68, (.invokevirtual 131), 3, 1017), (71, (.aload_n 0), 1, 0), (72, (.invokevirtual 230), 3, 1317), (75, (.istore 4), 2, 0), (77, (.iconst 0), 1, 0), (78, .ireturn, 1, 0), (79, (.aload_n 0), 1, 0), (80, (.getfield 237), 3, 1087), (83, (.bipush 30), 2, 0), (85, (.if_icmp .ne 26), 3, 0), (88, (.aload_n 0), 1, 0), (89, (.aload_n 0), 1, 0), (90, (.getfield 304), 3, 1086), (93, (.iconst 1), 1, 0), (94, .iadd, 1, 0), (95, (.bipush 30), 2, 0), (97, .irem, 1, 0), (98, (.putfield 304), 3, 1086), (101, (.aload_n 0), 1, 0), (102, .dup, 1, 0), (103, (.getfield 237), 3, 1087), (106, (.iconst 1), 1, 0), (107, .isub, 1, 0), (108, (.putfield 237), 3, 1087), (111, (.bipush 13), 2, 0), (113, (.aload_n 0), 1, 0), (114, (.getfield 304), 3, 1086), (117, (.aload_n 0), 1, 0), (118, (.getfield 237), 3, 1087), (121, .iadd, 1, 0), (122, (.bipush 30), 2, 0), (124, .irem, 1, 0), (125, .imul, 1, 0), (126, (.istore 4), 2, 0), (128, (.iconst 1), 1, 0), (129, (.istore 5), 2, 0), (131, (.iload 5), 2, 0), (133, (.bipush 12), 2, 0), (135, (.if_icmp .gt 36), 3, 0), (138, (.aload_n 0), 1, 0), (139, (.getfield 92), 3, 1085), (142, (.iload 4), 2, 0), (144, (.iload 5), 2, 0), (146, .iadd, 1, 0), (147, (.iload 5), 2, 0), (149, (.iload_n 1), 1, 0), (150, (.if_icmp .ne 7), 3, 0), (153, (.iload_n 3), 1, 0), (154, (.goto 10), 3, 0), (157, (.aload_n 0), 1, 0), (158, (.getfield 44), 3, 1064), (161, (.iload 5), 2, 0), (163, .iaload, 1, 0), (164, .iastore, 1, 0), (165, (.iinc 5 1), 3, 0), (168, (.goto (-37)), 3, 0), (171, (.aload_n 0), 1, 0), (172, .dup, 1, 0), (173, (.getfield 237), 3, 1087), (176, (.iconst 1), 1, 0), (177, .iadd, 1, 0), (178, (.putfield 237), 3, 1087), (181, (.iconst 1), 1, 0), (182, .ireturn, 1, 0)]
def x_M_undo : List (Nat × Instr × Nat × Nat) := [(0, (.aload_n 0), 1, 0), (1, (.getfield 237), 3, 1087), (4, (.ifCond .ne 5), 3, 0), (7, (.iconst 0), 1, 0), (8, .ireturn, 1, 0), (9, (.aload_n 0), 1, 0), (10, .dup, 1, 0), (11, (.getfield 237), 3, 1087), (14, (.iconst 1), 1, 0), (15, .isub, 1, 0), (16, (.putfield 237), 3, 1087), (19, (.aload_n 0), 1, 0), (20, (.aload_n 0), 1, 0), (21, (.getfield 92), 3, 1085), (24, (.bipush 13), 2, 0), (26, (.aload_n 0), 1, 0), (27, (.getfield 304), 3, 1086), (30, (.aload_n 0), 1, 0), (31, (.getfield 237), 3, 1087), (34, .iadd, 1, 0), (35, (.bipush 30), 2, 0), (37, .irem, 1, 0), (38, .imul, 1, 0), (39, (.invokevirtual 307), 3, 1349), (42, (.iconst 1), 1, 0), (43, .ireturn, 1, 0)]
def x_M_lays2 : List (Nat × Instr × Nat × Nat) := [(0, (.iconst 1), 1, 0), (1, (.istore_n 3), 1, 0), (2, (.iload_n 3), 1, 0), (3, (.bipush 12), 2, 0), (5, (.if_icmp .gt 20), 3, 0), (8, (.aload_n 0), 1, 0), (9, (.getfield 44), 3, 1064), (12, (.iload_n 3), 1, 0), (13, (.aload_n 1), 1, 0), (14, (.iload_n 2), 1, 0), (15, (.iload_n 3), 1, 0), (16, .iadd, 1, 0), (17, .iaload, 1, 0), (18, .iastore, 1, 0), (19, (.iinc 3 1), 3, 0), (22, (.goto (-20)), 3, 0), (25, (.aload_n 0), 1, 0), (26, (.invokevirtual 131), 3, 1017), (29, (.aload_n 0), 1, 0), (30, (.invokevirtual 230), 3, 1317), (33, (.istore_n 3), 1, 0), (34, .return_, 1, 0)]
def x_M_hold : List (Nat × Instr × Nat × Nat) := [(0, (.iload_n 1), 1, 0), (1, (.iconst 0), 1, 0), (2, (.iconst 2), 1, 0), (3, (.invokestatic 199), 3, 1279), (6, (.ifCond .ne 5), 3, 0), (9, (.iconst 0), 1, 0), (10, .ireturn, 1, 0), (11, (.iconst 1), 1, 0), (12, (.istore_n 2), 1, 0), (13, (.iload_n 2), 1, 0), (14, (.bipush 12), 2, 0), (16, (.if_icmp .gt 26), 3, 0), (19, (.aload_n 0), 1, 0), (20, (.getfield 95), 3, 1088), (23, (.bipush 13), 2, 0), (25, (.iload_n 1), 1, 0), (26, .imul, 1, 0), (27, (.iload_n 2), 1, 0), (28, .iadd, 1, 0), (29, (.aload_n 0), 1, 0), (30, (.getfield 44), 3, 1064), (33, (.iload_n 2), 1, 0), (34, .iaload, 1, 0), (35, .iastore, 1, 0), (36, (.iinc 2 1), 3, 0), (39, (.goto (-26)), 3, 0), (42, (.aload_n 0), 1, 0), (43, (.getfield 98), 3, 1089), (46, (.iload_n 1), 1, 0), (47, (.iconst 1), 1, 0), (48, .bastore, 1, 0), (49, (.iconst 1), 1, 0), (50, .ireturn, 1, 0)]
def x_M_restore : List (Nat × Instr × Nat × Nat) := [(0, (.iload_n 1), 1, 0), (1, (.iconst 0), 1, 0), (2, (.iconst 2), 1, 0), (3, (.invokestatic 199), 3, 1279), (6, (.ifCond .eq 12), 3, 0), (9, (.aload_n 0), 1, 0), (10, (.getfield 98), 3, 1089), (13, (.iload_n 1), 1, 0), (14, .baload, 1, 0), (15, (.ifCond .ne 5), 3, 0), (18, (.iconst 0), 1, 0), (19, .ireturn, 1, 0), (20, (.aload_n 0), 1, 0), (21, (.aload_n 0), 1, 0), (22, (.getfield 95), 3, 1088), (25, (.bipush 13), 2, 0), (27, (.iload_n 1), 1, 0), (28, .imul, 1, 0), (29, (.invokevirtual 307), 3, 1349), (32, (.aload_n 0), 1, 0), (33, (.iconst 0), 1, 0), (34, (.putfield 237), 3, 1087), (37, (.iconst 1), 1, 0), (38, .ireturn, 1, 0)]
def x_M_modulus : List (Nat × Instr × Nat × Nat) := [(0, (.iload_n 1), 1, 0), (1, (.invokestatic 203), 3, 1276), (4, (.ifCond .eq 12), 3, 0), (7, (.aload_n 0), 1, 0), (8, (.getfield 44), 3, 1064), (11, (.iload_n 1), 1, 0), (12, .iaload, 1, 0), (13, (.goto 4), 3, 0), (16, (.iconst (-1)), 1, 0), (17, .ireturn, 1, 0)]
def x_M_whole : List (Nat × Instr × Nat × Nat) := [(0, (.iload_n 1), 1, 0), (1, (.iconst 2), 1, 0), (2, (.sipush 8191), 3, 0), (5, (.invokestatic 199), 3, 1279), (8, (.ifCond .eq 20), 3, 0), (11, (.aload_n 0), 1, 0), (12, (.getfield 40), 3, 1063), (15, (.iload_n 1), 1, 0), (16, .baload, 1, 0), (17, (.ifCond .eq 7), 3, 0), (20, (.iconst 0), 1, 0), (21, (.goto 8), 3, 0), (24, (.iconst 1), 1, 0), (25, (.goto 4), 3, 0), (28, (.iconst (-1)), 1, 0), (29, .ireturn, 1, 0)]
def x_M_next : List (Nat × Instr × Nat × Nat) := [(0, (.iload_n 1), 1, 0), (1, (.ifCond .lt 10), 3, 0), (4, (.iload_n 1), 1, 0), (5, (.sipush 8192), 3, 0), (8, (.if_icmp .lt 5), 3, 0), (11, (.iconst (-1)), 1, 0), (12, .ireturn, 1, 0), (13, (.iload_n 1), 1, 0), (14, (.iconst 1), 1, 0), (15, .iadd, 1, 0), (16, (.istore_n 2), 1, 0), (17, (.iload_n 2), 1, 0), (18, (.sipush 8192), 3, 0), (21, (.if_icmp .ge 19), 3, 0), (24, (.aload_n 0), 1, 0), (25, (.iload_n 2), 1, 0), (26, (.invokevirtual 262), 3, 1290), (29, (.ifCond .eq 5), 3, 0), (32, (.iload_n 2), 1, 0), (33, .ireturn, 1, 0), (34, (.iinc 2 1), 3, 0), (37, (.goto (-20)), 3, 0), (40, (.iconst (-1)), 1, 0), (41, .ireturn, 1, 0)]
def x_M_wholes : List (Nat × Instr × Nat × Nat) := [(0, (.iload_n 1), 1, 0), (1, (.invokestatic 203), 3, 1276), (4, (.ifCond .ne 5), 3, 0), (7, (.iconst (-1)), 1, 0), (8, .ireturn, 1, 0), (9, (.iconst 0), 1, 0), (10, (.istore_n 2), 1, 0), (11, (.iconst 1), 1, 0), (12, (.iload_n 1), 1, 0), (13, .ishl, 1, 0), (14, (.istore_n 3), 1, 0), (15, (.iload_n 3), 1, 0), (16, (.iconst 2), 1, 0), (17, (.iload_n 1), 1, 0), (18, .ishl, 1, 0), (19, (.if_icmp .ge 21), 3, 0), (22, (.aload_n 0), 1, 0), (23, (.getfield 40), 3, 1063), (26, (.iload_n 3), 1, 0), (27, .baload, 1, 0), (28, (.ifCond .ne 6), 3, 0), (31, (.iinc 2 1), 3, 0), (34, (.iinc 3 1), 3, 0), (37, (.goto (-22)), 3, 0), (40, (.iload_n 2), 1, 0), (41, .ireturn, 1, 0)]
def x_M_factor : List (Nat × Instr × Nat × Nat) := [(0, (.iload_n 1), 1, 0), (1, (.iconst 2), 1, 0), (2, (.sipush 8191), 3, 0), (5, (.invokestatic 199), 3, 1279), (8, (.ifCond .ne 5), 3, 0), (11, (.iconst (-1)), 1, 0), (12, .ireturn, 1, 0), (13, (.iload_n 1), 1, 0), (14, (.istore_n 3), 1, 0), (15, (.iconst 0), 1, 0), (16, (.istore 4), 2, 0), (18, (.iconst 2), 1, 0), (19, (.istore 5), 2, 0), (21, (.iload 5), 2, 0), (23, (.iload_n 3), 1, 0), (24, (.if_icmp .gt 66), 3, 0), (27, (.iload_n 3), 1, 0), (28, (.iconst 1), 1, 0), (29, (.if_icmp .le 55), 3, 0), (32, (.aload_n 0), 1, 0), (33, (.iload 5), 2, 0), (35, (.invokevirtual 262), 3, 1290), (38, (.ifCond .eq 46), 3, 0), (41, (.iload 5), 2, 0), (43, (.invokestatic 120), 3, 1004), (46, (.iload_n 3), 1, 0), (47, (.invokestatic 120), 3, 1004), (50, (.if_icmp .gt 34), 3, 0), (53, (.iload_n 3), 1, 0), (54, (.iload 5), 2, 0), (56, (.invokestatic 288), 3, 1021), (59, (.ifCond .ne 25), 3, 0), (62, (.iload 4), 2, 0), (64, (.iload_n 2), 1, 0), (65, (.if_icmp .ne 6), 3, 0), (68, (.iload 5), 2, 0), (70, .ireturn, 1, 0), (71, (.iinc 4 1), 3, 0), (74, (.iload_n 3), 1, 0), (75, (.iload 5), 2, 0), (77, (.invokestatic 325), 3, 1381), (80, (.istore_n 3), 1, 0), (81, (.goto (-54)), 3, 0), (84, (.iinc 5 1), 3, 0), (87, (.goto (-66)), 3, 0), (90, (.iload_n 2), 1, 0), (91, (.iconst (-1)), 1, 0), (92, (.if_icmp .ne 8), 3, 0), (95, (.iload 4), 2, 0), (97, (.goto 4), 3, 0), (100, (.iconst (-1)), 1, 0), (101, .ireturn, 1, 0)]
def x_M_quotient : List (Nat × Instr × Nat × Nat) := [(0, (.iload_n 0), 1, 0), (1, (.istore_n 2), 1, 0), (2, (.iconst 0), 1, 0), (3, (.istore_n 3), 1, 0), (4, (.iload_n 1), 1, 0), (5, (.invokestatic 120), 3, 1004), (8, (.istore 4), 2, 0), (10, (.iload_n 0), 1, 0), (11, (.invokestatic 120), 3, 1004), (14, (.istore 5), 2, 0), (16, (.iload 5), 2, 0), (18, (.iload 4), 2, 0), (20, (.if_icmp .lt 41), 3, 0), (23, (.iload_n 2), 1, 0), (24, (.iload 5), 2, 0), (26, (.invokestatic 195), 3, 1010), (29, (.ifCond .ne 6), 3, 0), (32, (.goto 23), 3, 0), (35, (.iload_n 2), 1, 0), (36, (.iload_n 1), 1, 0), (37, (.iload 5), 2, 0), (39, (.iload 4), 2, 0), (41, .isub, 1, 0), (42, .ishl, 1, 0), (43, .ixor, 1, 0), (44, (.istore_n 2), 1, 0), (45, (.iload_n 3), 1, 0), (46, (.iconst 1), 1, 0), (47, (.iload 5), 2, 0), (49, (.iload 4), 2, 0), (51, .isub, 1, 0), (52, .ishl, 1, 0), (53, .ior, 1, 0), (54, (.istore_n 3), 1, 0), (55, (.iinc 5 (-1)), 3, 0), (58, (.goto (-42)), 3, 0), (61, (.iload_n 3), 1, 0), (62, .ireturn, 1, 0)]
def x_M_period : List (Nat × Instr × Nat × Nat) := [(0, (.iload_n 1), 1, 0), (1, (.iconst 2), 1, 0), (2, (.sipush 8191), 3, 0), (5, (.invokestatic 199), 3, 1279), (8, (.ifCond .ne 5), 3, 0), (11, (.iconst (-1)), 1, 0), (12, .ireturn, 1, 0), (13, (.iload_n 1), 1, 0), (14, (.iconst 0), 1, 0), (15, (.invokestatic 195), 3, 1010), (18, (.ifCond .ne 6), 3, 0), (21, (.bipush (-2)), 2, 0), (23, .ireturn, 1, 0), (24, (.iconst 1), 1, 0), (25, (.istore_n 2), 1, 0), (26, (.iconst 2), 1, 0), (27, (.iload_n 1), 1, 0), (28, (.invokestatic 288), 3, 1021), (31, (.istore_n 3), 1, 0), (32, (.iload_n 3), 1, 0), (33, (.iconst 1), 1, 0), (34, (.if_icmp .eq 17), 3, 0), (37, (.iload_n 3), 1, 0), (38, (.iconst 1), 1, 0), (39, .ishl, 1, 0), (40, (.iload_n 1), 1, 0), (41, (.invokestatic 288), 3, 1021), (44, (.istore_n 3), 1, 0), (45, (.iinc 2 1), 3, 0), (48, (.goto (-16)), 3, 0), (51, (.iload_n 2), 1, 0), (52, .ireturn, 1, 0)]
def x_M_coset : List (Nat × Instr × Nat × Nat) := [(0, (.iload_n 1), 1, 0), (1, (.invokestatic 203), 3, 1276), (4, (.ifCond .eq 25), 3, 0), (7, (.iload_n 2), 1, 0), (8, (.iconst 0), 1, 0), (9, (.iconst 1), 1, 0), (10, (.iload_n 1), 1, 0), (11, .ishl, 1, 0), (12, (.iconst 2), 1, 0), (13, .isub, 1, 0), (14, (.invokestatic 199), 3, 1279), (17, (.ifCond .eq 12), 3, 0), (20, (.iload_n 3), 1, 0), (21, (.iconst 0), 1, 0), (22, (.iconst 1), 1, 0), (23, (.invokestatic 199), 3, 1279), (26, (.ifCond .ne 5), 3, 0), (29, (.iconst (-1)), 1, 0), (30, .ireturn, 1, 0), (31, (.iload_n 2), 1, 0), (32, (.istore 4), 2, 0), (34, (.iconst 0), 1, 0), (35, (.istore 5), 2, 0), (37, (.iload_n 2), 1, 0), (38, (.istore 6), 2, 0), (40, (.iconst 1), 1, 0), (41, (.istore 7), 2, 0), (43, (.iload 7), 2, 0), (45, (.ifCond .eq 64), 3, 0), (48, (.iinc 5 1), 3, 0), (51, (.iload 6), 2, 0), (53, (.iload 4), 2, 0), (55, (.if_icmp .ge 8), 3, 0), (58, (.iload 6), 2, 0), (60, (.goto 5), 3, 0), (63, (.iload 4), 2, 0), (65, (.istore 4), 2, 0), (67, (.iload 6), 2, 0), (69, (.iconst 2), 1, 0), (70, .imul, 1, 0), (71, (.istore 6), 2, 0), (73, (.iload 6), 2, 0), (75, (.iconst 1), 1, 0), (76, (.iload_n 1), 1, 0), (77, .ishl, 1, 0), (78, (.iconst 1), 1, 0), (79, .isub, 1, 0), (80, (.if_icmp .lt 13), 3, 0), (83, (.iload 6), 2, 0), (85, (.iconst 1), 1, 0), (86, (.iload_n 1), 1, 0), (87, .ishl, 1, 0), (88, (.iconst 1), 1, 0), (89, .isub, 1, 0), (90, .isub, 1, 0), (91, (.istore 6), 2, 0), (93, (.iload 6), 2, 0), (95, (.iload_n 2), 1, 0), (96, (.if_icmp .eq 7), 3, 0), (99, (.iconst 1), 1, 0), (100, (.goto 4), 3, 0), (103, (.iconst 0), 1, 0), (104, (.istore 7), 2, 0), (106, (.goto (-63)), 3, 0), (109, (.iload_n 3), 1, 0), (110, (.ifCond .ne 8), 3, 0), (113, (.iload 4), 2, 0), (115, (.goto 5), 3, 0), (118, (.iload 5), 2, 0), (120, .ireturn, 1, 0)]
def x_M_both : List (Nat × Instr × Nat × Nat) := [(0, (.iload_n 1), 1, 0), (1, (.iload_n 2), 1, 0), (2, (.invokestatic 328), 3, 1396), (5, (.ifCond .eq 21), 3, 0), (8, (.iload_n 1), 1, 0), (9, (.iload_n 3), 1, 0), (10, (.invokestatic 328), 3, 1396), (13, (.ifCond .eq 13), 3, 0), (16, (.iload 4), 2, 0), (18, (.iconst 0), 1, 0), (19, (.iconst 2), 1, 0), (20, (.invokestatic 199), 3, 1279), (23, (.ifCond .ne 5), 3, 0), (26, (.iconst (-1)), 1, 0), (27, .ireturn, 1, 0), (28, (.iload 4), 2, 0), (30, (.ifCond .ne 7), 3, 0), (33, (.iload_n 2), 1, 0), (34, (.iload_n 3), 1, 0), (35, .ixor, 1, 0), (36, .ireturn, 1, 0), (37, (.iload 4), 2, 0), (39, (.iconst 1), 1, 0), (40, (.if_icmp .ne 11), 3, 0), (43, (.aload_n 0), 1, 0), (44, (.iload_n 1), 1, 0), (45, (.iload_n 2), 1, 0), (46, (.iload_n 3), 1, 0), (47, (.invokevirtual 298), 3, 1032), (50, .ireturn, 1, 0), (51, (.iload_n 3), 1, 0), (52, (.ifCond .ne 8), 3, 0), (55, (.bipush (-2)), 2, 0), (57, (.goto 15), 3, 0), (60, (.aload_n 0), 1, 0), (61, (.iload_n 1), 1, 0), (62, (.iload_n 2), 1, 0), (63, (.aload_n 0), 1, 0), (64, (.iload_n 1), 1, 0), (65, (.iload_n 3), 1, 0), (66, (.invokevirtual 301), 3, 1329), (69, (.invokevirtual 298), 3, 1032), (72, .ireturn, 1, 0)]
def x_M_isOf : List (Nat × Instr × Nat × Nat) := [(0, (.iload_n 0), 1, 0), (1, (.invokestatic 203), 3, 1276), (4, (.ifCond .eq 20), 3, 0), (7, (.iload_n 1), 1, 0), (8, (.iconst 0), 1, 0), (9, (.iconst 1), 1, 0), (10, (.iload_n 0), 1, 0), (11, .ishl, 1, 0), (12, (.iconst 1), 1, 0), (13, .isub, 1, 0), (14, (.invokestatic 199), 3, 1279), (17, (.ifCond .eq 7), 3, 0), (20, (.iconst 1), 1, 0), (21, (.goto 4), 3, 0), (24, (.iconst 0), 1, 0), (25, .ireturn, 1, 0)]
def x_M_power : List (Nat × Instr × Nat × Nat) := [(0, (.iload_n 1), 1, 0), (1, (.iload_n 2), 1, 0), (2, (.invokestatic 328), 3, 1396), (5, (.ifCond .ne 5), 3, 0), (8, (.iconst (-1)), 1, 0), (9, .ireturn, 1, 0), (10, (.iload_n 2), 1, 0), (11, (.ifCond .ne 22), 3, 0), (14, (.iload_n 3), 1, 0), (15, (.ifCond .ge 8), 3, 0), (18, (.bipush (-2)), 2, 0), (20, (.goto 12), 3, 0), (23, (.iload_n 3), 1, 0), (24, (.ifCond .ne 7), 3, 0), (27, (.iconst 1), 1, 0), (28, (.goto 4), 3, 0), (31, (.iconst 0), 1, 0), (32, .ireturn, 1, 0), (33, (.iconst 1), 1, 0), (34, (.iload_n 1), 1, 0), (35, .ishl, 1, 0), (36, (.iconst 1), 1, 0), (37, .isub, 1, 0), (38, (.istore 4), 2, 0), (40, (.iload_n 3), 1, 0), (41, (.iload 4), 2, 0), (43, .irem, 1, 0), (44, (.istore 5), 2, 0), (46, (.aload_n 0), 1, 0), (47, (.iload_n 1), 1, 0), (48, (.iload_n 2), 1, 0), (49, (.iload 5), 2, 0), (51, (.ifCond .ge 11), 3, 0), (54, (.iload 5), 2, 0), (56, (.iload 4), 2, 0), (58, .iadd, 1, 0), (59, (.goto 5), 3, 0), (62, (.iload 5), 2, 0), (64, (.invokevirtual 295), 3, 1325), (67, .ireturn, 1, 0)]
def x_M_element : List (Nat × Instr × Nat × Nat) := [(0, (.iload_n 1), 1, 0), (1, (.iload_n 2), 1, 0), (2, (.invokestatic 328), 3, 1396), (5, (.ifCond .ne 5), 3, 0), (8, (.iconst (-1)), 1, 0), (9, .ireturn, 1, 0), (10, (.iload_n 3), 1, 0), (11, (.tableswitch 173 0 10 #[57, 73, 83, 99, 115, 122, 115, 129, 144, 159, 166]), 57, 0), (68, (.iload_n 2), 1, 0), (69, (.ifCond .ne 8), 3, 0), (72, (.bipush (-2)), 2, 0), (74, (.goto 9), 3, 0), (77, (.aload_n 0), 1, 0), (78, (.iload_n 1), 1, 0), (79, (.iload_n 2), 1, 0), (80, (.invokevirtual 301), 3, 1329), (83, .ireturn, 1, 0), (84, (.aload_n 0), 1, 0), (85, (.iload_n 1), 1, 0), (86, (.iload_n 2), 1, 0), (87, (.iload_n 1), 1, 0), (88, (.iconst 1), 1, 0), (89, .isub, 1, 0), (90, (.invokevirtual 322), 3, 1407), (93, .ireturn, 1, 0), (94, (.iload_n 2), 1, 0), (95, (.ifCond .ne 8), 3, 0), (98, (.bipush (-2)), 2, 0), (100, (.goto 9), 3, 0), (103, (.aload_n 0), 1, 0), (104, (.iload_n 1), 1, 0), (105, (.iload_n 2), 1, 0), (106, (.invokevirtual 331), 3, 1411), (109, .ireturn, 1, 0), (110, (.iload_n 2), 1, 0), (111, (.ifCond .ne 8), 3, 0), (114, (.bipush (-2)), 2, 0), (116, (.goto 9), 3, 0), (119, (.aload_n 0), 1, 0), (120, (.iload_n 1), 1, 0), (121, (.iload_n 2), 1, 0), (122, (.invokevirtual 352), 3, 1415), (125, .ireturn, 1, 0), (126, (.aload_n 0), 1, 0), (127, (.iload_n 1), 1, 0), (128, (.iload_n 2), 1, 0), (129, (.invokevirtual 355), 3, 1427), (132, .ireturn, 1, 0), (133, (.aload_n 0), 1, 0), (134, (.iload_n 1), 1, 0), (135, (.iload_n 2), 1, 0), (136, (.invokevirtual 358), 3, 1431), (139, .ireturn, 1, 0), (140, (.aload_n 0), 1, 0), (141, (.iload_n 1), 1, 0), (142, (.iload_n 2), 1, 0), (143, (.invokevirtual 334), 3, 1423), (146, (.ifCond .eq 7), 3, 0), (149, (.iconst 1), 1, 0), (150, (.goto 4), 3, 0), (153, (.iconst 0), 1, 0), (154, .ireturn, 1, 0), (155, (.aload_n 0), 1, 0), (156, (.iload_n 1), 1, 0), (157, (.iload_n 2), 1, 0), (158, (.invokevirtual 340), 3, 1435), (161, (.ifCond .eq 7), 3, 0), (164, (.iconst 1), 1, 0), (165, (.goto 4), 3, 0), (168, (.iconst 0), 1, 0), (169, .ireturn, 1, 0), (170, (.aload_n 0), 1, 0), (171, (.iload_n 1), 1, 0), (172, (.iload_n 2), 1, 0), (173, (.invokevirtual 361), 3, 1439), (176, .ireturn, 1, 0), (177, (.aload_n 0), 1, 0), (178, (.iload_n 1), 1, 0), (179, (.iload_n 2), 1, 0), (180, (.invokevirtual 364), 3, 1447), (183, .ireturn, 1, 0), (184, (.iconst (-1)), 1, 0), (185, .ireturn, 1, 0)]
def x_M_squared : List (Nat × Instr × Nat × Nat) := [(0, (.iload_n 2), 1, 0), (1, (.istore 4), 2, 0), (3, (.iconst 0), 1, 0), (4, (.istore 5), 2, 0), (6, (.iload 5), 2, 0), (8, (.iload_n 3), 1, 0), (9, (.if_icmp .ge 20), 3, 0), (12, (.aload_n 0), 1, 0), (13, (.iload_n 1), 1, 0), (14, (.iload 4), 2, 0), (16, (.iload 4), 2, 0), (18, (.invokevirtual 298), 3, 1032), (21, (.istore 4), 2, 0), (23, (.iinc 5 1), 3, 0), (26, (.goto (-20)), 3, 0), (29, (.iload 4), 2, 0), (31, .ireturn, 1, 0)]
def x_M_orderOf : List (Nat × Instr × Nat × Nat) := [(0, (.iconst 1), 1, 0), (1, (.istore_n 3), 1, 0), (2, (.iload_n 2), 1, 0), (3, (.istore 4), 2, 0), (5, (.iload 4), 2, 0), (7, (.iconst 1), 1, 0), (8, (.if_icmp .eq 19), 3, 0), (11, (.aload_n 0), 1, 0), (12, (.iload_n 1), 1, 0), (13, (.iload 4), 2, 0), (15, (.iload_n 2), 1, 0), (16, (.invokevirtual 298), 3, 1032), (19, (.istore 4), 2, 0), (21, (.iinc 3 1), 3, 0), (24, (.goto (-19)), 3, 0), (27, (.iload_n 3), 1, 0), (28, .ireturn, 1, 0)]
def x_M_logarithm : List (Nat × Instr × Nat × Nat) := [(0, (.aload_n 0), 1, 0), (1, (.iload_n 1), 1, 0), (2, (.invokevirtual 337), 3, 1419), (5, (.istore_n 3), 1, 0), (6, (.iconst 0), 1, 0), (7, (.istore 4), 2, 0), (9, (.iconst 1), 1, 0), (10, (.istore 5), 2, 0), (12, (.iload 5), 2, 0), (14, (.iload_n 2), 1, 0), (15, (.if_icmp .eq 19), 3, 0), (18, (.aload_n 0), 1, 0), (19, (.iload_n 1), 1, 0), (20, (.iload 5), 2, 0), (22, (.iload_n 3), 1, 0), (23, (.invokevirtual 298), 3, 1032), (26, (.istore 5), 2, 0), (28, (.iinc 4 1), 3, 0), (31, (.goto (-19)), 3, 0), (34, (.iload 4), 2, 0), (36, .ireturn, 1, 0)]
def x_M_leastPrimitive : List (Nat × Instr × Nat × Nat) := [(0, (.iconst 1), 1, 0), (1, (.istore_n 2), 1, 0), (2, (.aload_n 0), 1, 0), (3, (.iload_n 1), 1, 0), (4, (.iload_n 2), 1, 0), (5, (.invokevirtual 334), 3, 1423), (8, (.ifCond .ne 9), 3, 0), (11, (.iinc 2 1), 3, 0), (14, (.goto (-12)), 3, 0), (17, (.iload_n 2), 1, 0), (18, .ireturn, 1, 0)]
def x_M_isPrimitive : List (Nat × Instr × Nat × Nat) := [(0, (.iload_n 2), 1, 0), (1, (.ifCond .le 21), 3, 0), (4, (.aload_n 0), 1, 0), (5, (.iload_n 1), 1, 0), (6, (.iload_n 2), 1, 0), (7, (.invokevirtual 331), 3, 1411), (10, (.iconst 1), 1, 0), (11, (.iload_n 1), 1, 0), (12, .ishl, 1, 0), (13, (.iconst 1), 1, 0), (14, .isub, 1, 0), (15, (.if_icmp .ne 7), 3, 0), (18, (.iconst 1), 1, 0), (19, (.goto 4), 3, 0), (22, (.iconst 0), 1, 0), (23, .ireturn, 1, 0)]
def x_M_degreeOf : List (Nat × Instr × Nat × Nat) := [(0, (.iconst 1), 1, 0), (1, (.istore_n 3), 1, 0), (2, (.iload_n 1), 1, 0), (3, (.iload_n 3), 1, 0), (4, .irem, 1, 0), (5, (.ifCond .ne 14), 3, 0), (8, (.aload_n 0), 1, 0), (9, (.iload_n 1), 1, 0), (10, (.iload_n 2), 1, 0), (11, (.iload_n 3), 1, 0), (12, (.invokevirtual 322), 3, 1407), (15, (.iload_n 2), 1, 0), (16, (.if_icmp .eq 9), 3, 0), (19, (.iinc 3 1), 3, 0), (22, (.goto (-20)), 3, 0), (25, (.iload_n 3), 1, 0), (26, .ireturn, 1, 0)]
def x_M_leastConjugate : List (Nat × Instr × Nat × Nat) := [(0, (.iload_n 2), 1, 0), (1, (.istore_n 3), 1, 0), (2, (.iload_n 2), 1, 0), (3, (.istore 4), 2, 0), (5, (.iconst 1), 1, 0), (6, (.istore 5), 2, 0), (8, (.iload 5), 2, 0), (10, (.iload_n 1), 1, 0), (11, (.if_icmp .ge 33), 3, 0), (14, (.aload_n 0), 1, 0), (15, (.iload_n 1), 1, 0), (16, (.iload 4), 2, 0), (18, (.iload 4), 2, 0), (20, (.invokevirtual 298), 3, 1032), (23, (.istore 4), 2, 0), (25, (.iload 4), 2, 0), (27, (.iload_n 3), 1, 0), (28, (.if_icmp .ge 8), 3, 0), (31, (.iload 4), 2, 0), (33, (.goto 4), 3, 0), (36, (.iload_n 3), 1, 0), (37, (.istore_n 3), 1, 0), (38, (.iinc 5 1), 3, 0), (41, (.goto (-33)), 3, 0), (44, (.iload_n 3), 1, 0), (45, .ireturn, 1, 0)]
def x_M_isNormal : List (Nat × Instr × Nat × Nat) := [(0, (.iload_n 2), 1, 0), (1, (.istore_n 3), 1, 0), (2, (.iconst 0), 1, 0), (3, (.istore 4), 2, 0), (5, (.iload 4), 2, 0), (7, (.iload_n 1), 1, 0), (8, (.if_icmp .ge 112), 3, 0), (11, (.iload_n 3), 1, 0), (12, (.istore 5), 2, 0), (14, (.iconst 1), 1, 0), (15, (.iload 4), 2, 0), (17, .ishl, 1, 0), (18, (.istore 6), 2, 0), (20, (.iconst 0), 1, 0), (21, (.istore 7), 2, 0), (23, (.iload 7), 2, 0), (25, (.iload 4), 2, 0), (27, (.if_icmp .ge 54), 3, 0), (30, (.iload 5), 2, 0), (32, (.aload_n 0), 1, 0), (33, (.getfield 104), 3, 1091), (36, (.iload 7), 2, 0), (38, .iaload, 1, 0), (39, (.invokestatic 120), 3, 1004), (42, (.invokestatic 195), 3, 1010), (45, (.ifCond .ne 6), 3, 0), (48, (.goto 27), 3, 0), (51, (.iload 5), 2, 0), (53, (.aload_n 0), 1, 0), (54, (.getfield 104), 3, 1091), (57, (.iload 7), 2, 0), (59, .iaload, 1, 0), (60, .ixor, 1, 0), (61, (.istore 5), 2, 0), (63, (.iload 6), 2, 0), (65, (.aload_n 0), 1, 0), (66, (.getfield 107), 3, 1092), (69, (.iload 7), 2, 0), (71, .iaload, 1, 0), (72, .ixor, 1, 0), (73, (.istore 6), 2, 0), (75, (.iinc 7 1), 3, 0), (78, (.goto (-55)), 3, 0), (81, (.iload 5), 2, 0), (83, (.ifCond .ne 5), 3, 0), (86, (.iconst 0), 1, 0), (87, .ireturn, 1, 0), (88, (.aload_n 0), 1, 0), (89, (.getfield 104), 3, 1091), (92, (.iload 4), 2, 0), (94, (.iload 5), 2, 0), (96, .iastore, 1, 0), (97, (.aload_n 0), 1, 0), (98, (.getfield 107), 3, 1092), (101, (.iload 4), 2, 0), (103, (.iload 6), 2, 0), (105, .iastore, 1, 0), (106, (.aload_n 0), 1, 0), (107, (.iload_n 1), 1, 0), (108, (.iload_n 3), 1, 0), (109, (.iload_n 3), 1, 0), (110, (.invokevirtual 298), 3, 1032), (113, (.istore_n 3), 1, 0), (114, (.iinc 4 1), 3, 0), (117, (.goto (-112)), 3, 0), (120, (.iconst 1), 1, 0), (121, .ireturn, 1, 0)]
def x_M_coordinates : List (Nat × Instr × Nat × Nat) := [(0, (.aload_n 0), 1, 0), (1, (.iload_n 1), 1, 0), (2, (.invokevirtual 343), 3, 1443), (5, (.istore_n 3), 1, 0), (6, (.aload_n 0), 1, 0), (7, (.iload_n 1), 1, 0), (8, (.iload_n 3), 1, 0), (9, (.invokevirtual 340), 3, 1435), (12, (.istore 4), 2, 0), (14, (.iload_n 2), 1, 0), (15, (.istore 5), 2, 0), (17, (.iconst 0), 1, 0), (18, (.istore 6), 2, 0), (20, (.iconst 0), 1, 0), (21, (.istore 7), 2, 0), (23, (.iload 7), 2, 0), (25, (.iload_n 1), 1, 0), (26, (.if_icmp .ge 79), 3, 0), (29, (.iload 4), 2, 0), (31, (.ifCond .eq 74), 3, 0), (34, (.iconst 0), 1, 0), (35, (.istore 8), 2, 0), (37, (.iload 8), 2, 0), (39, (.iload_n 1), 1, 0), (40, (.if_icmp .ge 59), 3, 0), (43, (.iload 5), 2, 0), (45, (.ifCond .eq 48), 3, 0), (48, (.aload_n 0), 1, 0), (49, (.getfield 104), 3, 1091), (52, (.iload 8), 2, 0), (54, .iaload, 1, 0), (55, (.invokestatic 120), 3, 1004), (58, (.iload 5), 2, 0), (60, (.invokestatic 120), 3, 1004), (63, (.if_icmp .eq 6), 3, 0), (66, (.goto 27), 3, 0), (69, (.iload 5), 2, 0), (71, (.aload_n 0), 1, 0), (72, (.getfield 104), 3, 1091), (75, (.iload 8), 2, 0), (77, .iaload, 1, 0), (78, .ixor, 1, 0), (79, (.istore 5), 2, 0), (81, (.iload 6), 2, 0), (83, (.aload_n 0), 1, 0), (84, (.getfield 107), 3, 1092), (87, (.iload 8), 2, 0), (89, .iaload, 1, 0), (90, .ixor, 1, 0), (91, (.istore 6), 2, 0), (93, (.iinc 8 1), 3, 0), (96, (.goto (-59)), 3, 0), (99, (.iinc 7 1), 3, 0), (102, (.goto (-79)), 3, 0), (105, (.iload 6), 2, 0), (107, .ireturn, 1, 0)]
def x_M_leastNormal : List (Nat × Instr × Nat × Nat) := [(0, (.iconst 1), 1, 0), (1, (.istore_n 2), 1, 0), (2, (.aload_n 0), 1, 0), (3, (.iload_n 1), 1, 0), (4, (.iload_n 2), 1, 0), (5, (.invokevirtual 340), 3, 1435), (8, (.ifCond .ne 9), 3, 0), (11, (.iinc 2 1), 3, 0), (14, (.goto (-12)), 3, 0), (17, (.iload_n 2), 1, 0), (18, .ireturn, 1, 0)]
def x_M_dualOf : List (Nat × Instr × Nat × Nat) := [(0, (.aload_n 0), 1, 0), (1, (.iload_n 1), 1, 0), (2, (.iload_n 2), 1, 0), (3, (.invokevirtual 340), 3, 1435), (6, (.ifCond .ne 6), 3, 0), (9, (.bipush (-2)), 2, 0), (11, .ireturn, 1, 0), (12, (.iconst 0), 1, 0), (13, (.istore_n 3), 1, 0), (14, (.aload_n 0), 1, 0), (15, (.iload_n 1), 1, 0), (16, (.iload_n 2), 1, 0), (17, (.iload_n 3), 1, 0), (18, (.invokevirtual 349), 3, 1451), (21, (.ifCond .ne 9), 3, 0), (24, (.iinc 3 1), 3, 0), (27, (.goto (-13)), 3, 0), (30, (.iload_n 3), 1, 0), (31, .ireturn, 1, 0)]
def x_M_isDual : List (Nat × Instr × Nat × Nat) := [(0, (.iload_n 2), 1, 0), (1, (.istore 4), 2, 0), (3, (.iconst 0), 1, 0), (4, (.istore 5), 2, 0), (6, (.iload 5), 2, 0), (8, (.iload_n 1), 1, 0), (9, (.if_icmp .ge 48), 3, 0), (12, (.aload_n 0), 1, 0), (13, (.iload_n 1), 1, 0), (14, (.aload_n 0), 1, 0), (15, (.iload_n 1), 1, 0), (16, (.iload_n 3), 1, 0), (17, (.iload 4), 2, 0), (19, (.invokevirtual 298), 3, 1032), (22, (.invokevirtual 346), 3, 1455), (25, (.iload 5), 2, 0), (27, (.ifCond .ne 7), 3, 0), (30, (.iconst 1), 1, 0), (31, (.goto 4), 3, 0), (34, (.iconst 0), 1, 0), (35, (.if_icmp .eq 5), 3, 0), (38, (.iconst 0), 1, 0), (39, .ireturn, 1, 0), (40, (.aload_n 0), 1, 0), (41, (.iload_n 1), 1, 0), (42, (.iload 4), 2, 0), (44, (.iload 4), 2, 0), (46, (.invokevirtual 298), 3, 1032), (49, (.istore 4), 2, 0), (51, (.iinc 5 1), 3, 0), (54, (.goto (-48)), 3, 0), (57, (.iconst 1), 1, 0), (58, .ireturn, 1, 0)]
def x_M_traceDown : List (Nat × Instr × Nat × Nat) := [(0, (.iconst 0), 1, 0), (1, (.istore_n 3), 1, 0), (2, (.iload_n 2), 1, 0), (3, (.istore 4), 2, 0), (5, (.iconst 0), 1, 0), (6, (.istore 5), 2, 0), (8, (.iload 5), 2, 0), (10, (.iload_n 1), 1, 0), (11, (.if_icmp .ge 25), 3, 0), (14, (.iload_n 3), 1, 0), (15, (.iload 4), 2, 0), (17, .ixor, 1, 0), (18, (.istore_n 3), 1, 0), (19, (.aload_n 0), 1, 0), (20, (.iload_n 1), 1, 0), (21, (.iload 4), 2, 0), (23, (.iload 4), 2, 0), (25, (.invokevirtual 298), 3, 1032), (28, (.istore 4), 2, 0), (30, (.iinc 5 1), 3, 0), (33, (.goto (-25)), 3, 0), (36, (.iload_n 3), 1, 0), (37, .ireturn, 1, 0)]
def x_M_raise : List (Nat × Instr × Nat × Nat) := [(0, (.iload_n 1), 1, 0), (1, (.iload_n 3), 1, 0), (2, (.invokestatic 328), 3, 1396), (5, (.ifCond .eq 10), 3, 0), (8, (.iload_n 2), 1, 0), (9, (.invokestatic 203), 3, 1276), (12, (.ifCond .ne 5), 3, 0), (15, (.iconst (-1)), 1, 0), (16, .ireturn, 1, 0), (17, (.iload_n 2), 1, 0), (18, (.iload_n 1), 1, 0), (19, .irem, 1, 0), (20, (.ifCond .ne 13), 3, 0), (23, (.aload_n 0), 1, 0), (24, (.iload_n 1), 1, 0), (25, (.iload_n 2), 1, 0), (26, (.iload_n 3), 1, 0), (27, (.invokevirtual 291), 3, 1028), (30, (.goto 5), 3, 0), (33, (.bipush (-2)), 2, 0), (35, .ireturn, 1, 0)]
def x_M_lower : List (Nat × Instr × Nat × Nat) := [(0, (.iload_n 1), 1, 0), (1, (.iload_n 3), 1, 0), (2, (.invokestatic 328), 3, 1396), (5, (.ifCond .eq 10), 3, 0), (8, (.iload_n 2), 1, 0), (9, (.invokestatic 203), 3, 1276), (12, (.ifCond .ne 5), 3, 0), (15, (.iconst (-1)), 1, 0), (16, .ireturn, 1, 0), (17, (.iload_n 1), 1, 0), (18, (.iload_n 2), 1, 0), (19, .irem, 1, 0), (20, (.ifCond .ne 13), 3, 0), (23, (.aload_n 0), 1, 0), (24, (.iload_n 1), 1, 0), (25, (.iload_n 2), 1, 0), (26, (.iload_n 3), 1, 0), (27, (.invokevirtual 367), 3, 1467), (30, (.goto 4), 3, 0), (33, (.iconst (-1)), 1, 0), (34, (.istore 4), 2, 0), (36, (.iload 4), 2, 0), (38, (.ifCond .ge 8), 3, 0), (41, (.bipush (-2)), 2, 0), (43, (.goto 5), 3, 0), (46, (.iload 4), 2, 0), (48, .ireturn, 1, 0)]
def x_M_lowered : List (Nat × Instr × Nat × Nat) := [(0, (.aload_n 0), 1, 0), (1, (.iload_n 1), 1, 0), (2, (.iload_n 3), 1, 0), (3, (.iload_n 2), 1, 0), (4, (.invokevirtual 322), 3, 1407), (7, (.iload_n 3), 1, 0), (8, (.if_icmp .eq 5), 3, 0), (11, (.iconst (-1)), 1, 0), (12, .ireturn, 1, 0), (13, (.iconst 0), 1, 0), (14, (.istore 4), 2, 0), (16, (.iload 4), 2, 0), (18, (.iconst 1), 1, 0), (19, (.iload_n 2), 1, 0), (20, .ishl, 1, 0), (21, (.if_icmp .ge 24), 3, 0), (24, (.aload_n 0), 1, 0), (25, (.iload_n 2), 1, 0), (26, (.iload_n 1), 1, 0), (27, (.iload 4), 2, 0), (29, (.invokevirtual 291), 3, 1028), (32, (.iload_n 3), 1, 0), (33, (.if_icmp .ne 6), 3, 0), (36, (.iload 4), 2, 0), (38, .ireturn, 1, 0), (39, (.iinc 4 1), 3, 0), (42, (.goto (-26)), 3, 0), (45, (.iconst (-1)), 1, 0), (46, .ireturn, 1, 0)]
def x_M_down : List (Nat × Instr × Nat × Nat) := [(0, (.iload_n 1), 1, 0), (1, (.iload_n 3), 1, 0), (2, (.invokestatic 328), 3, 1396), (5, (.ifCond .eq 10), 3, 0), (8, (.iload_n 2), 1, 0), (9, (.invokestatic 203), 3, 1276), (12, (.ifCond .ne 5), 3, 0), (15, (.iconst (-1)), 1, 0), (16, .ireturn, 1, 0), (17, (.iload_n 1), 1, 0), (18, (.iload_n 2), 1, 0), (19, .irem, 1, 0), (20, (.ifCond .eq 6), 3, 0), (23, (.bipush (-2)), 2, 0), (25, .ireturn, 1, 0), (26, (.iconst 0), 1, 0), (27, (.istore 5), 2, 0), (29, (.iconst 1), 1, 0), (30, (.istore 6), 2, 0), (32, (.iload_n 3), 1, 0), (33, (.istore 7), 2, 0), (35, (.iconst 0), 1, 0), (36, (.istore 8), 2, 0), (38, (.iload 8), 2, 0), (40, (.iload_n 1), 1, 0), (41, (.iload_n 2), 1, 0), (42, .idiv, 1, 0), (43, (.if_icmp .ge 37), 3, 0), (46, (.iload 5), 2, 0), (48, (.iload 7), 2, 0), (50, .ixor, 1, 0), (51, (.istore 5), 2, 0), (53, (.aload_n 0), 1, 0), (54, (.iload_n 1), 1, 0), (55, (.iload 6), 2, 0), (57, (.iload 7), 2, 0), (59, (.invokevirtual 298), 3, 1032), (62, (.istore 6), 2, 0), (64, (.aload_n 0), 1, 0), (65, (.iload_n 1), 1, 0), (66, (.iload 7), 2, 0), (68, (.iload_n 2), 1, 0), (69, (.invokevirtual 322), 3, 1407), (72, (.istore 7), 2, 0), (74, (.iinc 8 1), 3, 0), (77, (.goto (-39)), 3, 0), (80, (.aload_n 0), 1, 0), (81, (.iload_n 1), 1, 0), (82, (.iload_n 2), 1, 0), (83, (.iload 4), 2, 0), (85, (.ifCond .eq 8), 3, 0), (88, (.iload 6), 2, 0), (90, (.goto 5), 3, 0), (93, (.iload 5), 2, 0), (95, (.invokevirtual 367), 3, 1467), (98, .ireturn, 1, 0)]
def x_M_least : List (Nat × Instr × Nat × Nat) := [(0, (.iload_n 1), 1, 0), (1, (.iload_n 3), 1, 0), (2, (.invokestatic 328), 3, 1396), (5, (.ifCond .eq 10), 3, 0), (8, (.iload_n 2), 1, 0), (9, (.invokestatic 203), 3, 1276), (12, (.ifCond .ne 5), 3, 0), (15, (.iconst (-1)), 1, 0), (16, .ireturn, 1, 0), (17, (.iload_n 1), 1, 0), (18, (.iload_n 2), 1, 0), (19, .irem, 1, 0), (20, (.ifCond .eq 16), 3, 0), (23, (.iload 4), 2, 0), (25, (.iconst (-1)), 1, 0), (26, (.if_icmp .ge 7), 3, 0), (29, (.iconst (-1)), 1, 0), (30, (.goto 5), 3, 0), (33, (.bipush (-2)), 2, 0), (35, .ireturn, 1, 0), (36, (.aload_n 0), 1, 0), (37, (.iload_n 1), 1, 0), (38, (.iload_n 2), 1, 0), (39, (.iload_n 3), 1, 0), (40, (.invokevirtual 370), 3, 1479), (43, (.istore 5), 2, 0), (45, (.iload 4), 2, 0), (47, (.iconst (-1)), 1, 0), (48, (.if_icmp .ne 6), 3, 0), (51, (.iload 5), 2, 0), (53, .ireturn, 1, 0), (54, (.iload 4), 2, 0), (56, (.iconst 0), 1, 0), (57, (.iload 5), 2, 0), (59, (.invokestatic 199), 3, 1279), (62, (.ifCond .eq 19), 3, 0), (65, (.aload_n 0), 1, 0), (66, (.iload_n 1), 1, 0), (67, (.iload_n 2), 1, 0), (68, (.aload_n 0), 1, 0), (69, (.getfield 110), 3, 1093), (72, (.iload 4), 2, 0), (74, .iaload, 1, 0), (75, (.invokevirtual 367), 3, 1467), (78, (.goto 4), 3, 0), (81, (.iconst (-1)), 1, 0), (82, .ireturn, 1, 0)]
def x_M_laysLeast : List (Nat × Instr × Nat × Nat) := [(0, (.iconst 0), 1, 0), (1, (.istore 4), 2, 0), (3, (.iload_n 3), 1, 0), (4, (.istore 5), 2, 0), (6, (.iconst 0), 1, 0), (7, (.istore 6), 2, 0), (9, (.iload 6), 2, 0), (11, (.bipush 14), 2, 0), (13, (.if_icmp .ge 26), 3, 0), (16, (.aload_n 0), 1, 0), (17, (.getfield 110), 3, 1093), (20, (.iload 6), 2, 0), (22, (.iload 6), 2, 0), (24, (.ifCond .ne 7), 3, 0), (27, (.iconst 1), 1, 0), (28, (.goto 4), 3, 0), (31, (.iconst 0), 1, 0), (32, .iastore, 1, 0), (33, (.iinc 6 1), 3, 0), (36, (.goto (-27)), 3, 0), (39, (.iconst 1), 1, 0), (40, (.istore 6), 2, 0), (42, (.iload 6), 2, 0), (44, (.ifCond .eq 89), 3, 0), (47, (.iload 4), 2, 0), (49, (.iconst 1), 1, 0), (50, .iadd, 1, 0), (51, (.istore 7), 2, 0), (53, (.iload 7), 2, 0), (55, (.ifCond .lt 49), 3, 0), (58, (.aload_n 0), 1, 0), (59, (.getfield 110), 3, 1093), (62, (.iload 7), 2, 0), (64, (.iload 7), 2, 0), (66, (.ifCond .le 15), 3, 0), (69, (.aload_n 0), 1, 0), (70, (.getfield 110), 3, 1093), (73, (.iload 7), 2, 0), (75, (.iconst 1), 1, 0), (76, .isub, 1, 0), (77, .iaload, 1, 0), (78, (.goto 4), 3, 0), (81, (.iconst 0), 1, 0), (82, (.aload_n 0), 1, 0), (83, (.iload_n 1), 1, 0), (84, (.aload_n 0), 1, 0), (85, (.getfield 110), 3, 1093), (88, (.iload 7), 2, 0), (90, .iaload, 1, 0), (91, (.iload 5), 2, 0), (93, (.invokevirtual 298), 3, 1032), (96, .ixor, 1, 0), (97, .iastore, 1, 0), (98, (.iinc 7 (-1)), 3, 0), (101, (.goto (-48)), 3, 0), (104, (.iinc 4 1), 3, 0), (107, (.aload_n 0), 1, 0), (108, (.iload_n 1), 1, 0), (109, (.iload 5), 2, 0), (111, (.iload_n 2), 1, 0), (112, (.invokevirtual 322), 3, 1407), (115, (.istore 5), 2, 0), (117, (.iload 5), 2, 0), (119, (.iload_n 3), 1, 0), (120, (.if_icmp .eq 7), 3, 0), (123, (.iconst 1), 1, 0), (124, (.goto 4), 3, 0), (127, (.iconst 0), 1, 0), (128, (.istore 6), 2, 0), (130, (.goto (-88)), 3, 0), (133, (.iload 4), 2, 0), (135, .ireturn, 1, 0)]
def x_M_solve : List (Nat × Instr × Nat × Nat) := [(0, (.iload_n 1), 1, 0), (1, (.iload_n 2), 1, 0), (2, (.invokestatic 328), 3, 1396), (5, (.ifCond .eq 21), 3, 0), (8, (.iload_n 1), 1, 0), (9, (.iload_n 3), 1, 0), (10, (.invokestatic 328), 3, 1396), (13, (.ifCond .eq 13), 3, 0), (16, (.iload 4), 2, 0), (18, (.iconst 0), 1, 0), (19, (.iconst 1), 1, 0), (20, (.invokestatic 199), 3, 1279), (23, (.ifCond .ne 5), 3, 0), (26, (.iconst (-1)), 1, 0), (27, .ireturn, 1, 0), (28, (.iconst 0), 1, 0), (29, (.istore 5), 2, 0), (31, (.bipush (-2)), 2, 0), (33, (.istore 6), 2, 0), (35, (.iconst 0), 1, 0), (36, (.istore 7), 2, 0), (38, (.iload 7), 2, 0), (40, (.iconst 1), 1, 0), (41, (.iload_n 1), 1, 0), (42, .ishl, 1, 0), (43, (.if_icmp .ge 46), 3, 0), (46, (.aload_n 0), 1, 0), (47, (.iload_n 1), 1, 0), (48, (.iload 7), 2, 0), (50, (.iload 7), 2, 0), (52, (.invokevirtual 298), 3, 1032), (55, (.aload_n 0), 1, 0), (56, (.iload_n 1), 1, 0), (57, (.iload_n 2), 1, 0), (58, (.iload 7), 2, 0), (60, (.invokevirtual 298), 3, 1032), (63, .ixor, 1, 0), (64, (.iload_n 3), 1, 0), (65, (.if_icmp .eq 6), 3, 0), (68, (.goto 15), 3, 0), (71, (.iload 5), 2, 0), (73, (.ifCond .ne 7), 3, 0), (76, (.iload 7), 2, 0), (78, (.istore 6), 2, 0), (80, (.iinc 5 1), 3, 0), (83, (.iinc 7 1), 3, 0), (86, (.goto (-48)), 3, 0), (89, (.iload 4), 2, 0), (91, (.ifCond .ne 8), 3, 0), (94, (.iload 5), 2, 0), (96, (.goto 5), 3, 0), (99, (.iload 6), 2, 0), (101, .ireturn, 1, 0)]
def x_M_value : List (Nat × Instr × Nat × Nat) := [(0, (.iload_n 1), 1, 0), (1, (.iload_n 3), 1, 0), (2, (.invokestatic 328), 3, 1396), (5, (.ifCond .eq 24), 3, 0), (8, (.iload_n 2), 1, 0), (9, (.iconst 0), 1, 0), (10, (.sipush 8191), 3, 0), (13, (.invokestatic 199), 3, 1279), (16, (.ifCond .eq 13), 3, 0), (19, (.aload_n 0), 1, 0), (20, (.iload_n 1), 1, 0), (21, (.iload_n 2), 1, 0), (22, (.iload_n 3), 1, 0), (23, (.invokevirtual 316), 3, 1040), (26, (.goto 4), 3, 0), (29, (.iconst (-1)), 1, 0), (30, .ireturn, 1, 0)]
def x_M_roots : List (Nat × Instr × Nat × Nat) := [(0, (.iload_n 1), 1, 0), (1, (.iload_n 2), 1, 0), (2, (.invokestatic 328), 3, 1396), (5, (.ifCond .eq 24), 3, 0), (8, (.iload_n 3), 1, 0), (9, (.iconst 1), 1, 0), (10, (.sipush 9999), 3, 0), (13, (.invokestatic 199), 3, 1279), (16, (.ifCond .eq 13), 3, 0), (19, (.iload 4), 2, 0), (21, (.iconst 0), 1, 0), (22, (.iconst 1), 1, 0), (23, (.invokestatic 199), 3, 1279), (26, (.ifCond .ne 5), 3, 0), (29, (.iconst (-1)), 1, 0), (30, .ireturn, 1, 0), (31, (.iconst 0), 1, 0), (32, (.istore 5), 2, 0), (34, (.bipush (-2)), 2, 0), (36, (.istore 6), 2, 0), (38, (.iconst 0), 1, 0), (39, (.istore 7), 2, 0), (41, (.iload 7), 2, 0), (43, (.iconst 1), 1, 0), (44, (.iload_n 1), 1, 0), (45, .ishl, 1, 0), (46, (.if_icmp .ge 36), 3, 0), (49, (.aload_n 0), 1, 0), (50, (.iload_n 1), 1, 0), (51, (.iload 7), 2, 0), (53, (.iload_n 3), 1, 0), (54, (.invokevirtual 295), 3, 1325), (57, (.iload_n 2), 1, 0), (58, (.if_icmp .eq 6), 3, 0), (61, (.goto 15), 3, 0), (64, (.iload 5), 2, 0), (66, (.ifCond .ne 7), 3, 0), (69, (.iload 7), 2, 0), (71, (.istore 6), 2, 0), (73, (.iinc 5 1), 3, 0), (76, (.iinc 7 1), 3, 0), (79, (.goto (-38)), 3, 0), (82, (.iload 4), 2, 0), (84, (.ifCond .ne 8), 3, 0), (87, (.iload 5), 2, 0), (89, (.goto 5), 3, 0), (92, (.iload 6), 2, 0), (94, .ireturn, 1, 0)]
def x_M_code : List (Nat × Instr × Nat × Nat) := [(0, (.iload_n 1), 1, 0), (1, (.iconst 2), 1, 0), (2, (.bipush 12), 2, 0), (4, (.invokestatic 199), 3, 1279), (7, (.ifCond .eq 12), 3, 0), (10, (.iload_n 2), 1, 0), (11, (.iconst 1), 1, 0), (12, (.iconst 5), 1, 0), (13, (.invokestatic 199), 3, 1279), (16, (.ifCond .ne 7), 3, 0), (19, (.ldc2_w 373), 3, 1499), (22, .lreturn, 1, 0), (23, (.aload_n 0), 1, 0), (24, (.iload_n 1), 1, 0), (25, (.invokevirtual 337), 3, 1419), (28, (.istore_n 3), 1, 0), (29, (.lconst 1), 1, 0), (30, (.lstore 4), 2, 0), (32, (.iconst 1), 1, 0), (33, (.istore 6), 2, 0), (35, (.iload 6), 2, 0), (37, (.iload_n 2), 1, 0), (38, (.if_icmp .gt 126), 3, 0), (41, (.aload_n 0), 1, 0), (42, (.iload_n 1), 1, 0), (43, (.iload_n 3), 1, 0), (44, (.iload 6), 2, 0), (46, (.invokevirtual 295), 3, 1325), (49, (.istore 7), 2, 0), (51, (.iconst 1), 1, 0), (52, (.istore 8), 2, 0), (54, (.iconst 1), 1, 0), (55, (.istore 9), 2, 0), (57, (.iload 9), 2, 0), (59, (.iload 6), 2, 0), (61, (.if_icmp .ge 35), 3, 0), (64, (.aload_n 0), 1, 0), (65, (.iload_n 1), 1, 0), (66, (.aload_n 0), 1, 0), (67, (.iload_n 1), 1, 0), (68, (.iload_n 3), 1, 0), (69, (.iload 9), 2, 0), (71, (.invokevirtual 295), 3, 1325), (74, (.invokevirtual 358), 3, 1431), (77, (.aload_n 0), 1, 0), (78, (.iload_n 1), 1, 0), (79, (.iload 7), 2, 0), (81, (.invokevirtual 358), 3, 1431), (84, (.if_icmp .ne 6), 3, 0), (87, (.iconst 0), 1, 0), (88, (.istore 8), 2, 0), (90, (.iinc 9 1), 3, 0), (93, (.goto (-36)), 3, 0), (96, (.iload 8), 2, 0), (98, (.ifCond .ne 6), 3, 0), (101, (.goto 57), 3, 0), (104, (.aload_n 0), 1, 0), (105, (.iload_n 1), 1, 0), (106, (.iconst 1), 1, 0), (107, (.iload 7), 2, 0), (109, (.invokevirtual 370), 3, 1479), (112, (.istore 9), 2, 0), (114, (.lconst 0), 1, 0), (115, (.lstore 10), 2, 0), (117, (.iconst 0), 1, 0), (118, (.istore 12), 2, 0), (120, (.iload 12), 2, 0), (122, (.iload 9), 2, 0), (124, (.if_icmp .gt 30), 3, 0), (127, (.aload_n 0), 1, 0), (128, (.getfield 110), 3, 1093), (131, (.iload 12), 2, 0), (133, .iaload, 1, 0), (134, (.iconst 1), 1, 0), (135, (.if_icmp .ne 13), 3, 0), (138, (.lload 10), 2, 0), (140, (.lload 4), 2, 0), (142, (.iload 12), 2, 0), (144, .lshl, 1, 0), (145, .lxor, 1, 0), (146, (.lstore 10), 2, 0), (148, (.iinc 12 1), 3, 0), (151, (.goto (-31)), 3, 0), (154, (.lload 10), 2, 0), (156, (.lstore 4), 2, 0), (158, (.iinc 6 1), 3, 0), (161, (.goto (-126)), 3, 0), (164, (.lload 4), 2, 0), (166, .lreturn, 1, 0)]
def x_M_field : List (Nat × Instr × Nat × Nat) := [(0, (.iload_n 1), 1, 0), (1, (.invokestatic 203), 3, 1276), (4, (.ifCond .ne 5), 3, 0), (7, (.iconst (-1)), 1, 0), (8, .ireturn, 1, 0), (9, (.iload_n 2), 1, 0), (10, (.tableswitch 77 0 5 #[38, 44, 49, 55, 64, 72]), 38, 0), (48, (.aload_n 0), 1, 0), (49, (.iload_n 1), 1, 0), (50, (.invokevirtual 337), 3, 1419), (53, .ireturn, 1, 0), (54, (.iload_n 1), 1, 0), (55, (.invokestatic 375), 3, 1504), (58, .ireturn, 1, 0), (59, (.aload_n 0), 1, 0), (60, (.iload_n 1), 1, 0), (61, (.invokevirtual 343), 3, 1443), (64, .ireturn, 1, 0), (65, (.aload_n 0), 1, 0), (66, (.iload_n 1), 1, 0), (67, (.bipush 8), 2, 0), (69, (.iconst 1), 1, 0), (70, (.invokevirtual 378), 3, 1507), (73, .ireturn, 1, 0), (74, (.aload_n 0), 1, 0), (75, (.iload_n 1), 1, 0), (76, (.iconst 4), 1, 0), (77, (.iload_n 1), 1, 0), (78, (.invokevirtual 378), 3, 1507), (81, .ireturn, 1, 0), (82, (.iload_n 1), 1, 0), (83, (.invokestatic 381), 3, 1512), (86, .ireturn, 1, 0), (87, (.iconst (-1)), 1, 0), (88, .ireturn, 1, 0)]
def x_M_primitives : List (Nat × Instr × Nat × Nat) := [(0, (.iconst 1), 1, 0), (1, (.iload_n 0), 1, 0), (2, .ishl, 1, 0), (3, (.iconst 1), 1, 0), (4, .isub, 1, 0), (5, (.istore_n 1), 1, 0), (6, (.iconst 0), 1, 0), (7, (.istore_n 2), 1, 0), (8, (.iconst 0), 1, 0), (9, (.istore_n 3), 1, 0), (10, (.iload_n 3), 1, 0), (11, (.iload_n 1), 1, 0), (12, (.if_icmp .ge 21), 3, 0), (15, (.iload_n 3), 1, 0), (16, (.iload_n 1), 1, 0), (17, (.invokestatic 319), 3, 1044), (20, (.iconst 1), 1, 0), (21, (.if_icmp .ne 6), 3, 0), (24, (.iinc 2 1), 3, 0), (27, (.iinc 3 1), 3, 0), (30, (.goto (-20)), 3, 0), (33, (.iload_n 2), 1, 0), (34, .ireturn, 1, 0)]
def x_M_countOf : List (Nat × Instr × Nat × Nat) := [(0, (.iconst 0), 1, 0), (1, (.istore 4), 2, 0), (3, (.iconst 0), 1, 0), (4, (.istore 5), 2, 0), (6, (.iload 5), 2, 0), (8, (.iconst 1), 1, 0), (9, (.iload_n 1), 1, 0), (10, .ishl, 1, 0), (11, (.if_icmp .ge 24), 3, 0), (14, (.aload_n 0), 1, 0), (15, (.iload_n 1), 1, 0), (16, (.iload 5), 2, 0), (18, (.iload_n 2), 1, 0), (19, (.invokevirtual 384), 3, 1511), (22, (.iload_n 3), 1, 0), (23, (.if_icmp .ne 6), 3, 0), (26, (.iinc 4 1), 3, 0), (29, (.iinc 5 1), 3, 0), (32, (.goto (-26)), 3, 0), (35, (.iload 4), 2, 0), (37, .ireturn, 1, 0)]
def x_M_divisors : List (Nat × Instr × Nat × Nat) := [(0, (.iconst 0), 1, 0), (1, (.istore_n 1), 1, 0), (2, (.iconst 1), 1, 0), (3, (.istore_n 2), 1, 0), (4, (.iload_n 2), 1, 0), (5, (.iload_n 0), 1, 0), (6, (.if_icmp .gt 23), 3, 0), (9, (.iload_n 0), 1, 0), (10, (.iload_n 2), 1, 0), (11, .irem, 1, 0), (12, (.ifCond .ne 11), 3, 0), (15, (.iload_n 1), 1, 0), (16, (.iconst 1), 1, 0), (17, (.iload_n 2), 1, 0), (18, (.iconst 1), 1, 0), (19, .isub, 1, 0), (20, .ishl, 1, 0), (21, .ior, 1, 0), (22, (.istore_n 1), 1, 0), (23, (.iinc 2 1), 3, 0), (26, (.goto (-22)), 3, 0), (29, (.iload_n 1), 1, 0), (30, .ireturn, 1, 0)]
def x_M_written : List (Nat × Instr × Nat × Nat) := [(0, (.iload_n 1), 1, 0), (1, (.iload_n 2), 1, 0), (2, (.invokestatic 328), 3, 1396), (5, (.ifCond .eq 13), 3, 0), (8, (.iload_n 3), 1, 0), (9, (.iconst 0), 1, 0), (10, (.bipush 25), 2, 0), (12, (.invokestatic 199), 3, 1279), (15, (.ifCond .ne 5), 3, 0), (18, (.iconst (-1)), 1, 0), (19, .ireturn, 1, 0), (20, (.aload_n 0), 1, 0), (21, (.iconst 0), 1, 0), (22, (.putfield 387), 3, 1095), (25, (.iload_n 1), 1, 0), (26, (.iconst 1), 1, 0), (27, .isub, 1, 0), (28, (.istore 5), 2, 0), (30, (.iload 5), 2, 0), (32, (.ifCond .lt 25), 3, 0), (35, (.iload_n 2), 1, 0), (36, (.iload 5), 2, 0), (38, (.invokestatic 195), 3, 1010), (41, (.ifCond .eq 10), 3, 0), (44, (.aload_n 0), 1, 0), (45, (.iload 5), 2, 0), (47, (.iload_n 3), 1, 0), (48, (.invokevirtual 393), 3, 1519), (51, (.iinc 5 (-1)), 3, 0), (54, (.goto (-24)), 3, 0), (57, (.iload_n 2), 1, 0), (58, (.ifCond .ne 9), 3, 0), (61, (.aload_n 0), 1, 0), (62, (.bipush 48), 2, 0), (64, (.invokevirtual 390), 3, 1523), (67, (.iload 4), 2, 0), (69, (.iconst (-1)), 1, 0), (70, (.if_icmp .ne 10), 3, 0), (73, (.aload_n 0), 1, 0), (74, (.getfield 387), 3, 1095), (77, (.goto 29), 3, 0), (80, (.iload 4), 2, 0), (82, (.iconst 0), 1, 0), (83, (.aload_n 0), 1, 0), (84, (.getfield 387), 3, 1095), (87, (.iconst 1), 1, 0), (88, .isub, 1, 0), (89, (.invokestatic 199), 3, 1279), (92, (.ifCond .eq 13), 3, 0), (95, (.aload_n 0), 1, 0), (96, (.getfield 113), 3, 1094), (99, (.iload 4), 2, 0), (101, .iaload, 1, 0), (102, (.goto 4), 3, 0), (105, (.iconst (-1)), 1, 0), (106, .ireturn, 1, 0)]
def x_M_writesPower : List (Nat × Instr × Nat × Nat) := [(0, (.aload_n 0), 1, 0), (1, (.getfield 387), 3, 1095), (4, (.ifCond .le 9), 3, 0), (7, (.aload_n 0), 1, 0), (8, (.bipush 43), 2, 0), (10, (.invokevirtual 390), 3, 1523), (13, (.iload_n 1), 1, 0), (14, (.ifCond .ne 10), 3, 0), (17, (.aload_n 0), 1, 0), (18, (.bipush 49), 2, 0), (20, (.invokevirtual 390), 3, 1523), (23, .return_, 1, 0), (24, (.aload_n 0), 1, 0), (25, (.bipush 97), 2, 0), (27, (.iload_n 2), 1, 0), (28, .iadd, 1, 0), (29, (.invokevirtual 390), 3, 1523), (32, (.iload_n 1), 1, 0), (33, (.iconst 1), 1, 0), (34, (.if_icmp .ne 4), 3, 0), (37, .return_, 1, 0), (38, (.aload_n 0), 1, 0), (39, (.bipush 94), 2, 0), (41, (.invokevirtual 390), 3, 1523), (44, (.iload_n 1), 1, 0), (45, (.bipush 9), 2, 0), (47, (.if_icmp .le 9), 3, 0), (50, (.aload_n 0), 1, 0), (51, (.bipush 49), 2, 0), (53, (.invokevirtual 390), 3, 1523), (56, (.aload_n 0), 1, 0), (57, (.bipush 48), 2, 0), (59, (.iload_n 1), 1, 0), (60, (.bipush 10), 2, 0), (62, .irem, 1, 0), (63, .iadd, 1, 0), (64, (.invokevirtual 390), 3, 1523), (67, .return_, 1, 0)]
def x_M_writes : List (Nat × Instr × Nat × Nat) := [(0, (.aload_n 0), 1, 0), (1, (.getfield 113), 3, 1094), (4, (.aload_n 0), 1, 0), (5, (.getfield 387), 3, 1095), (8, (.iload_n 1), 1, 0), (9, .iastore, 1, 0), (10, (.aload_n 0), 1, 0), (11, .dup, 1, 0), (12, (.getfield 387), 3, 1095), (15, (.iconst 1), 1, 0), (16, .iadd, 1, 0), (17, (.putfield 387), 3, 1095), (20, .return_, 1, 0)]
def x_M_let : List (Nat × Instr × Nat × Nat) := [(0, (.iload_n 1), 1, 0), (1, (.iconst 0), 1, 0), (2, (.aload_n 0), 1, 0), (3, (.getfield 212), 3, 1075), (6, (.iconst 1), 1, 0), (7, .isub, 1, 0), (8, (.invokestatic 199), 3, 1279), (11, (.ifCond .ne 5), 3, 0), (14, (.iconst (-1)), 1, 0), (15, .ireturn, 1, 0), (16, (.aload_n 0), 1, 0), (17, (.getfield 62), 3, 1072), (20, (.iload_n 1), 1, 0), (21, .iaload, 1, 0), (22, (.istore_n 3), 1, 0), (23, (.aload_n 0), 1, 0), (24, (.iload_n 3), 1, 0), (25, (.aload_n 0), 1, 0), (26, (.getfield 65), 3, 1073), (29, (.iload_n 1), 1, 0), (30, .iaload, 1, 0), (31, (.invokevirtual 355), 3, 1427), (34, (.istore 4), 2, 0), (36, (.iload_n 2), 1, 0), (37, (.tableswitch 57 0 3 #[31, 33, 40, 43]), 31, 0), (68, (.iload_n 3), 1, 0), (69, .ireturn, 1, 0), (70, (.aload_n 0), 1, 0), (71, (.getfield 65), 3, 1073), (74, (.iload_n 1), 1, 0), (75, .iaload, 1, 0), (76, .ireturn, 1, 0), (77, (.iload 4), 2, 0), (79, .ireturn, 1, 0), (80, (.aload_n 0), 1, 0), (81, (.iload_n 3), 1, 0), (82, (.iload 4), 2, 0), (84, (.aload_n 0), 1, 0), (85, (.getfield 65), 3, 1073), (88, (.iload_n 1), 1, 0), (89, .iaload, 1, 0), (90, (.invokevirtual 367), 3, 1467), (93, .ireturn, 1, 0), (94, (.iconst (-1)), 1, 0), (95, .ireturn, 1, 0)]
def x_M_count : List (Nat × Instr × Nat × Nat) := [(0, (.iload_n 1), 1, 0), (1, (.tableswitch 100 0 4 #[35, 40, 45, 50, 95]), 35, 0), (36, (.aload_n 0), 1, 0), (37, (.getfield 212), 3, 1075), (40, .ireturn, 1, 0), (41, (.aload_n 0), 1, 0), (42, (.getfield 134), 3, 1048), (45, .ireturn, 1, 0), (46, (.aload_n 0), 1, 0), (47, (.getfield 237), 3, 1087), (50, .ireturn, 1, 0), (51, (.aload_n 0), 1, 0), (52, (.getfield 98), 3, 1089), (55, (.iconst 0), 1, 0), (56, .baload, 1, 0), (57, (.ifCond .eq 7), 3, 0), (60, (.iconst 1), 1, 0), (61, (.goto 4), 3, 0), (64, (.iconst 0), 1, 0), (65, (.aload_n 0), 1, 0), (66, (.getfield 98), 3, 1089), (69, (.iconst 1), 1, 0), (70, .baload, 1, 0), (71, (.ifCond .eq 7), 3, 0), (74, (.iconst 1), 1, 0), (75, (.goto 4), 3, 0), (78, (.iconst 0), 1, 0), (79, .iadd, 1, 0), (80, (.aload_n 0), 1, 0), (81, (.getfield 98), 3, 1089), (84, (.iconst 2), 1, 0), (85, .baload, 1, 0), (86, (.ifCond .eq 7), 3, 0), (89, (.iconst 1), 1, 0), (90, (.goto 4), 3, 0), (93, (.iconst 0), 1, 0), (94, .iadd, 1, 0), (95, .ireturn, 1, 0), (96, (.aload_n 0), 1, 0), (97, (.invokevirtual 396), 3, 1535), (100, .ireturn, 1, 0), (101, (.iconst (-1)), 1, 0), (102, .ireturn, 1, 0)]
def x_M_unlikeModuli : List (Nat × Instr × Nat × Nat) := [(0, (.iconst 0), 1, 0), (1, (.istore_n 1), 1, 0), (2, (.iconst 1), 1, 0), (3, (.istore_n 2), 1, 0), (4, (.iload_n 2), 1, 0), (5, (.bipush 12), 2, 0), (7, (.if_icmp .gt 31), 3, 0), (10, (.aload_n 0), 1, 0), (11, (.getfield 44), 3, 1064), (14, (.iload_n 2), 1, 0), (15, .iaload, 1, 0), (16, (.aload_n 0), 1, 0), (17, (.iload_n 2), 1, 0), (18, (.invokevirtual 128), 3, 1013), (21, (.if_icmp .eq 11), 3, 0), (24, (.iload_n 1), 1, 0), (25, (.iconst 1), 1, 0), (26, (.iload_n 2), 1, 0), (27, (.iconst 1), 1, 0), (28, .isub, 1, 0), (29, .ishl, 1, 0), (30, .ior, 1, 0), (31, (.istore_n 1), 1, 0), (32, (.iinc 2 1), 3, 0), (35, (.goto (-31)), 3, 0), (38, (.iload_n 1), 1, 0), (39, .ireturn, 1, 0)]
def x_Law_law : List (Nat × Instr × Nat × Nat) := [(0, (.new 7), 3, 105), (3, .dup, 1, 0), (4, (.invokespecial 9), 3, 107), (7, (.astore_n 1), 1, 0), (8, (.new 10), 3, 991), (11, .dup, 1, 0), (12, (.invokespecial 12), 3, 993), (15, (.astore_n 2), 1, 0), (16, (.iconst 0), 1, 0), (17, (.istore_n 3), 1, 0), (18, (.iload_n 3), 1, 0), (19, (.aload_n 0), 1, 0), (20, .arraylength, 1, 0), (21, (.bipush 6), 2, 0), (23, .isub, 1, 0), (24, (.if_icmp .gt 1217), 3, 0), (27, (.aload_n 0), 1, 0), (28, (.iload_n 3), 1, 0), (29, .iaload, 1, 0), (30, (.bipush 31), 2, 0), (32, .iand, 1, 0), (33, (.tableswitch 1202 0 29 #[135, 198, 221, 234, 247, 280, 293, 316, 339, 362, 385, 438, 481, 524, 567, 610, 679, 732, 785, 828, 861, 884, 927, 961, 1014, 1047, 1100, 1133, 1156, 1179]), 135, 0), (168, (.aload_n 1), 1, 0), (169, (.aload_n 0), 1, 0), (170, (.iload_n 3), 1, 0), (171, (.iconst 1), 1, 0), (172, .iadd, 1, 0), (173, .iaload, 1, 0), (174, (.aload_n 0), 1, 0), (175, (.iload_n 3), 1, 0), (176, (.iconst 2), 1, 0), (177, .iadd, 1, 0), (178, .iaload, 1, 0), (179, (.aload_n 0), 1, 0), (180, (.iload_n 3), 1, 0), (181, (.iconst 3), 1, 0), (182, .iadd, 1, 0), (183, .iaload, 1, 0), (184, (.aload_n 0), 1, 0), (185, (.iload_n 3), 1, 0), (186, (.iconst 4), 1, 0), (187, .iadd, 1, 0), (188, .iaload, 1, 0), (189, (.aload_n 0), 1, 0), (190, (.iload_n 3), 1, 0), (191, (.iconst 5), 1, 0), (192, .iadd, 1, 0), (193, .iaload, 1, 0), (194, (.invokevirtual 13), 3, 412), (197, (.aload_n 2), 1, 0), (198, (.aload_n 0), 1, 0), (199, (.iload_n 3), 1, 0), (200, (.iconst 1), 1, 0), (201, .iadd, 1, 0), (202, .iaload, 1, 0), (203, (.aload_n 0), 1, 0), (204, (.iload_n 3), 1, 0), (205, (.iconst 2), 1, 0), (206, .iadd, 1, 0), (207, .iaload, 1, 0), (208, (.aload_n 0), 1, 0), (209, (.iload_n 3), 1, 0), (210, (.iconst 3), 1, 0), (211, .iadd, 1, 0), (212, .iaload, 1, 0), (213, (.aload_n 0), 1, 0), (214, (.iload_n 3), 1, 0), (215, (.iconst 4), 1, 0), (216, .iadd, 1, 0), (217, .iaload, 1, 0), (218, (.aload_n 0), 1, 0), (219, (.iload_n 3), 1, 0), (220, (.iconst 5), 1, 0), (221, .iadd, 1, 0), (222, .iaload, 1, 0), (223, (.invokevirtual 17), 3, 1197), (226, (.if_icmp .eq 1009), 3, 0), (229, (.iconst 0), 1, 0), (230, .ireturn, 1, 0), (231, (.aload_n 1), 1, 0), (232, (.aload_n 0), 1, 0), (233, (.iload_n 3), 1, 0), (234, (.iconst 1), 1, 0), (235, .iadd, 1, 0), (236, .iaload, 1, 0), (237, (.invokevirtual 18), 3, 420), (240, (.aload_n 2), 1, 0), (241, (.aload_n 0), 1, 0), (242, (.iload_n 3), 1, 0), (243, (.iconst 1), 1, 0), (244, .iadd, 1, 0), (245, .iaload, 1, 0), (246, (.invokevirtual 22), 3, 1205), (249, (.if_icmp .eq 986), 3, 0), (252, (.iconst 0), 1, 0), (253, .ireturn, 1, 0), (254, (.aload_n 1), 1, 0), (255, (.invokevirtual 23), 3, 424), (258, (.aload_n 2), 1, 0), (259, (.invokevirtual 27), 3, 1209), (262, (.if_icmp .eq 973), 3, 0), (265, (.iconst 0), 1, 0), (266, .ireturn, 1, 0), (267, (.aload_n 1), 1, 0), (268, (.invokevirtual 28), 3, 661), (271, (.aload_n 2), 1, 0), (272, (.invokevirtual 31), 3, 1337), (275, (.if_icmp .eq 960), 3, 0), (278, (.iconst 0), 1, 0), (279, .ireturn, 1, 0), (280, (.aload_n 1), 1, 0), (281, (.aload_n 0), 1, 0), (282, (.iload_n 3), 1, 0), (283, (.iconst 1), 1, 0), (284, .iadd, 1, 0), (285, .iaload, 1, 0), (286, (.aload_n 0), 1, 0), (287, (.iload_n 3), 1, 0), (288, (.iconst 2), 1, 0), (289, .iadd, 1, 0), (290, .iaload, 1, 0), (291, (.invokevirtual 32), 3, 665), (294, (.aload_n 2), 1, 0), (295, (.aload_n 0), 1, 0), (296, (.iload_n 3), 1, 0), (297, (.iconst 1), 1, 0), (298, .iadd, 1, 0), (299, .iaload, 1, 0), (300, (.aload_n 0), 1, 0), (301, (.iload_n 3), 1, 0), (302, (.iconst 2), 1, 0), (303, .iadd, 1, 0), (304, .iaload, 1, 0), (305, (.invokevirtual 36), 3, 1341), (308, (.if_icmp .eq 927), 3, 0), (311, (.iconst 0), 1, 0), (312, .ireturn, 1, 0), (313, (.aload_n 1), 1, 0), (314, (.invokevirtual 37), 3, 677), (317, (.aload_n 2), 1, 0), (318, (.invokevirtual 41), 3, 1345), (321, (.if_icmp .eq 914), 3, 0), (324, (.iconst 0), 1, 0), (325, .ireturn, 1, 0), (326, (.aload_n 1), 1, 0), (327, (.aload_n 0), 1, 0), (328, (.iload_n 3), 1, 0), (329, (.iconst 1), 1, 0), (330, .iadd, 1, 0), (331, .iaload, 1, 0), (332, (.invokevirtual 42), 3, 697), (335, (.aload_n 2), 1, 0), (336, (.aload_n 0), 1, 0), (337, (.iload_n 3), 1, 0), (338, (.iconst 1), 1, 0), (339, .iadd, 1, 0), (340, .iaload, 1, 0), (341, (.invokevirtual 45), 3, 1361), (344, (.if_icmp .eq 891), 3, 0), (347, (.iconst 0), 1, 0), (348, .ireturn, 1, 0), (349, (.aload_n 1), 1, 0), (350, (.aload_n 0), 1, 0), (351, (.iload_n 3), 1, 0), (352, (.iconst 1), 1, 0), (353, .iadd, 1, 0), (354, .iaload, 1, 0), (355, (.invokevirtual 46), 3, 701), (358, (.aload_n 2), 1, 0), (359, (.aload_n 0), 1, 0), (360, (.iload_n 3), 1, 0), (361, (.iconst 1), 1, 0), (362, .iadd, 1, 0), (363, .iaload, 1, 0), (364, (.invokevirtual 49), 3, 1365), (367, (.if_icmp .eq 868), 3, 0), (370, (.iconst 0), 1, 0), (371, .ireturn, 1, 0), (372, (.aload_n 1), 1, 0), (373, (.aload_n 0), 1, 0), (374, (.iload_n 3), 1, 0), (375, (.iconst 1), 1, 0), (376, .iadd, 1, 0), (377, .iaload, 1, 0), (378, (.invokevirtual 50), 3, 709), (381, (.aload_n 2), 1, 0), (382, (.aload_n 0), 1, 0), (383, (.iload_n 3), 1, 0), (384, (.iconst 1), 1, 0), (385, .iadd, 1, 0), (386, .iaload, 1, 0), (387, (.invokevirtual 53), 3, 1369), (390, (.if_icmp .eq 845), 3, 0), (393, (.iconst 0), 1, 0), (394, .ireturn, 1, 0), (395, (.aload_n 1), 1, 0), (396, (.aload_n 0), 1, 0), (397, (.iload_n 3), 1, 0), (398, (.iconst 1), 1, 0), (399, .iadd, 1, 0), (400, .iaload, 1, 0), (401, (.invokevirtual 54), 3, 714), (404, (.aload_n 2), 1, 0), (405, (.aload_n 0), 1, 0), (406, (.iload_n 3), 1, 0), (407, (.iconst 1), 1, 0), (408, .iadd, 1, 0), (409, .iaload, 1, 0), (410, (.invokevirtual 57), 3, 1373), (413, (.if_icmp .eq 822), 3, 0), (416, (.iconst 0), 1, 0), (417, .ireturn, 1, 0), (418, (.aload_n 1), 1, 0), (419, (.aload_n 0), 1, 0), (420, (.iload_n 3), 1, 0), (421, (.iconst 1), 1, 0), (422, .iadd, 1, 0), (423, .iaload, 1, 0), (424, (.aload_n 0), 1, 0), (425, (.iload_n 3), 1, 0), (426, (.iconst 2), 1, 0), (427, .iadd, 1, 0), (428, .iaload, 1, 0), (429, (.aload_n 0), 1, 0), (430, (.iload_n 3), 1, 0), (431, (.iconst 3), 1, 0), (432, .iadd, 1, 0), (433, .iaload, 1, 0), (434, (.aload_n 0), 1, 0), (435, (.iload_n 3), 1, 0), (436, (.iconst 4), 1, 0), (437, .iadd, 1, 0), (438, .iaload, 1, 0), (439, (.invokevirtual 58), 3, 780), (442, (.aload_n 2), 1, 0), (443, (.aload_n 0), 1, 0), (444, (.iload_n 3), 1, 0), (445, (.iconst 1), 1, 0), (446, .iadd, 1, 0), (447, .iaload, 1, 0), (448, (.aload_n 0), 1, 0), (449, (.iload_n 3), 1, 0), (450, (.iconst 2), 1, 0), (451, .iadd, 1, 0), (452, .iaload, 1, 0), (453, (.aload_n 0), 1, 0), (454, (.iload_n 3), 1, 0), (455, (.iconst 3), 1, 0), (456, .iadd, 1, 0), (457, .iaload, 1, 0), (458, (.aload_n 0), 1, 0), (459, (.iload_n 3), 1, 0), (460, (.iconst 4), 1, 0), (461, .iadd, 1, 0), (462, .iaload, 1, 0), (463, (.invokevirtual 62), 3, 1392), (466, (.if_icmp .eq 769), 3, 0), (469, (.iconst 0), 1, 0), (470, .ireturn, 1, 0), (471, (.aload_n 1), 1, 0), (472, (.aload_n 0), 1, 0), (473, (.iload_n 3), 1, 0), (474, (.iconst 1), 1, 0), (475, .iadd, 1, 0), (476, .iaload, 1, 0), (477, (.aload_n 0), 1, 0), (478, (.iload_n 3), 1, 0), (479, (.iconst 2), 1, 0), (480, .iadd, 1, 0), (481, .iaload, 1, 0), (482, (.aload_n 0), 1, 0), (483, (.iload_n 3), 1, 0), (484, (.iconst 3), 1, 0), (485, .iadd, 1, 0), (486, .iaload, 1, 0), (487, (.invokevirtual 63), 3, 786), (490, (.aload_n 2), 1, 0), (491, (.aload_n 0), 1, 0), (492, (.iload_n 3), 1, 0), (493, (.iconst 1), 1, 0), (494, .iadd, 1, 0), (495, .iaload, 1, 0), (496, (.aload_n 0), 1, 0), (497, (.iload_n 3), 1, 0), (498, (.iconst 2), 1, 0), (499, .iadd, 1, 0), (500, .iaload, 1, 0), (501, (.aload_n 0), 1, 0), (502, (.iload_n 3), 1, 0), (503, (.iconst 3), 1, 0), (504, .iadd, 1, 0), (505, .iaload, 1, 0), (506, (.invokevirtual 67), 3, 1399), (509, (.if_icmp .eq 726), 3, 0), (512, (.iconst 0), 1, 0), (513, .ireturn, 1, 0), (514, (.aload_n 1), 1, 0), (515, (.aload_n 0), 1, 0), (516, (.iload_n 3), 1, 0), (517, (.iconst 1), 1, 0), (518, .iadd, 1, 0), (519, .iaload, 1, 0), (520, (.aload_n 0), 1, 0), (521, (.iload_n 3), 1, 0), (522, (.iconst 2), 1, 0), (523, .iadd, 1, 0), (524, .iaload, 1, 0), (525, (.aload_n 0), 1, 0), (526, (.iload_n 3), 1, 0), (527, (.iconst 3), 1, 0), (528, .iadd, 1, 0), (529, .iaload, 1, 0), (530, (.invokevirtual 68), 3, 791), (533, (.aload_n 2), 1, 0), (534, (.aload_n 0), 1, 0), (535, (.iload_n 3), 1, 0), (536, (.iconst 1), 1, 0), (537, .iadd, 1, 0), (538, .iaload, 1, 0), (539, (.aload_n 0), 1, 0), (540, (.iload_n 3), 1, 0), (541, (.iconst 2), 1, 0), (542, .iadd, 1, 0), (543, .iaload, 1, 0), (544, (.aload_n 0), 1, 0), (545, (.iload_n 3), 1, 0), (546, (.iconst 3), 1, 0), (547, .iadd, 1, 0), (548, .iaload, 1, 0), (549, (.invokevirtual 71), 3, 1403), (552, (.if_icmp .eq 683), 3, 0), (555, (.iconst 0), 1, 0), (556, .ireturn, 1, 0), (557, (.aload_n 1), 1, 0), (558, (.aload_n 0), 1, 0), (559, (.iload_n 3), 1, 0), (560, (.iconst 1), 1, 0), (561, .iadd, 1, 0), (562, .iaload, 1, 0), (563, (.aload_n 0), 1, 0), (564, (.iload_n 3), 1, 0), (565, (.iconst 2), 1, 0), (566, .iadd, 1, 0), (567, .iaload, 1, 0), (568, (.aload_n 0), 1, 0), (569, (.iload_n 3), 1, 0), (570, (.iconst 3), 1, 0), (571, .iadd, 1, 0), (572, .iaload, 1, 0), (573, (.invokevirtual 72), 3, 907), (576, (.aload_n 2), 1, 0), (577, (.aload_n 0), 1, 0), (578, (.iload_n 3), 1, 0), (579, (.iconst 1), 1, 0), (580, .iadd, 1, 0), (581, .iaload, 1, 0), (582, (.aload_n 0), 1, 0), (583, (.iload_n 3), 1, 0), (584, (.iconst 2), 1, 0), (585, .iadd, 1, 0), (586, .iaload, 1, 0), (587, (.aload_n 0), 1, 0), (588, (.iload_n 3), 1, 0), (589, (.iconst 3), 1, 0), (590, .iadd, 1, 0), (591, .iaload, 1, 0), (592, (.invokevirtual 75), 3, 1459), (595, (.if_icmp .eq 640), 3, 0), (598, (.iconst 0), 1, 0), (599, .ireturn, 1, 0), (600, (.aload_n 1), 1, 0), (601, (.aload_n 0), 1, 0), (602, (.iload_n 3), 1, 0), (603, (.iconst 1), 1, 0), (604, .iadd, 1, 0), (605, .iaload, 1, 0), (606, (.aload_n 0), 1, 0), (607, (.iload_n 3), 1, 0), (608, (.iconst 2), 1, 0), (609, .iadd, 1, 0), (610, .iaload, 1, 0), (611, (.aload_n 0), 1, 0), (612, (.iload_n 3), 1, 0), (613, (.iconst 3), 1, 0), (614, .iadd, 1, 0), (615, .iaload, 1, 0), (616, (.invokevirtual 76), 3, 914), (619, (.aload_n 2), 1, 0), (620, (.aload_n 0), 1, 0), (621, (.iload_n 3), 1, 0), (622, (.iconst 1), 1, 0), (623, .iadd, 1, 0), (624, .iaload, 1, 0), (625, (.aload_n 0), 1, 0), (626, (.iload_n 3), 1, 0), (627, (.iconst 2), 1, 0), (628, .iadd, 1, 0), (629, .iaload, 1, 0), (630, (.aload_n 0), 1, 0), (631, (.iload_n 3), 1, 0), (632, (.iconst 3), 1, 0), (633, .iadd, 1, 0), (634, .iaload, 1, 0), (635, (.invokevirtual 79), 3, 1463), (638, (.if_icmp .eq 597), 3, 0), (641, (.iconst 0), 1, 0), (642, .ireturn, 1, 0), (643, (.aload_n 1), 1, 0), (644, (.aload_n 0), 1, 0), (645, (.iload_n 3), 1, 0), (646, (.iconst 1), 1, 0), (647, .iadd, 1, 0), (648, .iaload, 1, 0), (649, (.aload_n 0), 1, 0), (650, (.iload_n 3), 1, 0), (651, (.iconst 2), 1, 0), (652, .iadd, 1, 0), (653, .iaload, 1, 0), (654, (.aload_n 0), 1, 0), (655, (.iload_n 3), 1, 0), (656, (.iconst 3), 1, 0), (657, .iadd, 1, 0), (658, .iaload, 1, 0), (659, (.aload_n 0), 1, 0), (660, (.iload_n 3), 1, 0), (661, (.iconst 4), 1, 0), (662, .iadd, 1, 0), (663, .iaload, 1, 0), (664, (.ifCond .eq 7), 3, 0), (667, (.iconst 1), 1, 0), (668, (.goto 4), 3, 0), (671, (.iconst 0), 1, 0), (672, (.invokevirtual 80), 3, 925), (675, (.aload_n 2), 1, 0), (676, (.aload_n 0), 1, 0), (677, (.iload_n 3), 1, 0), (678, (.iconst 1), 1, 0), (679, .iadd, 1, 0), (680, .iaload, 1, 0), (681, (.aload_n 0), 1, 0), (682, (.iload_n 3), 1, 0), (683, (.iconst 2), 1, 0), (684, .iadd, 1, 0), (685, .iaload, 1, 0), (686, (.aload_n 0), 1, 0), (687, (.iload_n 3), 1, 0), (688, (.iconst 3), 1, 0), (689, .iadd, 1, 0), (690, .iaload, 1, 0), (691, (.aload_n 0), 1, 0), (692, (.iload_n 3), 1, 0), (693, (.iconst 4), 1, 0), (694, .iadd, 1, 0), (695, .iaload, 1, 0), (696, (.ifCond .eq 7), 3, 0), (699, (.iconst 1), 1, 0), (700, (.goto 4), 3, 0), (703, (.iconst 0), 1, 0), (704, (.invokevirtual 84), 3, 1471), (707, (.if_icmp .eq 528), 3, 0), (710, (.iconst 0), 1, 0), (711, .ireturn, 1, 0), (712, (.aload_n 1), 1, 0), (713, (.aload_n 0), 1, 0), (714, (.iload_n 3), 1, 0), (715, (.iconst 1), 1, 0), (716, .iadd, 1, 0), (717, .iaload, 1, 0), (718, (.aload_n 0), 1, 0), (719, (.iload_n 3), 1, 0), (720, (.iconst 2), 1, 0), (721, .iadd, 1, 0), (722, .iaload, 1, 0), (723, (.aload_n 0), 1, 0), (724, (.iload_n 3), 1, 0), (725, (.iconst 3), 1, 0), (726, .iadd, 1, 0), (727, .iaload, 1, 0), (728, (.aload_n 0), 1, 0), (729, (.iload_n 3), 1, 0), (730, (.iconst 4), 1, 0), (731, .iadd, 1, 0), (732, .iaload, 1, 0), (733, (.invokevirtual 85), 3, 934), (736, (.aload_n 2), 1, 0), (737, (.aload_n 0), 1, 0), (738, (.iload_n 3), 1, 0), (739, (.iconst 1), 1, 0), (740, .iadd, 1, 0), (741, .iaload, 1, 0), (742, (.aload_n 0), 1, 0), (743, (.iload_n 3), 1, 0), (744, (.iconst 2), 1, 0), (745, .iadd, 1, 0), (746, .iaload, 1, 0), (747, (.aload_n 0), 1, 0), (748, (.iload_n 3), 1, 0), (749, (.iconst 3), 1, 0), (750, .iadd, 1, 0), (751, .iaload, 1, 0), (752, (.aload_n 0), 1, 0), (753, (.iload_n 3), 1, 0), (754, (.iconst 4), 1, 0), (755, .iadd, 1, 0), (756, .iaload, 1, 0), (757, (.invokevirtual 88), 3, 1475), (760, (.if_icmp .eq 475), 3, 0), (763, (.iconst 0), 1, 0), (764, .ireturn, 1, 0), (765, (.aload_n 1), 1, 0), (766, (.aload_n 0), 1, 0), (767, (.iload_n 3), 1, 0), (768, (.iconst 1), 1, 0), (769, .iadd, 1, 0), (770, .iaload, 1, 0), (771, (.aload_n 0), 1, 0), (772, (.iload_n 3), 1, 0), (773, (.iconst 2), 1, 0), (774, .iadd, 1, 0), (775, .iaload, 1, 0), (776, (.aload_n 0), 1, 0), (777, (.iload_n 3), 1, 0), (778, (.iconst 3), 1, 0), (779, .iadd, 1, 0), (780, .iaload, 1, 0), (781, (.aload_n 0), 1, 0), (782, (.iload_n 3), 1, 0), (783, (.iconst 4), 1, 0), (784, .iadd, 1, 0), (785, .iaload, 1, 0), (786, (.invokevirtual 89), 3, 871), (789, (.aload_n 2), 1, 0), (790, (.aload_n 0), 1, 0), (791, (.iload_n 3), 1, 0), (792, (.iconst 1), 1, 0), (793, .iadd, 1, 0), (794, .iaload, 1, 0), (795, (.aload_n 0), 1, 0), (796, (.iload_n 3), 1, 0), (797, (.iconst 2), 1, 0), (798, .iadd, 1, 0), (799, .iaload, 1, 0), (800, (.aload_n 0), 1, 0), (801, (.iload_n 3), 1, 0), (802, (.iconst 3), 1, 0), (803, .iadd, 1, 0), (804, .iaload, 1, 0), (805, (.aload_n 0), 1, 0), (806, (.iload_n 3), 1, 0), (807, (.iconst 4), 1, 0), (808, .iadd, 1, 0), (809, .iaload, 1, 0), (810, (.invokevirtual 92), 3, 1483), (813, (.if_icmp .eq 422), 3, 0), (816, (.iconst 0), 1, 0), (817, .ireturn, 1, 0), (818, (.aload_n 1), 1, 0), (819, (.aload_n 0), 1, 0), (820, (.iload_n 3), 1, 0), (821, (.iconst 1), 1, 0), (822, .iadd, 1, 0), (823, .iaload, 1, 0), (824, (.aload_n 0), 1, 0), (825, (.iload_n 3), 1, 0), (826, (.iconst 2), 1, 0), (827, .iadd, 1, 0), (828, .iaload, 1, 0), (829, (.aload_n 0), 1, 0), (830, (.iload_n 3), 1, 0), (831, (.iconst 3), 1, 0), (832, .iadd, 1, 0), (833, .iaload, 1, 0), (834, (.invokevirtual 93), 3, 720), (837, (.aload_n 2), 1, 0), (838, (.aload_n 0), 1, 0), (839, (.iload_n 3), 1, 0), (840, (.iconst 1), 1, 0), (841, .iadd, 1, 0), (842, .iaload, 1, 0), (843, (.aload_n 0), 1, 0), (844, (.iload_n 3), 1, 0), (845, (.iconst 2), 1, 0), (846, .iadd, 1, 0), (847, .iaload, 1, 0), (848, (.aload_n 0), 1, 0), (849, (.iload_n 3), 1, 0), (850, (.iconst 3), 1, 0), (851, .iadd, 1, 0), (852, .iaload, 1, 0), (853, (.invokevirtual 96), 3, 1487), (856, (.if_icmp .eq 379), 3, 0), (859, (.iconst 0), 1, 0), (860, .ireturn, 1, 0), (861, (.aload_n 1), 1, 0), (862, (.aload_n 0), 1, 0), (863, (.iload_n 3), 1, 0), (864, (.iconst 1), 1, 0), (865, .iadd, 1, 0), (866, .iaload, 1, 0), (867, (.aload_n 0), 1, 0), (868, (.iload_n 3), 1, 0), (869, (.iconst 2), 1, 0), (870, .iadd, 1, 0), (871, .iaload, 1, 0), (872, (.invokevirtual 97), 3, 728), (875, (.aload_n 2), 1, 0), (876, (.aload_n 0), 1, 0), (877, (.iload_n 3), 1, 0), (878, (.iconst 1), 1, 0), (879, .iadd, 1, 0), (880, .iaload, 1, 0), (881, (.aload_n 0), 1, 0), (882, (.iload_n 3), 1, 0), (883, (.iconst 2), 1, 0), (884, .iadd, 1, 0), (885, .iaload, 1, 0), (886, (.invokevirtual 101), 3, 1377), (889, (.if_icmp .eq 346), 3, 0), (892, (.iconst 0), 1, 0), (893, .ireturn, 1, 0), (894, (.aload_n 1), 1, 0), (895, (.aload_n 0), 1, 0), (896, (.iload_n 3), 1, 0), (897, (.iconst 1), 1, 0), (898, .iadd, 1, 0), (899, .iaload, 1, 0), (900, (.invokevirtual 102), 3, 738), (903, (.aload_n 2), 1, 0), (904, (.aload_n 0), 1, 0), (905, (.iload_n 3), 1, 0), (906, (.iconst 1), 1, 0), (907, .iadd, 1, 0), (908, .iaload, 1, 0), (909, (.invokevirtual 105), 3, 1384), (912, (.if_icmp .eq 323), 3, 0), (915, (.iconst 0), 1, 0), (916, .ireturn, 1, 0), (917, (.aload_n 1), 1, 0), (918, (.aload_n 0), 1, 0), (919, (.iload_n 3), 1, 0), (920, (.iconst 1), 1, 0), (921, .iadd, 1, 0), (922, .iaload, 1, 0), (923, (.aload_n 0), 1, 0), (924, (.iload_n 3), 1, 0), (925, (.iconst 2), 1, 0), (926, .iadd, 1, 0), (927, .iaload, 1, 0), (928, (.aload_n 0), 1, 0), (929, (.iload_n 3), 1, 0), (930, (.iconst 3), 1, 0), (931, .iadd, 1, 0), (932, .iaload, 1, 0), (933, (.invokevirtual 106), 3, 900), (936, (.aload_n 2), 1, 0), (937, (.aload_n 0), 1, 0), (938, (.iload_n 3), 1, 0), (939, (.iconst 1), 1, 0), (940, .iadd, 1, 0), (941, .iaload, 1, 0), (942, (.aload_n 0), 1, 0), (943, (.iload_n 3), 1, 0), (944, (.iconst 2), 1, 0), (945, .iadd, 1, 0), (946, .iaload, 1, 0), (947, (.aload_n 0), 1, 0), (948, (.iload_n 3), 1, 0), (949, (.iconst 3), 1, 0), (950, .iadd, 1, 0), (951, .iaload, 1, 0), (952, (.invokevirtual 109), 3, 1388), (955, (.if_icmp .eq 280), 3, 0), (958, (.iconst 0), 1, 0), (959, .ireturn, 1, 0), (960, (.aload_n 1), 1, 0), (961, (.aload_n 0), 1, 0), (962, (.iload_n 3), 1, 0), (963, (.iconst 1), 1, 0), (964, .iadd, 1, 0), (965, .iaload, 1, 0), (966, (.aload_n 0), 1, 0), (967, (.iload_n 3), 1, 0), (968, (.iconst 2), 1, 0), (969, .iadd, 1, 0), (970, .iaload, 1, 0), (971, (.invokevirtual 110), 3, 745), (974, (.aload_n 2), 1, 0), (975, (.aload_n 0), 1, 0), (976, (.iload_n 3), 1, 0), (977, (.iconst 1), 1, 0), (978, .iadd, 1, 0), (979, .iaload, 1, 0), (980, (.aload_n 0), 1, 0), (981, (.iload_n 3), 1, 0), (982, (.iconst 2), 1, 0), (983, .iadd, 1, 0), (984, .iaload, 1, 0), (985, (.invokevirtual 114), 3, 1495), (988, .lcmp, 1, 0), (989, (.ifCond .eq 246), 3, 0), (992, (.iconst 0), 1, 0), (993, .ireturn, 1, 0), (994, (.aload_n 1), 1, 0), (995, (.aload_n 0), 1, 0), (996, (.iload_n 3), 1, 0), (997, (.iconst 1), 1, 0), (998, .iadd, 1, 0), (999, .iaload, 1, 0), (1000, (.aload_n 0), 1, 0), (1001, (.iload_n 3), 1, 0), (1002, (.iconst 2), 1, 0), (1003, .iadd, 1, 0), (1004, .iaload, 1, 0), (1005, (.aload_n 0), 1, 0), (1006, (.iload_n 3), 1, 0), (1007, (.iconst 3), 1, 0), (1008, .iadd, 1, 0), (1009, .iaload, 1, 0), (1010, (.aload_n 0), 1, 0), (1011, (.iload_n 3), 1, 0), (1012, (.iconst 4), 1, 0), (1013, .iadd, 1, 0), (1014, .iaload, 1, 0), (1015, (.invokevirtual 115), 3, 880), (1018, (.aload_n 2), 1, 0), (1019, (.aload_n 0), 1, 0), (1020, (.iload_n 3), 1, 0), (1021, (.iconst 1), 1, 0), (1022, .iadd, 1, 0), (1023, .iaload, 1, 0), (1024, (.aload_n 0), 1, 0), (1025, (.iload_n 3), 1, 0), (1026, (.iconst 2), 1, 0), (1027, .iadd, 1, 0), (1028, .iaload, 1, 0), (1029, (.aload_n 0), 1, 0), (1030, (.iload_n 3), 1, 0), (1031, (.iconst 3), 1, 0), (1032, .iadd, 1, 0), (1033, .iaload, 1, 0), (1034, (.aload_n 0), 1, 0), (1035, (.iload_n 3), 1, 0), (1036, (.iconst 4), 1, 0), (1037, .iadd, 1, 0), (1038, .iaload, 1, 0), (1039, (.invokevirtual 118), 3, 1491), (1042, (.if_icmp .eq 193), 3, 0), (1045, (.iconst 0), 1, 0), (1046, .ireturn, 1, 0), (1047, (.aload_n 1), 1, 0), (1048, (.aload_n 0), 1, 0), (1049, (.iload_n 3), 1, 0), (1050, (.iconst 1), 1, 0), (1051, .iadd, 1, 0), (1052, .iaload, 1, 0), (1053, (.aload_n 0), 1, 0), (1054, (.iload_n 3), 1, 0), (1055, (.iconst 2), 1, 0), (1056, .iadd, 1, 0), (1057, .iaload, 1, 0), (1058, (.invokevirtual 119), 3, 943), (1061, (.aload_n 2), 1, 0), (1062, (.aload_n 0), 1, 0), (1063, (.iload_n 3), 1, 0), (1064, (.iconst 1), 1, 0), (1065, .iadd, 1, 0), (1066, .iaload, 1, 0), (1067, (.aload_n 0), 1, 0), (1068, (.iload_n 3), 1, 0), (1069, (.iconst 2), 1, 0), (1070, .iadd, 1, 0), (1071, .iaload, 1, 0), (1072, (.invokevirtual 122), 3, 1500), (1075, (.if_icmp .eq 160), 3, 0), (1078, (.iconst 0), 1, 0), (1079, .ireturn, 1, 0), (1080, (.aload_n 1), 1, 0), (1081, (.aload_n 0), 1, 0), (1082, (.iload_n 3), 1, 0), (1083, (.iconst 1), 1, 0), (1084, .iadd, 1, 0), (1085, .iaload, 1, 0), (1086, (.aload_n 0), 1, 0), (1087, (.iload_n 3), 1, 0), (1088, (.iconst 2), 1, 0), (1089, .iadd, 1, 0), (1090, .iaload, 1, 0), (1091, (.aload_n 0), 1, 0), (1092, (.iload_n 3), 1, 0), (1093, (.iconst 3), 1, 0), (1094, .iadd, 1, 0), (1095, .iaload, 1, 0), (1096, (.aload_n 0), 1, 0), (1097, (.iload_n 3), 1, 0), (1098, (.iconst 4), 1, 0), (1099, .iadd, 1, 0), (1100, .iaload, 1, 0), (1101, (.invokevirtual 123), 3, 958), (1104, (.aload_n 2), 1, 0), (1105, (.aload_n 0), 1, 0), (1106, (.iload_n 3), 1, 0), (1107, (.iconst 1), 1, 0), (1108, .iadd, 1, 0), (1109, .iaload, 1, 0), (1110, (.aload_n 0), 1, 0), (1111, (.iload_n 3), 1, 0), (1112, (.iconst 2), 1, 0), (1113, .iadd, 1, 0), (1114, .iaload, 1, 0), (1115, (.aload_n 0), 1, 0), (1116, (.iload_n 3), 1, 0), (1117, (.iconst 3), 1, 0), (1118, .iadd, 1, 0), (1119, .iaload, 1, 0), (1120, (.aload_n 0), 1, 0), (1121, (.iload_n 3), 1, 0), (1122, (.iconst 4), 1, 0), (1123, .iadd, 1, 0), (1124, .iaload, 1, 0), (1125, (.invokevirtual 126), 3, 1515), (1128, (.if_icmp .eq 107), 3, 0), (1131, (.iconst 0), 1, 0), (1132, .ireturn, 1, 0), (1133, (.aload_n 1), 1, 0), (1134, (.aload_n 0), 1, 0), (1135, (.iload_n 3), 1, 0), (1136, (.iconst 1), 1, 0), (1137, .iadd, 1, 0), (1138, .iaload, 1, 0), (1139, (.aload_n 0), 1, 0), (1140, (.iload_n 3), 1, 0), (1141, (.iconst 2), 1, 0), (1142, .iadd, 1, 0), (1143, .iaload, 1, 0), (1144, (.invokevirtual 127), 3, 974), (1147, (.aload_n 2), 1, 0), (1148, (.aload_n 0), 1, 0), (1149, (.iload_n 3), 1, 0), (1150, (.iconst 1), 1, 0), (1151, .iadd, 1, 0), (1152, .iaload, 1, 0), (1153, (.aload_n 0), 1, 0), (1154, (.iload_n 3), 1, 0), (1155, (.iconst 2), 1, 0), (1156, .iadd, 1, 0), (1157, .iaload, 1, 0), (1158, (.invokevirtual 130), 3, 1527), (1161, (.if_icmp .eq 74), 3, 0), (1164, (.iconst 0), 1, 0), (1165, .ireturn, 1, 0), (1166, (.aload_n 1), 1, 0), (1167, (.aload_n 0), 1, 0), (1168, (.iload_n 3), 1, 0), (1169, (.iconst 1), 1, 0), (1170, .iadd, 1, 0), (1171, .iaload, 1, 0), (1172, (.invokevirtual 131), 3, 689), (1175, (.aload_n 2), 1, 0), (1176, (.aload_n 0), 1, 0), (1177, (.iload_n 3), 1, 0), (1178, (.iconst 1), 1, 0), (1179, .iadd, 1, 0), (1180, .iaload, 1, 0), (1181, (.invokevirtual 135), 3, 1353), (1184, (.if_icmp .eq 51), 3, 0), (1187, (.iconst 0), 1, 0), (1188, .ireturn, 1, 0), (1189, (.aload_n 1), 1, 0), (1190, (.aload_n 0), 1, 0), (1191, (.iload_n 3), 1, 0), (1192, (.iconst 1), 1, 0), (1193, .iadd, 1, 0), (1194, .iaload, 1, 0), (1195, (.invokevirtual 136), 3, 693), (1198, (.aload_n 2), 1, 0), (1199, (.aload_n 0), 1, 0), (1200, (.iload_n 3), 1, 0), (1201, (.iconst 1), 1, 0), (1202, .iadd, 1, 0), (1203, .iaload, 1, 0), (1204, (.invokevirtual 139), 3, 1357), (1207, (.if_icmp .eq 28), 3, 0), (1210, (.iconst 0), 1, 0), (1211, .ireturn, 1, 0), (1212, (.aload_n 1), 1, 0), (1213, (.aload_n 0), 1, 0), (1214, (.iload_n 3), 1, 0), (1215, (.iconst 1), 1, 0), (1216, .iadd, 1, 0), (1217, .iaload, 1, 0), (1218, (.invokevirtual 140), 3, 978), (1221, (.aload_n 2), 1, 0), (1222, (.aload_n 0), 1, 0), (1223, (.iload_n 3), 1, 0), (1224, (.iconst 1), 1, 0), (1225, .iadd, 1, 0), (1226, .iaload, 1, 0), (1227, (.invokevirtual 143), 3, 1531), (1230, (.if_icmp .eq 5), 3, 0), (1233, (.iconst 0), 1, 0), (1234, .ireturn, 1, 0), (1235, (.iinc 3 6), 3, 0), (1238, (.goto (-1220)), 3, 0), (1241, (.iconst 1), 1, 0), (1242, .ireturn, 1, 0)]
/-- a method: name, bytes, locals, answer, raw instructions, frames, words, static, parameters, and the places of its words: code, kind, selects, initialized -/
abbrev MI : Type := MethodName × ByteArray × Nat × Option FieldType × List (Nat × Instr × Nat × Nat) × Nat × Nat × Bool × Nat × Nat × Nat × Nat × Nat
def mi_0 : MI := (⟨"FieldTower", "<init>", "()V"⟩, prog_1_method_1_code, 1, (Option.none : Option FieldType), x_FT_init, 3, 63, false, 0, 109, 108, 0, 89)
def mi_1 : MI := (⟨"FieldTower$Tape", "<init>", "()V"⟩, prog_10_method_1_code, 1, (Option.none : Option FieldType), x_Tape_init, 1, 20, false, 0, 117, 116, 0, 90)
def mi_2 : MI := (⟨"FieldTower$Tower", "<init>", "()V"⟩, prog_11_method_1_code, 2, (Option.none : Option FieldType), x_Tower_init, 2, 42, false, 0, 147, 146, 0, 91)
def mi_3 : MI := (⟨"FieldTower$Span", "<init>", "()V"⟩, prog_9_method_1_code, 1, (Option.none : Option FieldType), x_Span_init, 1, 20, false, 0, 159, 158, 0, 92)
def mi_4 : MI := (⟨"FieldTower$Field", "<init>", "(I)V"⟩, prog_3_method_1_code, 2, (Option.none : Option FieldType), x_Field_init, 1, 20, false, 1, 177, 176, 0, 93)
def mi_5 : MI := (⟨"FieldTower$Cycle", "<init>", "(LFieldTower$Field;)V"⟩, prog_2_method_1_code, 2, (Option.none : Option FieldType), x_Cycle_init, 1, 20, false, 1, 205, 204, 0, 94)
def mi_6 : MI := (⟨"FieldTower$Space", "<init>", "(LFieldTower$Field;LFieldTower$Span;)V"⟩, prog_8_method_1_code, 3, (Option.none : Option FieldType), x_Space_init, 1, 20, false, 2, 226, 225, 0, 95)
def mi_7 : MI := (⟨"FieldTower$Worker", "<init>", "()V"⟩, prog_12_method_1_code, 1, (Option.none : Option FieldType), x_Worker_init, 1, 20, false, 0, 271, 270, 0, 96)
def mi_8 : MI := (⟨"FieldTower$History", "<init>", "()V"⟩, prog_5_method_1_code, 1, (Option.none : Option FieldType), x_Hist_init, 1, 20, false, 0, 301, 300, 0, 97)
def mi_9 : MI := (⟨"FieldTower$Script", "<init>", "()V"⟩, prog_7_method_1_code, 1, (Option.none : Option FieldType), x_Script_init, 1, 20, false, 0, 319, 318, 0, 98)
def mi_10 : MI := (⟨"FieldTower", "feed", "(IIIII)I"⟩, prog_1_method_2_code, 6, (Option.some FieldType.int), x_FT_feed, 1, 22, false, 5, 415, 413, 414, 89)
def mi_11 : MI := (⟨"FieldTower$Tape", "append", "(I)V"⟩, prog_10_method_2_code, 3, (Option.none : Option FieldType), x_Tape_append, 0, 0, false, 1, 419, 417, 418, 90)
def mi_12 : MI := (⟨"FieldTower", "back", "(I)I"⟩, prog_1_method_3_code, 2, (Option.some FieldType.int), x_FT_back, 0, 0, false, 1, 423, 421, 422, 89)
def mi_13 : MI := (⟨"FieldTower", "read", "()I"⟩, prog_1_method_4_code, 3, (Option.some FieldType.int), x_FT_read, 7, 170, false, 0, 427, 425, 426, 89)
def mi_14 : MI := (⟨"FieldTower$Script", "parse", "(LFieldTower$Tape;)I"⟩, prog_7_method_2_code, 8, (Option.some FieldType.int), x_Script_parse, 3, 61, false, 1, 431, 429, 430, 98)
def mi_15 : MI := (⟨"FieldTower$Tape", "rewind", "()V"⟩, prog_10_method_3_code, 1, (Option.none : Option FieldType), x_Tape_rewind, 0, 0, false, 0, 435, 433, 434, 90)
def mi_16 : MI := (⟨"FieldTower$Tape", "scanToken", "()V"⟩, prog_10_method_4_code, 1, (Option.none : Option FieldType), x_Tape_scanToken, 2, 41, false, 0, 439, 437, 438, 90)
def mi_17 : MI := (⟨"FieldTower$Tape", "skipBlanks", "()V"⟩, prog_10_method_5_code, 1, (Option.none : Option FieldType), x_Tape_skipBlanks, 1, 20, false, 0, 443, 442, 0, 90)
def mi_18 : MI := (⟨"FieldTower$Tape", "isBlank", "(I)Z"⟩, prog_10_method_6_code, 1, (Option.some FieldType.boolean), x_Tape_isBlank, 0, 0, true, 1, 446, 445, 0, 90)
def mi_19 : MI := (⟨"FieldTower$Tape", "isLetter", "(I)Z"⟩, prog_10_method_7_code, 2, (Option.some FieldType.boolean), x_Tape_isLetter, 0, 0, false, 1, 450, 449, 1, 90)
def mi_20 : MI := (⟨"FieldTower$Tape", "scanWord", "()V"⟩, prog_10_method_9_code, 1, (Option.none : Option FieldType), x_Tape_scanWord, 1, 21, false, 0, 454, 453, 2, 90)
def mi_21 : MI := (⟨"FieldTower$Tape", "isDigit", "(I)Z"⟩, prog_10_method_8_code, 2, (Option.some FieldType.boolean), x_Tape_isDigit, 0, 0, false, 1, 461, 460, 3, 90)
def mi_22 : MI := (⟨"FieldTower$Tape", "scanRow", "()V"⟩, prog_10_method_10_code, 1, (Option.none : Option FieldType), x_Tape_scanRow, 1, 21, false, 0, 465, 464, 4, 90)
def mi_23 : MI := (⟨"FieldTower$Tape", "signKind", "(I)I"⟩, prog_10_method_11_code, 1, (Option.some FieldType.int), x_Tape_signKind, 0, 0, true, 1, 469, 468, 0, 90)
def mi_24 : MI := (⟨"FieldTower$Grammar", "after", "(III)I"⟩, prog_4_method_2_code, 3, (Option.some FieldType.int), x_Gram_after, 1, 21, true, 3, 472, 471, 0, 100)
def mi_25 : MI := (⟨"FieldTower$Grammar", "isPlainAtom", "(I)Z"⟩, prog_4_method_3_code, 1, (Option.some FieldType.boolean), x_Gram_isPlainAtom, 0, 0, true, 1, 475, 474, 0, 100)
def mi_26 : MI := (⟨"FieldTower$Grammar", "afterPower", "(II)I"⟩, prog_4_method_4_code, 2, (Option.some FieldType.int), x_Gram_afterPower, 0, 0, true, 2, 478, 477, 0, 100)
def mi_27 : MI := (⟨"FieldTower$Script", "keep", "(LFieldTower$Tape;I)V"⟩, prog_7_method_3_code, 3, (Option.none : Option FieldType), x_Script_keep, 0, 0, false, 2, 482, 481, 5, 98)
def mi_28 : MI := (⟨"FieldTower$Script", "check", "()I"⟩, prog_7_method_4_code, 3, (Option.some FieldType.int), x_Script_check, 6, 131, false, 0, 486, 484, 485, 98)
def mi_29 : MI := (⟨"FieldTower$Script", "checkToken", "(I)I"⟩, prog_7_method_5_code, 2, (Option.some FieldType.int), x_Script_checkToken, 5, 110, false, 1, 494, 493, 6, 98)
def mi_30 : MI := (⟨"FieldTower$Script", "checkField", "(I)I"⟩, prog_7_method_6_code, 2, (Option.some FieldType.int), x_Script_checkField, 0, 0, false, 1, 498, 497, 7, 98)
def mi_31 : MI := (⟨"FieldTower$Script", "checkModulus", "(I)I"⟩, prog_7_method_7_code, 3, (Option.some FieldType.int), x_Script_checkModulus, 4, 88, false, 1, 503, 502, 8, 98)
def mi_32 : MI := (⟨"FieldTower$Script", "bitsOf", "(J)I"⟩, prog_7_method_11_code, 7, (Option.some FieldType.int), x_Script_bitsOf, 0, 0, true, 1, 506, 505, 0, 98)
def mi_33 : MI := (⟨"FieldTower", "isField", "(I)Z"⟩, prog_1_method_40_code, 1, (Option.some FieldType.boolean), x_FT_isField, 0, 0, true, 1, 510, 509, 0, 89)
def mi_34 : MI := (⟨"FieldTower$Polynomials", "isModulus", "(II)Z"⟩, prog_6_method_6_code, 2, (Option.some FieldType.boolean), x_Poly_isModulus, 3, 67, true, 2, 513, 512, 0, 102)
def mi_35 : MI := (⟨"FieldTower$Polynomials", "isWhole", "(I)Z"⟩, prog_6_method_5_code, 3, (Option.some FieldType.boolean), x_Poly_isWhole, 2, 45, true, 1, 516, 515, 0, 102)
def mi_36 : MI := (⟨"FieldTower$Polynomials", "degreeOf", "(I)I"⟩, prog_6_method_2_code, 2, (Option.some FieldType.int), x_Poly_degreeOf, 0, 0, true, 1, 519, 518, 0, 102)
def mi_37 : MI := (⟨"FieldTower$Polynomials", "remainder", "(II)I"⟩, prog_6_method_3_code, 5, (Option.some FieldType.int), x_Poly_remainder, 1, 21, true, 2, 522, 521, 0, 102)
def mi_38 : MI := (⟨"FieldTower$Script", "checkNewName", "(I)I"⟩, prog_7_method_8_code, 2, (Option.some FieldType.int), x_Script_checkNewName, 1, 23, false, 1, 526, 525, 9, 98)
def mi_39 : MI := (⟨"FieldTower$Script", "indexOf", "(J)I"⟩, prog_7_method_10_code, 4, (Option.some FieldType.int), x_Script_indexOf, 0, 0, false, 1, 530, 529, 10, 98)
def mi_40 : MI := (⟨"FieldTower$Script", "checkAtom", "(I)I"⟩, prog_7_method_9_code, 3, (Option.some FieldType.int), x_Script_checkAtom, 1, 26, false, 1, 534, 533, 11, 98)
def mi_41 : MI := (⟨"FieldTower", "divides", "(II)Z"⟩, prog_1_method_43_code, 2, (Option.some FieldType.boolean), x_FT_divides, 0, 0, true, 2, 538, 537, 0, 89)
def mi_42 : MI := (⟨"FieldTower$Tower", "copyModuli", "([I)V"⟩, prog_11_method_4_code, 3, (Option.none : Option FieldType), x_Tower_copyModuli, 0, 0, false, 1, 543, 541, 542, 91)
def mi_43 : MI := (⟨"FieldTower$Tower", "takeModuli", "([I)V"⟩, prog_11_method_3_code, 3, (Option.none : Option FieldType), x_Tower_takeModuli, 2, 43, false, 1, 547, 545, 546, 91)
def mi_44 : MI := (⟨"FieldTower$Tower", "setModulus", "(II)V"⟩, prog_11_method_2_code, 4, (Option.none : Option FieldType), x_Tower_setModulus, 1, 20, false, 2, 551, 549, 550, 91)
def mi_45 : MI := (⟨"FieldTower$Cycle", "forget", "()V"⟩, prog_2_method_2_code, 1, (Option.none : Option FieldType), x_Cycle_forget, 0, 0, false, 0, 556, 554, 555, 94)
def mi_46 : MI := (⟨"FieldTower$Space", "forget", "()V"⟩, prog_8_method_2_code, 1, (Option.none : Option FieldType), x_Space_forget, 0, 0, false, 0, 560, 558, 559, 95)
def mi_47 : MI := (⟨"FieldTower$Worker", "workOut", "(LFieldTower$Script;LFieldTower$Tower;)Z"⟩, prog_12_method_2_code, 4, (Option.some FieldType.boolean), x_Worker_workOut, 6, 147, false, 2, 564, 562, 563, 96)
def mi_48 : MI := (⟨"FieldTower$Tower", "prepare", "(I)V"⟩, prog_11_method_6_code, 3, (Option.none : Option FieldType), x_Tower_prepare, 5, 125, false, 1, 568, 566, 567, 91)
def mi_49 : MI := (⟨"FieldTower$Tower", "settle", "(I)V"⟩, prog_11_method_7_code, 4, (Option.none : Option FieldType), x_Tower_settle, 4, 102, false, 1, 573, 572, 12, 91)
def mi_50 : MI := (⟨"FieldTower$Field", "x", "()I"⟩, prog_3_method_5_code, 1, (Option.some FieldType.int), x_Field_x, 2, 45, false, 0, 577, 575, 576, 93)
def mi_51 : MI := (⟨"FieldTower$Tower", "greatestBetween", "(II)I"⟩, prog_11_method_8_code, 3, (Option.some FieldType.int), x_Tower_greatestBetween, 1, 21, true, 2, 581, 580, 0, 91)
def mi_52 : MI := (⟨"FieldTower$Field", "valueAt", "(II)I"⟩, prog_3_method_6_code, 5, (Option.some FieldType.int), x_Field_valueAt, 1, 25, false, 2, 585, 583, 584, 93)
def mi_53 : MI := (⟨"FieldTower$Field", "times", "(II)I"⟩, prog_3_method_2_code, 6, (Option.some FieldType.int), x_Field_times, 0, 0, false, 2, 589, 587, 588, 93)
def mi_54 : MI := (⟨"FieldTower$Cycle", "leastPrimitive", "()I"⟩, prog_2_method_5_code, 2, (Option.some FieldType.int), x_Cycle_leastPrimitive, 3, 76, false, 0, 593, 591, 592, 94)
def mi_55 : MI := (⟨"FieldTower$Cycle", "orderOf", "(I)I"⟩, prog_2_method_3_code, 6, (Option.some FieldType.int), x_Cycle_orderOf, 2, 51, false, 1, 597, 595, 596, 94)
def mi_56 : MI := (⟨"FieldTower$Field", "toThe", "(IJ)I"⟩, prog_3_method_3_code, 7, (Option.some FieldType.int), x_Field_toThe, 1, 25, false, 2, 601, 599, 600, 93)
def mi_57 : MI := (⟨"FieldTower$Tower", "leastImage", "(III)I"⟩, prog_11_method_9_code, 9, (Option.some FieldType.int), x_Tower_leastImage, 3, 74, false, 3, 605, 604, 13, 91)
def mi_58 : MI := (⟨"FieldTower$Tower", "agrees", "(III)Z"⟩, prog_11_method_10_code, 6, (Option.some FieldType.boolean), x_Tower_agrees, 2, 49, false, 3, 610, 609, 14, 91)
def mi_59 : MI := (⟨"FieldTower", "commonDivisor", "(II)I"⟩, prog_1_method_44_code, 6, (Option.some FieldType.int), x_FT_commonDivisor, 0, 0, true, 2, 613, 612, 0, 89)
def mi_60 : MI := (⟨"FieldTower$Worker", "workLine", "(LFieldTower$Script;LFieldTower$Tower;I)Z"⟩, prog_12_method_3_code, 9, (Option.some FieldType.boolean), x_Worker_workLine, 4, 98, false, 3, 618, 617, 15, 96)
def mi_61 : MI := (⟨"FieldTower$Worker", "begin", "(I)V"⟩, prog_12_method_4_code, 2, (Option.none : Option FieldType), x_Worker_begin, 0, 0, false, 1, 623, 622, 16, 96)
def mi_62 : MI := (⟨"FieldTower$Worker", "atomAt", "(LFieldTower$Script;LFieldTower$Tower;II)I"⟩, prog_12_method_5_code, 7, (Option.some FieldType.int), x_Worker_atomAt, 3, 72, false, 4, 627, 626, 17, 96)
def mi_63 : MI := (⟨"FieldTower$Tower", "raised", "(III)I"⟩, prog_11_method_11_code, 4, (Option.some FieldType.int), x_Tower_raised, 2, 49, false, 3, 633, 631, 632, 91)
def mi_64 : MI := (⟨"FieldTower$Worker", "join", "(LFieldTower$Field;I)Z"⟩, prog_12_method_6_code, 3, (Option.some FieldType.boolean), x_Worker_join, 3, 72, false, 2, 638, 637, 18, 96)
def mi_65 : MI := (⟨"FieldTower$Field", "inverse", "(I)I"⟩, prog_3_method_4_code, 2, (Option.some FieldType.int), x_Field_inverse, 2, 51, false, 1, 643, 641, 642, 93)
def mi_66 : MI := (⟨"FieldTower$Worker", "goOn", "(III)I"⟩, prog_12_method_7_code, 4, (Option.some FieldType.int), x_Worker_goOn, 1, 21, false, 3, 648, 647, 19, 96)
def mi_67 : MI := (⟨"java/lang/Math", "max", "(II)I"⟩, prog_16_method_65_code, 2, (Option.some FieldType.int), x_Math_max, 0, 0, true, 2, 651, 650, 0, 103)
def mi_68 : MI := (⟨"FieldTower", "keepNameValues", "()V"⟩, prog_1_method_10_code, 1, (Option.none : Option FieldType), x_FT_keepNameValues, 1, 26, false, 0, 655, 654, 20, 89)
def mi_69 : MI := (⟨"FieldTower", "emptySlots", "()V"⟩, prog_1_method_11_code, 2, (Option.none : Option FieldType), x_FT_emptySlots, 0, 0, false, 0, 660, 659, 21, 89)
def mi_70 : MI := (⟨"FieldTower", "place", "()I"⟩, prog_1_method_5_code, 1, (Option.some FieldType.int), x_FT_place, 0, 0, false, 0, 664, 662, 663, 89)
def mi_71 : MI := (⟨"FieldTower", "change", "(II)Z"⟩, prog_1_method_6_code, 4, (Option.some FieldType.boolean), x_FT_change, 7, 170, false, 2, 668, 666, 667, 89)
def mi_72 : MI := (⟨"FieldTower$History", "push", "(II)V"⟩, prog_5_method_2_code, 3, (Option.none : Option FieldType), x_Hist_push, 1, 26, false, 2, 675, 673, 674, 97)
def mi_73 : MI := (⟨"FieldTower", "undo", "()Z"⟩, prog_1_method_7_code, 1, (Option.some FieldType.boolean), x_FT_undo, 7, 170, false, 0, 680, 678, 679, 89)
def mi_74 : MI := (⟨"FieldTower$History", "lastField", "()I"⟩, prog_5_method_3_code, 1, (Option.some FieldType.int), x_Hist_lastField, 0, 0, false, 0, 684, 682, 683, 97)
def mi_75 : MI := (⟨"FieldTower$History", "lastModulus", "()I"⟩, prog_5_method_4_code, 1, (Option.some FieldType.int), x_Hist_lastModulus, 0, 0, false, 0, 688, 686, 687, 97)
def mi_76 : MI := (⟨"FieldTower", "hold", "(I)Z"⟩, prog_1_method_8_code, 2, (Option.some FieldType.boolean), x_FT_hold, 1, 22, false, 1, 692, 690, 691, 89)
def mi_77 : MI := (⟨"FieldTower", "restore", "(I)Z"⟩, prog_1_method_9_code, 2, (Option.some FieldType.boolean), x_FT_restore, 7, 170, false, 1, 696, 694, 695, 89)
def mi_78 : MI := (⟨"FieldTower", "modulus", "(I)I"⟩, prog_1_method_12_code, 2, (Option.some FieldType.int), x_FT_modulus, 1, 20, false, 1, 700, 698, 699, 89)
def mi_79 : MI := (⟨"FieldTower", "whole", "(I)I"⟩, prog_1_method_13_code, 2, (Option.some FieldType.int), x_FT_whole, 3, 67, false, 1, 704, 702, 703, 89)
def mi_80 : MI := (⟨"FieldTower", "hasDegree", "(I)Z"⟩, prog_1_method_42_code, 1, (Option.some FieldType.boolean), x_FT_hasDegree, 0, 0, true, 1, 707, 706, 0, 89)
def mi_81 : MI := (⟨"FieldTower", "next", "(I)I"⟩, prog_1_method_14_code, 3, (Option.some FieldType.int), x_FT_next, 3, 67, false, 1, 712, 710, 711, 89)
def mi_82 : MI := (⟨"FieldTower", "wholes", "(I)I"⟩, prog_1_method_15_code, 2, (Option.some FieldType.int), x_FT_wholes, 1, 20, false, 1, 717, 715, 716, 89)
def mi_83 : MI := (⟨"FieldTower", "value", "(III)I"⟩, prog_1_method_16_code, 4, (Option.some FieldType.int), x_FT_value, 2, 49, false, 3, 723, 721, 722, 89)
def mi_84 : MI := (⟨"FieldTower", "isElement", "(II)Z"⟩, prog_1_method_41_code, 2, (Option.some FieldType.boolean), x_FT_isElement, 1, 20, true, 2, 726, 725, 0, 89)
def mi_85 : MI := (⟨"FieldTower", "factor", "(II)I"⟩, prog_1_method_17_code, 3, (Option.some FieldType.int), x_FT_factor, 3, 71, false, 2, 731, 729, 730, 89)
def mi_86 : MI := (⟨"FieldTower$Polynomials", "factorAt", "(II)I"⟩, prog_6_method_7_code, 6, (Option.some FieldType.int), x_Poly_factorAt, 2, 46, true, 2, 734, 733, 0, 102)
def mi_87 : MI := (⟨"FieldTower$Polynomials", "quotient", "(II)I"⟩, prog_6_method_4_code, 6, (Option.some FieldType.int), x_Poly_quotient, 1, 21, true, 2, 737, 736, 0, 102)
def mi_88 : MI := (⟨"FieldTower", "period", "(I)I"⟩, prog_1_method_18_code, 2, (Option.some FieldType.int), x_FT_period, 2, 44, false, 1, 741, 739, 740, 89)
def mi_89 : MI := (⟨"FieldTower$Polynomials", "periodOf", "(I)I"⟩, prog_6_method_8_code, 4, (Option.some FieldType.int), x_Poly_periodOf, 1, 21, true, 1, 744, 743, 0, 102)
def mi_90 : MI := (⟨"FieldTower", "code", "(II)J"⟩, prog_1_method_19_code, 3, (Option.some FieldType.long), x_FT_code, 6, 151, false, 2, 748, 746, 747, 89)
def mi_91 : MI := (⟨"FieldTower$Tower", "codePolynomial", "(II)J"⟩, prog_11_method_13_code, 8, (Option.some FieldType.long), x_Tower_codePolynomial, 5, 124, false, 2, 753, 751, 752, 91)
def mi_92 : MI := (⟨"FieldTower$Field", "leastPolynomial", "(I)I"⟩, prog_3_method_14_code, 5, (Option.some FieldType.int), x_Field_leastPolynomial, 4, 100, false, 1, 757, 755, 756, 93)
def mi_93 : MI := (⟨"FieldTower$Field", "expandLeast", "(II)I"⟩, prog_3_method_15_code, 7, (Option.some FieldType.int), x_Field_expandLeast, 3, 74, false, 2, 761, 760, 22, 93)
def mi_94 : MI := (⟨"FieldTower$Field", "degreeOver", "(II)I"⟩, prog_3_method_12_code, 6, (Option.some FieldType.int), x_Field_degreeOver, 2, 49, false, 2, 765, 763, 764, 93)
def mi_95 : MI := (⟨"FieldTower$Field", "squared", "(II)I"⟩, prog_3_method_7_code, 5, (Option.some FieldType.int), x_Field_squared, 1, 25, false, 2, 769, 767, 768, 93)
def mi_96 : MI := (⟨"java/lang/Math", "min", "(II)I"⟩, prog_16_method_69_code, 2, (Option.some FieldType.int), x_Math_min, 0, 0, true, 2, 772, 771, 0, 103)
def mi_97 : MI := (⟨"FieldTower$Tower", "isNewPart", "(I)Z"⟩, prog_11_method_14_code, 3, (Option.some FieldType.boolean), x_Tower_isNewPart, 0, 0, false, 1, 776, 775, 23, 91)
def mi_98 : MI := (⟨"FieldTower$Polynomials", "product", "(JI)J"⟩, prog_6_method_9_code, 6, (Option.some FieldType.long), x_Poly_product, 0, 0, true, 2, 779, 778, 0, 102)
def mi_99 : MI := (⟨"FieldTower", "both", "(IIII)I"⟩, prog_1_method_20_code, 6, (Option.some FieldType.int), x_FT_both, 3, 72, false, 4, 783, 781, 782, 89)
def mi_100 : MI := (⟨"FieldTower", "power", "(III)I"⟩, prog_1_method_21_code, 5, (Option.some FieldType.int), x_FT_power, 3, 72, false, 3, 789, 787, 788, 89)
def mi_101 : MI := (⟨"FieldTower", "element", "(III)I"⟩, prog_1_method_22_code, 4, (Option.some FieldType.int), x_FT_element, 7, 159, false, 3, 794, 792, 793, 89)
def mi_102 : MI := (⟨"FieldTower$Cycle", "logarithmOf", "(I)I"⟩, prog_2_method_7_code, 2, (Option.some FieldType.int), x_Cycle_logarithmOf, 5, 120, false, 1, 800, 798, 799, 94)
def mi_103 : MI := (⟨"FieldTower$Cycle", "listLogarithms", "()V"⟩, prog_2_method_8_code, 4, (Option.none : Option FieldType), x_Cycle_listLogarithms, 4, 97, false, 0, 804, 803, 24, 94)
def mi_104 : MI := (⟨"FieldTower$Field", "degreeOf", "(I)I"⟩, prog_3_method_8_code, 2, (Option.some FieldType.int), x_Field_degreeOf, 3, 74, false, 1, 810, 808, 809, 93)
def mi_105 : MI := (⟨"FieldTower$Field", "leastConjugate", "(I)I"⟩, prog_3_method_9_code, 5, (Option.some FieldType.int), x_Field_leastConjugate, 1, 25, false, 1, 814, 812, 813, 93)
def mi_106 : MI := (⟨"FieldTower$Cycle", "isPrimitive", "(I)Z"⟩, prog_2_method_4_code, 2, (Option.some FieldType.boolean), x_Cycle_isPrimitive, 3, 76, false, 1, 818, 816, 817, 94)
def mi_107 : MI := (⟨"FieldTower$Space", "isNormal", "(I)Z"⟩, prog_8_method_4_code, 2, (Option.some FieldType.boolean), x_Space_isNormal, 4, 96, false, 1, 822, 820, 821, 95)
def mi_108 : MI := (⟨"FieldTower$Space", "traceOf", "(I)I"⟩, prog_8_method_3_code, 3, (Option.some FieldType.int), x_Space_traceOf, 3, 74, false, 1, 826, 825, 25, 95)
def mi_109 : MI := (⟨"FieldTower$Field", "traceTo", "(II)I"⟩, prog_3_method_10_code, 6, (Option.some FieldType.int), x_Field_traceTo, 2, 49, false, 2, 830, 828, 829, 93)
def mi_110 : MI := (⟨"java/lang/Integer", "bitCount", "(I)I"⟩, prog_15_method_49_code, 1, (Option.some FieldType.int), x_Intg_bitCount, 0, 0, true, 1, 833, 832, 0, 104)
def mi_111 : MI := (⟨"FieldTower$Space", "spanConjugates", "(I)Z"⟩, prog_8_method_5_code, 5, (Option.some FieldType.boolean), x_Space_spanConjugates, 1, 25, false, 1, 840, 839, 26, 95)
def mi_112 : MI := (⟨"FieldTower$Span", "clear", "()V"⟩, prog_9_method_2_code, 2, (Option.none : Option FieldType), x_Span_clear, 0, 0, false, 0, 844, 842, 843, 92)
def mi_113 : MI := (⟨"FieldTower$Span", "add", "(I)Z"⟩, prog_9_method_3_code, 5, (Option.some FieldType.boolean), x_Span_add, 0, 0, false, 1, 848, 846, 847, 92)
def mi_114 : MI := (⟨"FieldTower$Space", "coordinatesOf", "(I)I"⟩, prog_8_method_7_code, 2, (Option.some FieldType.int), x_Space_coordinatesOf, 6, 138, false, 1, 853, 851, 852, 95)
def mi_115 : MI := (⟨"FieldTower$Space", "leastNormal", "()I"⟩, prog_8_method_6_code, 2, (Option.some FieldType.int), x_Space_leastNormal, 5, 117, false, 0, 857, 855, 856, 95)
def mi_116 : MI := (⟨"FieldTower$Span", "express", "(I)I"⟩, prog_9_method_4_code, 5, (Option.some FieldType.int), x_Span_express, 0, 0, false, 1, 862, 860, 861, 92)
def mi_117 : MI := (⟨"FieldTower$Space", "dualOf", "(I)I"⟩, prog_8_method_8_code, 3, (Option.some FieldType.int), x_Space_dualOf, 5, 121, false, 1, 866, 864, 865, 95)
def mi_118 : MI := (⟨"FieldTower$Space", "tracesWith", "(II)I"⟩, prog_8_method_9_code, 6, (Option.some FieldType.int), x_Space_tracesWith, 4, 96, false, 2, 870, 869, 27, 95)
def mi_119 : MI := (⟨"FieldTower", "solve", "(IIII)I"⟩, prog_1_method_23_code, 6, (Option.some FieldType.int), x_FT_solve, 2, 48, false, 4, 874, 872, 873, 89)
def mi_120 : MI := (⟨"FieldTower$Space", "solveSquare", "(II)I"⟩, prog_8_method_10_code, 4, (Option.some FieldType.int), x_Space_solveSquare, 1, 25, false, 2, 878, 876, 877, 95)
def mi_121 : MI := (⟨"FieldTower", "roots", "(IIII)I"⟩, prog_1_method_24_code, 6, (Option.some FieldType.int), x_FT_roots, 7, 168, false, 4, 883, 881, 882, 89)
def mi_122 : MI := (⟨"FieldTower$Cycle", "rootCount", "(II)I"⟩, prog_2_method_9_code, 4, (Option.some FieldType.int), x_Cycle_rootCount, 6, 141, false, 2, 887, 885, 886, 94)
def mi_123 : MI := (⟨"FieldTower$Cycle", "leastRoot", "(II)I"⟩, prog_2_method_10_code, 8, (Option.some FieldType.int), x_Cycle_leastRoot, 6, 141, false, 2, 894, 892, 893, 94)
def mi_124 : MI := (⟨"FieldTower$Cycle", "rootLogarithm", "(II)I"⟩, prog_2_method_11_code, 6, (Option.some FieldType.int), x_Cycle_rootLogarithm, 0, 0, false, 2, 898, 897, 28, 94)
def mi_125 : MI := (⟨"FieldTower", "coset", "(III)I"⟩, prog_1_method_25_code, 9, (Option.some FieldType.int), x_FT_coset, 1, 21, false, 3, 903, 901, 902, 89)
def mi_126 : MI := (⟨"FieldTower", "doubled", "(II)I"⟩, prog_1_method_26_code, 2, (Option.some FieldType.int), x_FT_doubled, 0, 0, true, 2, 906, 905, 0, 89)
def mi_127 : MI := (⟨"FieldTower", "raise", "(III)I"⟩, prog_1_method_27_code, 4, (Option.some FieldType.int), x_FT_raise, 6, 147, false, 3, 910, 908, 909, 89)
def mi_128 : MI := (⟨"FieldTower", "lower", "(III)I"⟩, prog_1_method_28_code, 4, (Option.some FieldType.int), x_FT_lower, 6, 147, false, 3, 917, 915, 916, 89)
def mi_129 : MI := (⟨"FieldTower$Tower", "lowered", "(III)I"⟩, prog_11_method_12_code, 6, (Option.some FieldType.int), x_Tower_lowered, 1, 25, false, 3, 921, 919, 920, 91)
def mi_130 : MI := (⟨"FieldTower", "down", "(IIIZ)I"⟩, prog_1_method_29_code, 5, (Option.some FieldType.int), x_FT_down, 6, 147, false, 4, 928, 926, 927, 89)
def mi_131 : MI := (⟨"FieldTower$Field", "normTo", "(II)I"⟩, prog_3_method_11_code, 6, (Option.some FieldType.int), x_Field_normTo, 2, 49, false, 2, 932, 930, 931, 93)
def mi_132 : MI := (⟨"FieldTower", "least", "(IIII)I"⟩, prog_1_method_30_code, 6, (Option.some FieldType.int), x_FT_least, 6, 147, false, 4, 937, 935, 936, 89)
def mi_133 : MI := (⟨"FieldTower$Field", "leastCoefficient", "(III)I"⟩, prog_3_method_13_code, 5, (Option.some FieldType.int), x_Field_leastCoefficient, 4, 100, false, 3, 942, 940, 941, 93)
def mi_134 : MI := (⟨"FieldTower", "field", "(II)I"⟩, prog_1_method_31_code, 3, (Option.some FieldType.int), x_FT_field, 6, 138, false, 2, 946, 944, 945, 89)
def mi_135 : MI := (⟨"FieldTower$Cycle", "primitiveCount", "()I"⟩, prog_2_method_6_code, 5, (Option.some FieldType.int), x_Cycle_primitiveCount, 0, 0, false, 0, 951, 949, 950, 94)
def mi_136 : MI := (⟨"FieldTower", "divisorBits", "(I)I"⟩, prog_1_method_32_code, 3, (Option.some FieldType.int), x_FT_divisorBits, 1, 21, true, 1, 957, 956, 0, 89)
def mi_137 : MI := (⟨"FieldTower", "written", "(IIII)I"⟩, prog_1_method_33_code, 6, (Option.some FieldType.int), x_FT_written, 3, 70, false, 4, 961, 959, 960, 89)
def mi_138 : MI := (⟨"FieldTower", "writeOut", "(II)I"⟩, prog_1_method_34_code, 5, (Option.some FieldType.int), x_FT_writeOut, 2, 46, false, 2, 965, 964, 29, 89)
def mi_139 : MI := (⟨"FieldTower", "writePower", "(III)I"⟩, prog_1_method_35_code, 5, (Option.some FieldType.int), x_FT_writePower, 1, 22, false, 3, 969, 968, 30, 89)
def mi_140 : MI := (⟨"FieldTower", "writeByte", "(II)I"⟩, prog_1_method_36_code, 3, (Option.some FieldType.int), x_FT_writeByte, 0, 0, false, 2, 973, 972, 31, 89)
def mi_141 : MI := (⟨"FieldTower", "let", "(II)I"⟩, prog_1_method_37_code, 5, (Option.some FieldType.int), x_FT_let, 6, 147, false, 2, 977, 975, 976, 89)
def mi_142 : MI := (⟨"FieldTower", "count", "(I)I"⟩, prog_1_method_38_code, 2, (Option.some FieldType.int), x_FT_count, 1, 22, false, 1, 981, 979, 980, 89)
def mi_143 : MI := (⟨"FieldTower", "heldSlots", "()I"⟩, prog_1_method_39_code, 3, (Option.some FieldType.int), x_FT_heldSlots, 0, 0, false, 0, 985, 984, 32, 89)
def mi_144 : MI := (⟨"FieldTower$Tower", "otherModuli", "()I"⟩, prog_11_method_5_code, 3, (Option.some FieldType.int), x_Tower_otherModuli, 0, 0, false, 0, 989, 987, 988, 91)
def mi_145 : MI := (⟨"FieldTowerModel", "<init>", "()V"⟩, prog_14_method_2_code, 3, (Option.none : Option FieldType), x_M_init, 6, 143, false, 0, 995, 994, 0, 99)
def mi_146 : MI := (⟨"FieldTowerModel", "letters", "(IIIIIII)J"⟩, prog_14_method_10_code, 7, (Option.some FieldType.long), x_M_letters, 1, 22, true, 7, 999, 998, 0, 99)
def mi_147 : MI := (⟨"FieldTowerModel", "appends", "(JI)J"⟩, prog_14_method_9_code, 3, (Option.some FieldType.long), x_M_appends, 0, 0, true, 2, 1002, 1001, 0, 99)
def mi_148 : MI := (⟨"FieldTowerModel", "degree", "(I)I"⟩, prog_14_method_19_code, 2, (Option.some FieldType.int), x_M_degree, 0, 0, true, 1, 1006, 1005, 0, 99)
def mi_149 : MI := (⟨"FieldTowerModel", "times", "(II)I"⟩, prog_14_method_20_code, 4, (Option.some FieldType.int), x_M_times, 1, 21, true, 2, 1009, 1008, 0, 99)
def mi_150 : MI := (⟨"FieldTowerModel", "has", "(II)Z"⟩, prog_14_method_26_code, 2, (Option.some FieldType.boolean), x_M_has, 0, 0, true, 2, 1012, 1011, 0, 99)
def mi_151 : MI := (⟨"FieldTowerModel", "leastWhole", "(I)I"⟩, prog_14_method_24_code, 3, (Option.some FieldType.int), x_M_leastWhole, 0, 0, false, 1, 1016, 1015, 33, 99)
def mi_152 : MI := (⟨"FieldTowerModel", "laysTower", "()V"⟩, prog_14_method_59_code, 3, (Option.none : Option FieldType), x_M_laysTower, 5, 121, false, 0, 1020, 1019, 34, 99)
def mi_153 : MI := (⟨"FieldTowerModel", "rest", "(II)I"⟩, prog_14_method_21_code, 5, (Option.some FieldType.int), x_M_rest, 1, 21, true, 2, 1023, 1022, 0, 99)
def mi_154 : MI := (⟨"FieldTowerModel", "laysUp", "(II)V"⟩, prog_14_method_60_code, 4, (Option.none : Option FieldType), x_M_laysUp, 4, 98, false, 2, 1027, 1026, 35, 99)
def mi_155 : MI := (⟨"FieldTowerModel", "up", "(III)I"⟩, prog_14_method_57_code, 6, (Option.some FieldType.int), x_M_up, 2, 47, false, 3, 1031, 1030, 36, 99)
def mi_156 : MI := (⟨"FieldTowerModel", "product", "(III)I"⟩, prog_14_method_52_code, 7, (Option.some FieldType.int), x_M_product, 1, 21, false, 3, 1035, 1034, 37, 99)
def mi_157 : MI := (⟨"FieldTowerModel", "agrees", "(III)Z"⟩, prog_14_method_61_code, 7, (Option.some FieldType.boolean), x_M_agrees, 3, 72, false, 3, 1039, 1038, 38, 99)
def mi_158 : MI := (⟨"FieldTowerModel", "valueAt", "(III)I"⟩, prog_14_method_56_code, 6, (Option.some FieldType.int), x_M_valueAt, 2, 47, false, 3, 1043, 1042, 39, 99)
def mi_159 : MI := (⟨"FieldTowerModel", "common", "(II)I"⟩, prog_14_method_58_code, 5, (Option.some FieldType.int), x_M_common, 0, 0, true, 2, 1046, 1045, 0, 99)
def mi_160 : MI := (⟨"FieldTowerModel", "feed", "(IIIII)I"⟩, prog_14_method_3_code, 6, (Option.some FieldType.int), x_M_feed, 1, 22, false, 5, 1200, 1198, 1199, 99)
def mi_161 : MI := (⟨"FieldTowerModel", "lays", "(I)V"⟩, prog_14_method_4_code, 3, (Option.none : Option FieldType), x_M_lays, 0, 0, false, 1, 1204, 1203, 40, 99)
def mi_162 : MI := (⟨"FieldTowerModel", "back", "(I)I"⟩, prog_14_method_5_code, 2, (Option.some FieldType.int), x_M_back, 0, 0, false, 1, 1208, 1206, 1207, 99)
def mi_163 : MI := (⟨"FieldTowerModel", "read", "()I"⟩, prog_14_method_31_code, 2, (Option.some FieldType.int), x_M_read, 7, 164, false, 0, 1212, 1210, 1211, 99)
def mi_164 : MI := (⟨"FieldTowerModel", "cutsText", "()V"⟩, prog_14_method_12_code, 8, (Option.none : Option FieldType), x_M_cutsText, 2, 47, false, 0, 1216, 1215, 41, 99)
def mi_165 : MI := (⟨"FieldTowerModel", "byteAt", "(I)I"⟩, prog_14_method_6_code, 2, (Option.some FieldType.int), x_M_byteAt, 0, 0, false, 1, 1220, 1219, 42, 99)
def mi_166 : MI := (⟨"FieldTowerModel", "token", "(IIIJ)V"⟩, prog_14_method_11_code, 6, (Option.none : Option FieldType), x_M_token, 0, 0, false, 4, 1224, 1223, 43, 99)
def mi_167 : MI := (⟨"FieldTowerModel", "isLetter", "(I)Z"⟩, prog_14_method_8_code, 1, (Option.some FieldType.boolean), x_M_isLetter, 0, 0, true, 1, 1227, 1226, 0, 99)
def mi_168 : MI := (⟨"FieldTowerModel", "isDigit", "(I)Z"⟩, prog_14_method_7_code, 1, (Option.some FieldType.boolean), x_M_isDigit, 0, 0, true, 1, 1230, 1229, 0, 99)
def mi_169 : MI := (⟨"FieldTowerModel", "sign", "(II)I"⟩, prog_14_method_13_code, 3, (Option.some FieldType.int), x_M_sign, 1, 25, false, 2, 1235, 1234, 44, 99)
def mi_170 : MI := (⟨"FieldTowerModel", "is", "(I)Z"⟩, prog_14_method_14_code, 2, (Option.some FieldType.boolean), x_M_is, 0, 0, false, 1, 1239, 1238, 45, 99)
def mi_171 : MI := (⟨"FieldTowerModel", "tell", "()V"⟩, prog_14_method_33_code, 2, (Option.none : Option FieldType), x_M_tell, 5, 104, false, 0, 1243, 1242, 46, 99)
def mi_172 : MI := (⟨"FieldTowerModel", "fail", "(I)V"⟩, prog_14_method_15_code, 2, (Option.none : Option FieldType), x_M_fail, 0, 0, false, 1, 1247, 1246, 47, 99)
def mi_173 : MI := (⟨"FieldTowerModel", "passes", "()V"⟩, prog_14_method_17_code, 1, (Option.none : Option FieldType), x_M_passes, 1, 21, false, 0, 1251, 1250, 48, 99)
def mi_174 : MI := (⟨"FieldTowerModel", "must", "(I)V"⟩, prog_14_method_18_code, 2, (Option.none : Option FieldType), x_M_must, 2, 41, false, 1, 1255, 1254, 49, 99)
def mi_175 : MI := (⟨"FieldTowerModel", "expression", "()V"⟩, prog_14_method_35_code, 3, (Option.none : Option FieldType), x_M_expression, 4, 82, false, 0, 1259, 1258, 50, 99)
def mi_176 : MI := (⟨"FieldTowerModel", "maybePower", "()V"⟩, prog_14_method_34_code, 1, (Option.none : Option FieldType), x_M_maybePower, 3, 62, false, 0, 1263, 1262, 51, 99)
def mi_177 : MI := (⟨"FieldTowerModel", "puts", "()V"⟩, prog_14_method_29_code, 2, (Option.none : Option FieldType), x_M_puts, 0, 0, false, 0, 1267, 1266, 52, 99)
def mi_178 : MI := (⟨"FieldTowerModel", "means", "()V"⟩, prog_14_method_36_code, 2, (Option.none : Option FieldType), x_M_means, 4, 91, false, 0, 1271, 1270, 53, 99)
def mi_179 : MI := (⟨"FieldTowerModel", "meansModulus", "(I)V"⟩, prog_14_method_38_code, 4, (Option.none : Option FieldType), x_M_meansModulus, 2, 44, false, 1, 1275, 1274, 54, 99)
def mi_180 : MI := (⟨"FieldTowerModel", "isField", "(I)Z"⟩, prog_14_method_27_code, 1, (Option.some FieldType.boolean), x_M_isField, 1, 22, true, 1, 1278, 1277, 0, 99)
def mi_181 : MI := (⟨"FieldTowerModel", "in", "(III)Z"⟩, prog_14_method_25_code, 3, (Option.some FieldType.boolean), x_M_in, 0, 0, true, 3, 1281, 1280, 0, 99)
def mi_182 : MI := (⟨"FieldTowerModel", "wrong", "(II)V"⟩, prog_14_method_16_code, 4, (Option.none : Option FieldType), x_M_wrong, 0, 0, false, 2, 1285, 1284, 55, 99)
def mi_183 : MI := (⟨"FieldTowerModel", "rowAt", "(I)I"⟩, prog_14_method_37_code, 4, (Option.some FieldType.int), x_M_rowAt, 1, 21, false, 1, 1289, 1288, 56, 99)
def mi_184 : MI := (⟨"FieldTowerModel", "isWhole", "(I)Z"⟩, prog_14_method_23_code, 2, (Option.some FieldType.boolean), x_M_isWhole, 1, 22, false, 1, 1293, 1292, 57, 99)
def mi_185 : MI := (⟨"FieldTowerModel", "meansLet", "(I)V"⟩, prog_14_method_43_code, 4, (Option.none : Option FieldType), x_M_meansLet, 3, 68, false, 1, 1297, 1296, 58, 99)
def mi_186 : MI := (⟨"FieldTowerModel", "named", "(J)I"⟩, prog_14_method_39_code, 4, (Option.some FieldType.int), x_M_named, 0, 0, false, 1, 1301, 1300, 59, 99)
def mi_187 : MI := (⟨"FieldTowerModel", "meansToken", "(II)V"⟩, prog_14_method_44_code, 4, (Option.none : Option FieldType), x_M_meansToken, 2, 45, false, 2, 1305, 1304, 60, 99)
def mi_188 : MI := (⟨"FieldTowerModel", "step", "(III)V"⟩, prog_14_method_40_code, 4, (Option.none : Option FieldType), x_M_step, 0, 0, false, 3, 1309, 1308, 61, 99)
def mi_189 : MI := (⟨"FieldTowerModel", "settles", "(I)V"⟩, prog_14_method_42_code, 3, (Option.none : Option FieldType), x_M_settles, 1, 23, false, 1, 1313, 1312, 62, 99)
def mi_190 : MI := (⟨"FieldTowerModel", "rank", "(I)I"⟩, prog_14_method_41_code, 1, (Option.some FieldType.int), x_M_rank, 0, 0, true, 1, 1316, 1315, 0, 99)
def mi_191 : MI := (⟨"FieldTowerModel", "works", "()I"⟩, prog_14_method_45_code, 3, (Option.some FieldType.int), x_M_works, 5, 122, false, 0, 1320, 1319, 63, 99)
def mi_192 : MI := (⟨"FieldTowerModel", "worksOne", "(I)I"⟩, prog_14_method_46_code, 8, (Option.some FieldType.int), x_M_worksOne, 4, 95, false, 1, 1324, 1323, 64, 99)
def mi_193 : MI := (⟨"FieldTowerModel", "powered", "(III)I"⟩, prog_14_method_53_code, 7, (Option.some FieldType.int), x_M_powered, 2, 47, false, 3, 1328, 1327, 65, 99)
def mi_194 : MI := (⟨"FieldTowerModel", "inverse", "(II)I"⟩, prog_14_method_54_code, 3, (Option.some FieldType.int), x_M_inverse, 3, 73, false, 2, 1332, 1331, 66, 99)
def mi_195 : MI := (⟨"FieldTowerModel", "takes", "()V"⟩, prog_14_method_30_code, 2, (Option.none : Option FieldType), x_M_takes, 6, 143, false, 0, 1336, 1335, 67, 99)
def mi_196 : MI := (⟨"FieldTowerModel", "place", "()I"⟩, prog_14_method_32_code, 1, (Option.some FieldType.int), x_M_place, 0, 0, false, 0, 1340, 1338, 1339, 99)
def mi_197 : MI := (⟨"FieldTowerModel", "change", "(II)Z"⟩, prog_14_method_47_code, 6, (Option.some FieldType.boolean), x_M_change, 6, 144, false, 2, 1344, 1342, 1343, 99)
def mi_198 : MI := (⟨"FieldTowerModel", "undo", "()Z"⟩, prog_14_method_49_code, 1, (Option.some FieldType.boolean), x_M_undo, 7, 167, false, 0, 1348, 1346, 1347, 99)
def mi_199 : MI := (⟨"FieldTowerModel", "lays", "([II)V"⟩, prog_14_method_48_code, 4, (Option.none : Option FieldType), x_M_lays2, 6, 144, false, 2, 1352, 1351, 68, 99)
def mi_200 : MI := (⟨"FieldTowerModel", "hold", "(I)Z"⟩, prog_14_method_50_code, 3, (Option.some FieldType.boolean), x_M_hold, 1, 22, false, 1, 1356, 1354, 1355, 99)
def mi_201 : MI := (⟨"FieldTowerModel", "restore", "(I)Z"⟩, prog_14_method_51_code, 2, (Option.some FieldType.boolean), x_M_restore, 7, 167, false, 1, 1360, 1358, 1359, 99)
def mi_202 : MI := (⟨"FieldTowerModel", "modulus", "(I)I"⟩, prog_14_method_63_code, 2, (Option.some FieldType.int), x_M_modulus, 2, 42, false, 1, 1364, 1362, 1363, 99)
def mi_203 : MI := (⟨"FieldTowerModel", "whole", "(I)I"⟩, prog_14_method_64_code, 2, (Option.some FieldType.int), x_M_whole, 1, 22, false, 1, 1368, 1366, 1367, 99)
def mi_204 : MI := (⟨"FieldTowerModel", "next", "(I)I"⟩, prog_14_method_65_code, 3, (Option.some FieldType.int), x_M_next, 2, 43, false, 1, 1372, 1370, 1371, 99)
def mi_205 : MI := (⟨"FieldTowerModel", "wholes", "(I)I"⟩, prog_14_method_66_code, 4, (Option.some FieldType.int), x_M_wholes, 2, 42, false, 1, 1376, 1374, 1375, 99)
def mi_206 : MI := (⟨"FieldTowerModel", "factor", "(II)I"⟩, prog_14_method_67_code, 6, (Option.some FieldType.int), x_M_factor, 2, 46, false, 2, 1380, 1378, 1379, 99)
def mi_207 : MI := (⟨"FieldTowerModel", "quotient", "(II)I"⟩, prog_14_method_22_code, 6, (Option.some FieldType.int), x_M_quotient, 1, 21, true, 2, 1383, 1382, 0, 99)
def mi_208 : MI := (⟨"FieldTowerModel", "period", "(I)I"⟩, prog_14_method_68_code, 4, (Option.some FieldType.int), x_M_period, 2, 45, false, 1, 1387, 1385, 1386, 99)
def mi_209 : MI := (⟨"FieldTowerModel", "coset", "(III)I"⟩, prog_14_method_69_code, 8, (Option.some FieldType.int), x_M_coset, 2, 42, false, 3, 1391, 1389, 1390, 99)
def mi_210 : MI := (⟨"FieldTowerModel", "both", "(IIII)I"⟩, prog_14_method_70_code, 5, (Option.some FieldType.int), x_M_both, 4, 95, false, 4, 1395, 1393, 1394, 99)
def mi_211 : MI := (⟨"FieldTowerModel", "isOf", "(II)Z"⟩, prog_14_method_28_code, 2, (Option.some FieldType.boolean), x_M_isOf, 2, 42, true, 2, 1398, 1397, 0, 99)
def mi_212 : MI := (⟨"FieldTowerModel", "power", "(III)I"⟩, prog_14_method_71_code, 6, (Option.some FieldType.int), x_M_power, 3, 73, false, 3, 1402, 1400, 1401, 99)
def mi_213 : MI := (⟨"FieldTowerModel", "element", "(III)I"⟩, prog_14_method_84_code, 4, (Option.some FieldType.int), x_M_element, 6, 140, false, 3, 1406, 1404, 1405, 99)
def mi_214 : MI := (⟨"FieldTowerModel", "squared", "(III)I"⟩, prog_14_method_55_code, 6, (Option.some FieldType.int), x_M_squared, 2, 47, false, 3, 1410, 1409, 69, 99)
def mi_215 : MI := (⟨"FieldTowerModel", "orderOf", "(II)I"⟩, prog_14_method_72_code, 5, (Option.some FieldType.int), x_M_orderOf, 2, 47, false, 2, 1414, 1413, 70, 99)
def mi_216 : MI := (⟨"FieldTowerModel", "logarithm", "(II)I"⟩, prog_14_method_75_code, 6, (Option.some FieldType.int), x_M_logarithm, 5, 115, false, 2, 1418, 1417, 71, 99)
def mi_217 : MI := (⟨"FieldTowerModel", "leastPrimitive", "(I)I"⟩, prog_14_method_74_code, 3, (Option.some FieldType.int), x_M_leastPrimitive, 4, 93, false, 1, 1422, 1421, 72, 99)
def mi_218 : MI := (⟨"FieldTowerModel", "isPrimitive", "(II)Z"⟩, prog_14_method_73_code, 3, (Option.some FieldType.boolean), x_M_isPrimitive, 3, 71, false, 2, 1426, 1425, 73, 99)
def mi_219 : MI := (⟨"FieldTowerModel", "degreeOf", "(II)I"⟩, prog_14_method_76_code, 4, (Option.some FieldType.int), x_M_degreeOf, 3, 72, false, 2, 1430, 1429, 74, 99)
def mi_220 : MI := (⟨"FieldTowerModel", "leastConjugate", "(II)I"⟩, prog_14_method_77_code, 6, (Option.some FieldType.int), x_M_leastConjugate, 2, 47, false, 2, 1434, 1433, 75, 99)
def mi_221 : MI := (⟨"FieldTowerModel", "isNormal", "(II)Z"⟩, prog_14_method_78_code, 8, (Option.some FieldType.boolean), x_M_isNormal, 2, 47, false, 2, 1438, 1437, 76, 99)
def mi_222 : MI := (⟨"FieldTowerModel", "coordinates", "(II)I"⟩, prog_14_method_80_code, 9, (Option.some FieldType.int), x_M_coordinates, 4, 96, false, 2, 1442, 1441, 77, 99)
def mi_223 : MI := (⟨"FieldTowerModel", "leastNormal", "(I)I"⟩, prog_14_method_79_code, 3, (Option.some FieldType.int), x_M_leastNormal, 3, 74, false, 1, 1446, 1445, 78, 99)
def mi_224 : MI := (⟨"FieldTowerModel", "dualOf", "(II)I"⟩, prog_14_method_83_code, 4, (Option.some FieldType.int), x_M_dualOf, 4, 97, false, 2, 1450, 1449, 79, 99)
def mi_225 : MI := (⟨"FieldTowerModel", "isDual", "(III)Z"⟩, prog_14_method_82_code, 6, (Option.some FieldType.boolean), x_M_isDual, 3, 72, false, 3, 1454, 1453, 80, 99)
def mi_226 : MI := (⟨"FieldTowerModel", "traceDown", "(II)I"⟩, prog_14_method_81_code, 6, (Option.some FieldType.int), x_M_traceDown, 2, 47, false, 2, 1458, 1457, 81, 99)
def mi_227 : MI := (⟨"FieldTowerModel", "raise", "(III)I"⟩, prog_14_method_85_code, 4, (Option.some FieldType.int), x_M_raise, 3, 72, false, 3, 1462, 1460, 1461, 99)
def mi_228 : MI := (⟨"FieldTowerModel", "lower", "(III)I"⟩, prog_14_method_86_code, 5, (Option.some FieldType.int), x_M_lower, 4, 96, false, 3, 1466, 1464, 1465, 99)
def mi_229 : MI := (⟨"FieldTowerModel", "lowered", "(III)I"⟩, prog_14_method_62_code, 5, (Option.some FieldType.int), x_M_lowered, 3, 72, false, 3, 1470, 1469, 82, 99)
def mi_230 : MI := (⟨"FieldTowerModel", "down", "(IIIZ)I"⟩, prog_14_method_87_code, 9, (Option.some FieldType.int), x_M_down, 4, 96, false, 4, 1474, 1472, 1473, 99)
def mi_231 : MI := (⟨"FieldTowerModel", "least", "(IIII)I"⟩, prog_14_method_89_code, 6, (Option.some FieldType.int), x_M_least, 4, 99, false, 4, 1478, 1476, 1477, 99)
def mi_232 : MI := (⟨"FieldTowerModel", "laysLeast", "(III)I"⟩, prog_14_method_88_code, 8, (Option.some FieldType.int), x_M_laysLeast, 3, 72, false, 3, 1482, 1481, 83, 99)
def mi_233 : MI := (⟨"FieldTowerModel", "solve", "(IIII)I"⟩, prog_14_method_90_code, 8, (Option.some FieldType.int), x_M_solve, 3, 63, false, 4, 1486, 1484, 1485, 99)
def mi_234 : MI := (⟨"FieldTowerModel", "value", "(III)I"⟩, prog_14_method_91_code, 4, (Option.some FieldType.int), x_M_value, 3, 72, false, 3, 1490, 1488, 1489, 99)
def mi_235 : MI := (⟨"FieldTowerModel", "roots", "(IIII)I"⟩, prog_14_method_92_code, 8, (Option.some FieldType.int), x_M_roots, 3, 73, false, 4, 1494, 1492, 1493, 99)
def mi_236 : MI := (⟨"FieldTowerModel", "code", "(II)J"⟩, prog_14_method_93_code, 13, (Option.some FieldType.long), x_M_code, 5, 115, false, 2, 1498, 1496, 1497, 99)
def mi_237 : MI := (⟨"FieldTowerModel", "field", "(II)I"⟩, prog_14_method_94_code, 3, (Option.some FieldType.int), x_M_field, 8, 188, false, 2, 1503, 1501, 1502, 99)
def mi_238 : MI := (⟨"FieldTowerModel", "primitives", "(I)I"⟩, prog_14_method_95_code, 4, (Option.some FieldType.int), x_M_primitives, 1, 24, true, 1, 1506, 1505, 0, 99)
def mi_239 : MI := (⟨"FieldTowerModel", "countOf", "(III)I"⟩, prog_14_method_96_code, 6, (Option.some FieldType.int), x_M_countOf, 7, 163, false, 3, 1510, 1509, 84, 99)
def mi_240 : MI := (⟨"FieldTowerModel", "divisors", "(I)I"⟩, prog_14_method_97_code, 3, (Option.some FieldType.int), x_M_divisors, 0, 0, true, 1, 1514, 1513, 0, 99)
def mi_241 : MI := (⟨"FieldTowerModel", "written", "(IIII)I"⟩, prog_14_method_100_code, 6, (Option.some FieldType.int), x_M_written, 3, 63, false, 4, 1518, 1516, 1517, 99)
def mi_242 : MI := (⟨"FieldTowerModel", "writesPower", "(II)V"⟩, prog_14_method_99_code, 3, (Option.none : Option FieldType), x_M_writesPower, 1, 21, false, 2, 1522, 1521, 85, 99)
def mi_243 : MI := (⟨"FieldTowerModel", "writes", "(I)V"⟩, prog_14_method_98_code, 2, (Option.none : Option FieldType), x_M_writes, 0, 0, false, 1, 1526, 1525, 86, 99)
def mi_244 : MI := (⟨"FieldTowerModel", "let", "(II)I"⟩, prog_14_method_101_code, 5, (Option.some FieldType.int), x_M_let, 4, 96, false, 2, 1530, 1528, 1529, 99)
def mi_245 : MI := (⟨"FieldTowerModel", "count", "(I)I"⟩, prog_14_method_103_code, 2, (Option.some FieldType.int), x_M_count, 2, 44, false, 1, 1534, 1532, 1533, 99)
def mi_246 : MI := (⟨"FieldTowerModel", "unlikeModuli", "()I"⟩, prog_14_method_102_code, 3, (Option.some FieldType.int), x_M_unlikeModuli, 1, 22, false, 0, 1538, 1537, 87, 99)
def mi_247 : MI := (⟨"FieldTowerLaw", "law", "([I)Z"⟩, code, 4, (Option.some FieldType.boolean), x_Law_law, 11, 422, true, 1, 0, 0, 0, 88)
def mis : List MI := [mi_0, mi_1, mi_2, mi_3, mi_4, mi_5, mi_6, mi_7, mi_8, mi_9, mi_10, mi_11, mi_12, mi_13, mi_14, mi_15, mi_16, mi_17, mi_18, mi_19, mi_20, mi_21, mi_22, mi_23, mi_24, mi_25, mi_26, mi_27, mi_28, mi_29, mi_30, mi_31, mi_32, mi_33, mi_34, mi_35, mi_36, mi_37, mi_38, mi_39, mi_40, mi_41, mi_42, mi_43, mi_44, mi_45, mi_46, mi_47, mi_48, mi_49, mi_50, mi_51, mi_52, mi_53, mi_54, mi_55, mi_56, mi_57, mi_58, mi_59, mi_60, mi_61, mi_62, mi_63, mi_64, mi_65, mi_66, mi_67, mi_68, mi_69, mi_70, mi_71, mi_72, mi_73, mi_74, mi_75, mi_76, mi_77, mi_78, mi_79, mi_80, mi_81, mi_82, mi_83, mi_84, mi_85, mi_86, mi_87, mi_88, mi_89, mi_90, mi_91, mi_92, mi_93, mi_94, mi_95, mi_96, mi_97, mi_98, mi_99, mi_100, mi_101, mi_102, mi_103, mi_104, mi_105, mi_106, mi_107, mi_108, mi_109, mi_110, mi_111, mi_112, mi_113, mi_114, mi_115, mi_116, mi_117, mi_118, mi_119, mi_120, mi_121, mi_122, mi_123, mi_124, mi_125, mi_126, mi_127, mi_128, mi_129, mi_130, mi_131, mi_132, mi_133, mi_134, mi_135, mi_136, mi_137, mi_138, mi_139, mi_140, mi_141, mi_142, mi_143, mi_144, mi_145, mi_146, mi_147, mi_148, mi_149, mi_150, mi_151, mi_152, mi_153, mi_154, mi_155, mi_156, mi_157, mi_158, mi_159, mi_160, mi_161, mi_162, mi_163, mi_164, mi_165, mi_166, mi_167, mi_168, mi_169, mi_170, mi_171, mi_172, mi_173, mi_174, mi_175, mi_176, mi_177, mi_178, mi_179, mi_180, mi_181, mi_182, mi_183, mi_184, mi_185, mi_186, mi_187, mi_188, mi_189, mi_190, mi_191, mi_192, mi_193, mi_194, mi_195, mi_196, mi_197, mi_198, mi_199, mi_200, mi_201, mi_202, mi_203, mi_204, mi_205, mi_206, mi_207, mi_208, mi_209, mi_210, mi_211, mi_212, mi_213, mi_214, mi_215, mi_216, mi_217, mi_218, mi_219, mi_220, mi_221, mi_222, mi_223, mi_224, mi_225, mi_226, mi_227, mi_228, mi_229, mi_230, mi_231, mi_232, mi_233, mi_234, mi_235, mi_236, mi_237, mi_238, mi_239, mi_240, mi_241, mi_242, mi_243, mi_244, mi_245, mi_246, mi_247]
end
section
/-! THE PURE HEAP AND THE MACHINE'S; what is checked of the tables by program -/
abbrev GW : Type := va_G × (Nat → ClassId) × (Nat → Nat) × Heap × (Nat → Nat × (Nat → Int32))
def ad (G : GW) (k : Nat) : Nat := if k < 5 then G.2.2.1 k else G.2.2.2.1.size + (k - 5)
def rfq (G : GW) (k : Nat) : Option Nat := if k = 0 then none else some (ad G k)
def tv (G : GW) (v : Value) : Value := match v with
  | .ref k => va_rf (rfq G k)
  | v => v
def ftl (c : Nat) : List Nat := (fts[c]?).getD []
def fvl (G : GW) (h : PH) (k tc j : Nat) : Value := match tc with
  | 1 => .long (hL h k j)
  | 2 => va_rf (rfq G (hR h k j))
  | _ => .int (hI h k j)
def enO (G : GW) (h : PH) (k c : Nat) : va_E := .inr (c, (List.range (ftl c).length).map (fun j => fvl G h k ((ftl c)[j]?.getD 0) j))
def enA (G : GW) (h : PH) (k t : Nat) : va_E := .inl (G.2.1 t, hN h k, if t = 23 then .inr (.inl (hL h k)) else if 24 ≤ t then .inr (.inr (.inr (.inr (fun j => rfq G (hR h k j))))) else .inl (hI h k))
def enT (G : GW) (h : PH) (k : Nat) : va_E := if hT h k < 20 then enO G h k (hT h k) else enA G h k (hT h k)
def wsH (G : GW) (h : PH) : va_W := (List.range (hE h - 5)).map (fun i => (ad G (i + 5), enT G h (i + 5)))
def tyL (G : GW) : List (ClassId × FieldType) := [(G.2.1 20, .int), (G.2.1 21, .byte), (G.2.1 22, .boolean), (G.2.1 23, .long), (G.2.1 24, .object "FieldTower$Field"), (G.2.1 25, .object "FieldTower$Cycle"), (G.2.1 26, .object "FieldTower$Space"), (G.2.1 27, .array .int)]
def AA (G : GW) : Nat → Prop := fun q => G.2.2.2.1.size ≤ q
def WfH (h : PH) : Prop := 5 ≤ hE h ∧ hT h 0 = 99 ∧ (∀ k, 1 ≤ k → k < 5 → hT h k = 20) ∧ ∀ k, hE h ≤ k → hT h k = 99
def HRl (G : GW) (h : PH) (H : Heap) : Prop := WfH h ∧ (∀ k, 1 ≤ k → k < 5 → hN h k = (G.2.2.2.2 k).1 ∧ hI h k = (G.2.2.2.2 k).2) ∧ H.size = G.2.2.2.1.size + (hE h - 5) ∧ (∀ q, q < G.2.2.2.1.size → H[q]? = G.2.2.2.1[q]?) ∧ va_P G.1 v_cl (wsH G h) H
def va_AOA (ty : FieldType) (U : State) : Prop := (Jvm.Cond.arrayOver (.array ty)).before #[] U = true
def stN (k : Nat) : String := match k with
  | 2 => "LEAST_MODULI"
  | 3 => "WHOLE_POLYNOMIALS"
  | _ => "NORMAL_ELEMENTS"
def isNw : Jvm.Cond → Bool
  | .fieldLinkNest _ _ _ _ _ _ => true
  | .methodLinkNest _ _ _ _ => true
  | _ => false
def tbN : List Jvm.Cond := lw_tbl.filter isNw
def VRl (G : GW) (s : State) : Prop :=
  va_K G.1 v_cl (tyL G) s ∧ (∀ k, 1 ≤ k → k < 5 → va_T .int (G.2.2.1 k) (G.2.2.2.2 k).1 (fun j => .int ((G.2.2.2.2 k).2 j)) (AA G) s G.2.2.2.1) ∧
  (∀ k, 2 ≤ k → k < 5 → va_Z "FieldTower" (stN k) "[I" (.ref (G.2.2.1 k)) (AA G) s G.2.2.2.1) ∧
  va_AO "FieldTower$Field" s ∧ va_AO "FieldTower$Cycle" s ∧ va_AO "FieldTower$Space" s ∧ va_AOA .int s ∧ (∀ w ∈ tbN, va_Nw w s)
def tbG : List Jvm.Cond := lw_tbl.filter goodWord
def wsU (mi : MI) : List Jvm.Cond := Jvm.Cond.code mi.1 mi.2.1 mi.2.2.1 mi.2.2.2.1 :: tbG
def PcU (G : GW) (as : List Value) (h : PH) : Array Value → State → Prop := fun v U => v = (as.map (tv G)).toArray ∧ HRl G h U.heap ∧ VRl G U
def QcU (G : GW) (ret : Option FieldType) (K : PK) : Array Value → State → Outcome → State → Prop := fun _ st o t => st.heap.size ≤ t.heap.size ∧ ∃ r h', K r h' ∧ o = .returned (match ret with | none => none | some _ => some (tv G r)) ∧ HRl G h' t.heap
def rmU (mi : MI) (mc ms : Nat) : Room := { frames := mi.2.2.2.2.2.1, cells := mc, slots := ms, locals := mi.2.2.2.2.2.2.1 }
/-- a call of method i, with these arguments and this heap, comes back with K -/
def PMd (i : Nat) (as : List Value) (h : PH) (K : PK) : Prop := ∀ (l : Launch) (G : GW) (q : List Ent × Nat × Nat) (mi : MI), progs[i]? = some q → mis[i]? = some mi → Met l mi.1 (wsU mi) (rmU mi q.2.1 q.2.2) (PcU G as h) (QcU G mi.2.2.2.1 K) q.2.1 q.2.2 (AA G)
/-- what holds throughout a method's run -/
def CXm (mi : MI) (p : Program) (s : State) (m : MethodId) (args : Array Value) (meth : Method) (c : Code) : Prop :=
  p.tables.exec = Jvm.exec ∧ c.code = mi.2.1 ∧ c.maxLocals = mi.2.2.1 ∧ (∀ w ∈ tbG, w.before args s = true) ∧ s.vm.findClass mi.1.cls = some m.cls ∧ meth.locks = false ∧ (mi.1.name = "<init>" → meth.name = "<init>")
def LRl (G : GW) (pl : PL) (ls : Array Slot) (n : Nat) : Prop := ls.size = n ∧ lv_wf ls ∧ ∀ (i : Nat) (v : Value), pl[i]? = some (some v) → ls[i]? = some (.val (tv G v))
def pcA (mi : MI) (ix : Nat) : Option (Nat × Instr × Nat × Nat) := mi.2.2.2.2.1[ix]?
/-- what a return needs -/
def ROK (G : GW) (mi : MI) (mc ms : Nat) (K : PK) (p : Program) (l : Launch) (e : Env) (R : Room) (s : State) (m : MethodId) (args : Array Value) (below : List Frame) (meth : Method) (c : Code) (Q : State → Prop) : Prop :=
  ∀ (r : Value) (h : PH) (H : Heap) (locs : List Loc) (ca sl : Nat) (ls : Array Slot) (pc : Nat), K r h → HRl G h H → va_S (AA G) s.heap H locs → ca ≤ mc → sl ≤ ms →
    (∀ x : Int32, r = .int x → decode mi.2.1 pc = .ok (.ireturn, 1) → (mi.2.2.2.1 = some .int ∨ (mi.2.2.2.1 = some .boolean ∧ (x = 0 ∨ x = 1))) → W p l e R s m args below meth c H locs ca sl Q (F0 m pc ls [.int x])) ∧
    (∀ x : Int64, r = .long x → decode mi.2.1 pc = .ok (.lreturn, 1) → mi.2.2.2.1 = some .long → W p l e R s m args below meth c H locs ca sl Q (F0 m pc ls [.long x])) ∧
    (r = .null → decode mi.2.1 pc = .ok (.return_, 1) → mi.2.2.2.1 = none → W p l e R s m args below meth c H locs ca sl Q (F0 m pc ls []))
/-- method i at place ix, with these locals, this stack and heap, comes to its end with K -/
def PWd (i ix : Nat) (pl : PL) (st : List Value) (h : PH) (ca sl : Nat) (K : PK) : Prop :=
  ∀ (q : List Ent × Nat × Nat) (mi : MI) (x : Nat × Instr × Nat × Nat), progs[i]? = some q → mis[i]? = some mi → pcA mi ix = some x →
  ∀ (l : Launch) (G : GW) (p : Program) (e : Env) (s : State) (m : MethodId) (args : Array Value) (below : List Frame) (meth : Method) (c : Code) (H : Heap) (locs : List Loc) (ls : Array Slot) (Q : State → Prop),
    CXm mi p s m args meth c → HRl G h H → VRl G s → va_S (AA G) s.heap H locs → G.2.2.2.1.size ≤ s.heap.size → (∀ q, q < G.2.2.2.1.size → s.heap[q]? = G.2.2.2.1[q]?) → LRl G pl ls mi.2.2.1 → ROK G mi q.2.1 q.2.2 K p l e (rmU mi q.2.1 q.2.2) s m args below meth c Q →
    W p l e (rmU mi q.2.1 q.2.2) s m args below meth c H locs ca sl Q (F0 m x.1 ls (st.map (tv G)))
/-! what the program checks: an instruction's raw form, its words, its targets -/
def tbA (pl : Nat) (w : Jvm.Cond) : Bool := decide (lw_tbl[pl]? = some w) && goodWord w
def tbB (pl : Nat) (w : Jvm.Cond) : Bool := decide (lw_tbl[pl]? = some w) && isNw w
def ck_n (mi : MI) (ix pc len : Nat) : Bool := match pcA mi (ix + 1) with
  | some y => y.1 == pc + len
  | none => false
def ck_j (mi : MI) (pc : Nat) (off : Int) (t : Nat) : Bool := match pcA mi t with
  | some y => decide ((pc : Int) + off = (y.1 : Int))
  | none => false
def ck_sw (mi : MI) (pc : Nat) : List (Int × Int) → List (Int32 × Nat) → Bool
  | [], [] => true
  | (v, off) :: a, (u, t) :: b => decide (Int32.ofInt v = u) && decide (u.toInt = v) && ck_j mi pc off t && ck_sw mi pc a b
  | _, _ => false
def ck_call (mi : MI) (mc ms ea nargs ec : Nat) (tl : List (Int32 × Nat)) (idx pl : Nat) (stat : Bool) : Bool := match mis[ea]?, progs[ea]? with
  | some cm, some cq => (tbA pl (.methodLink mi.1.cls idx cm.1) || tbB pl (.methodLinkNest mi.1.cls idx cm.1 "FieldTower")) &&
      tbA cm.2.2.2.2.2.2.2.2.2.1 (.code cm.1 cm.2.1 cm.2.2.1 cm.2.2.2.1) &&
      tbA cm.2.2.2.2.2.2.2.2.2.2.2.2 (.initialized cm.1.cls) && decide (cm.1.cls ≠ "java/lang/invoke/MethodHandle" ∧ cm.1.cls ≠ "java/lang/invoke/VarHandle") &&
      decide ((parseMethodDescriptor cm.1.desc).map (fun d => d.parameters.length) = some cm.2.2.2.2.2.2.2.2.1) && plainFor cm.1 &&
      Nat.ble (cm.2.2.2.2.2.1 + 1) mi.2.2.2.2.2.1 && Nat.ble (8 + (cm.2.2.1 + 11) + cm.2.2.2.2.2.2.1) mi.2.2.2.2.2.2.1 &&
      decide (cm.2.2.2.2.2.2.2.1 = stat) && decide (nargs = cm.2.2.2.2.2.2.2.2.1) && decide (tl_c tl = (cq.2.1, cq.2.2)) &&
      decide ((ec = 0) ↔ cm.2.2.2.1 = none) && (if stat then tbA cm.2.2.2.2.2.2.2.2.2.2.1 (.static cm.1) else tbA cm.2.2.2.2.2.2.2.2.2.2.1 (.instanceMethod cm.1))
  | _, _ => false
def tagTy (t : Nat) : FieldType := match t with
  | 20 => .int
  | 21 => .byte
  | 22 => .boolean
  | 23 => .long
  | _ => .int
def tagCl (t : Nat) : String := match t with
  | 24 => "FieldTower$Field"
  | 25 => "FieldTower$Cycle"
  | _ => "FieldTower$Space"
def isRfT (o : Option FieldType) : Bool := match o with
  | some (.object _) => true
  | some (.array _) => true
  | _ => false
def ck_e (mi : MI) (q : List Ent × Nat × Nat) (e : Ent) (pc : Nat) (raw : Instr) (len pl : Nat) : Bool := match e with
  | (ix, ins, ea, eb, ec, ev, ew, tl) => match ins with
  | .sipush _ => ck_n mi ix pc len && (match raw with
    | .iconst n => len == 1 && decide (Int32.ofInt n = ev)
    | .bipush n => len == 2 && decide ((Int8.ofInt n).toInt32 = ev)
    | .sipush n => len == 3 && decide ((Int16.ofInt n).toInt32 = ev)
    | .ldc idx => len == 2 && tbA pl (.constant mi.1.cls idx ev)
    | .ldc_w idx => len == 3 && tbA pl (.constant mi.1.cls idx ev)
    | _ => false)
  | .ldc2_w _ => ck_n mi ix pc len && (match raw with
    | .lconst n => len == 1 && decide (Int64.ofNat (n : Nat) = ew)
    | .ldc2_w idx => len == 3 && tbA pl (.constantLong mi.1.cls idx ew)
    | _ => false)
  | .iload i => ck_n mi ix pc len && (match raw with
    | .iload j => len == 2 && i == j
    | .iload_n k => len == 1 && i == (k : Nat)
    | _ => false)
  | .lload i => ck_n mi ix pc len && (match raw with
    | .lload j => len == 2 && i == j
    | .lload_n k => len == 1 && i == (k : Nat)
    | _ => false)
  | .aload i => ck_n mi ix pc len && (match raw with
    | .aload j => len == 2 && i == j
    | .aload_n k => len == 1 && i == (k : Nat)
    | _ => false)
  | .istore i => ck_n mi ix pc len && Nat.blt i mi.2.2.1 && (match raw with
    | .istore j => len == 2 && i == j
    | .istore_n k => len == 1 && i == (k : Nat)
    | _ => false)
  | .lstore i => ck_n mi ix pc len && Nat.blt (i + 1) mi.2.2.1 && (match raw with
    | .lstore j => len == 2 && i == j
    | .lstore_n k => len == 1 && i == (k : Nat)
    | _ => false)
  | .astore i => ck_n mi ix pc len && Nat.blt i mi.2.2.1 && (match raw with
    | .astore j => len == 2 && i == j
    | .astore_n k => len == 1 && i == (k : Nat)
    | _ => false)
  | .iinc i _ => ck_n mi ix pc len && Nat.blt i mi.2.2.1 && (match raw with
    | .iinc j n => len == 3 && i == j && decide (Int32.ofInt n = ev)
    | _ => false)
  | .ifCond c _ => ck_n mi ix pc len && (match raw with
    | .ifCond c' off => len == 3 && decide (c = c') && ck_j mi pc off ea
    | _ => false)
  | .if_icmp c _ => ck_n mi ix pc len && (match raw with
    | .if_icmp c' off => len == 3 && decide (c = c') && ck_j mi pc off ea
    | _ => false)
  | .ifnull _ => ck_n mi ix pc len && (match raw with
    | .ifnull off => len == 3 && ck_j mi pc off ea
    | _ => false)
  | .ifnonnull _ => ck_n mi ix pc len && (match raw with
    | .ifnonnull off => len == 3 && ck_j mi pc off ea
    | _ => false)
  | .goto _ => (match raw with
    | .goto off => len == 3 && ck_j mi pc off ea
    | _ => false)
  | .lookupswitch _ _ => (match raw with
    | .lookupswitch d ps => (ps.toList.zip (ps.toList.drop 1)).all (fun (a, next) => a.1 < next.1) && ck_j mi pc d ea && ck_sw mi pc ps.toList tl
    | .tableswitch d lo hi offs => decide (lo + offs.size = hi + 1) && ck_j mi pc d ea && ck_sw mi pc ((List.range offs.size).map (fun (j : Nat) => (lo + (j : Int), offs[j]?.getD 0))) tl
    | _ => false)
  | .getfield _ => ck_n mi ix pc len && (match raw, v_cl[ec]? with
    | .getfield idx, some (C, T, N) => len == 3 && Nat.blt ea N && (tbA pl (.fieldLink mi.1.cls idx C (T ea).2.1 (T ea).2.2.1) || tbB pl (.fieldLinkNest mi.1.cls idx C (T ea).2.1 (T ea).2.2.1 "FieldTower")) && decide ((T ea).1 = C) && Nat.blt ec 11 && decide ((ftl ec).length = N) && (match (ftl ec)[ea]? with
      | some 0 => eb == 0
      | some 1 => eb == 1
      | some 2 => eb == 2
      | some 3 => eb == 0
      | _ => false)
    | _, _ => false)
  | .putfield _ => ck_n mi ix pc len && (match raw, v_cl[ec]? with
    | .putfield idx, some (C, T, N) => len == 3 && Nat.blt ea N && tbA pl (.fieldLink mi.1.cls idx C (T ea).2.1 (T ea).2.2.1) && decide ((T ea).1 = C) && Nat.blt ec 11 && decide ((ftl ec).length = N) && decide ((ftl ec)[ea]? = some eb) &&
        (decide ((T ea).2.2.2 = false) || (decide ((T ea).2.2.2 = true) && decide (mi.1.name = "<init>") && decide (C = mi.1.cls))) && decide (parseFieldDescriptor (T ea).2.2.1 = some (match eb with
          | 0 => .int
          | 1 => .long
          | 3 => .boolean
          | _ => ((parseFieldDescriptor (T ea).2.2.1).getD .int))) && (eb != 2 || isRfT (parseFieldDescriptor (T ea).2.2.1))
    | _, _ => false)
  | .getstatic _ => ck_n mi ix pc len && (match raw with
    | .getstatic idx => len == 3 && Nat.ble 2 ea && Nat.blt ea 5 && (tbA pl (.fieldLink mi.1.cls idx "FieldTower" (stN ea) "[I") || tbB pl (.fieldLinkNest mi.1.cls idx "FieldTower" (stN ea) "[I" "FieldTower"))
    | _ => false)
  | .new _ => ck_n mi ix pc len && (match raw, v_cl[ea]? with
    | .new idx, some (C, _, N) => len == 3 && N == eb && tbA pl (.classLink mi.1.cls idx C) && Nat.blt ea 11 && decide ((ftl ea).length = N)
    | _, _ => false)
  | .newarray a => ck_n mi ix pc len && (match raw with
    | .newarray a' => len == 2 && decide (a = a') && Nat.ble 20 ea && Nat.ble ea 23 && decide (newarray.typeOf a = tagTy ea) && Nat.ble eb 10000
    | _ => false)
  | .anewarray _ => ck_n mi ix pc len && (match raw with
    | .anewarray idx => len == 3 && Nat.ble 24 ea && Nat.ble ea 26 && tbA pl (.classLink mi.1.cls idx (tagCl ea)) && Nat.ble eb 10000
    | _ => false)
  | .multianewarray _ _ => ck_n mi ix pc len && (match raw with
    | .multianewarray idx 2 => len == 4 && tbA pl (.classLink mi.1.cls idx "[[I") && Nat.ble eb 1000 && Nat.ble ec 1000
    | _ => false)
  | .invokevirtual _ => ck_n mi ix pc len && (match raw, mis[ea]? with
    | .invokevirtual idx, some cm => len == 3 && ck_call mi q.2.1 q.2.2 ea (eb - 1) ec tl idx pl false && Nat.ble 1 eb && decide ((v_cl[tl_g tl]?).map (fun r => r.1) = some cm.1.cls) && Nat.blt (tl_g tl) 11 && tbA cm.2.2.2.2.2.2.2.2.2.2.2.1 (.selects cm.1.cls cm.1 cm.1) && decide (tbA pl (.methodLink mi.1.cls idx cm.1) = true)
    | _, _ => false)
  | .invokespecial _ => ck_n mi ix pc len && (match raw, mis[ea]? with
    | .invokespecial idx, some cm => len == 3 && (if ec = 9 then tbA pl (.methodLink mi.1.cls idx objectInit) && Nat.ble 1 mi.2.2.2.2.2.1 && Nat.ble 20 mi.2.2.2.2.2.2.1 else
        ck_call mi q.2.1 q.2.2 ea (eb - 1) ec tl idx pl false && Nat.ble 1 eb && decide (cm.1.name = "<init>") && decide (cm.2.2.2.1 = none) && decide (tbA pl (.methodLink mi.1.cls idx cm.1) = true))
    | _, _ => false)
  | .invokestatic _ => ck_n mi ix pc len && (match raw with
    | .invokestatic idx => len == 3 && (if ec = 8 then tbA pl (.methodLink mi.1.cls idx arraycopyName) && Nat.ble 1 mi.2.2.2.2.2.1 && Nat.ble (8 + 18) mi.2.2.2.2.2.2.1 else ck_call mi q.2.1 q.2.2 ea eb ec tl idx pl true)
    | _ => false)
  | .ireturn => decide (raw = .ireturn) && len == 1 && ((ea == 0 && decide (mi.2.2.2.1 = some .int)) || (ea == 1 && decide (mi.2.2.2.1 = some .boolean)))
  | .lreturn => decide (raw = .lreturn) && len == 1 && decide (mi.2.2.2.1 = some .long)
  | .return_ => decide (raw = .return_) && len == 1 && decide (mi.2.2.2.1 = none)
  | n => ck_n mi ix pc len && decide (raw = n) && len == 1
def ck_at (mi : MI) (q : List Ent × Nat × Nat) (k : Nat) : Bool := match pcA mi k, q.1[k]? with
  | some (pc, raw, len, pl), some e => decide (decode mi.2.1 pc = .ok (raw, len)) && e.1 == k && ck_e mi q e pc raw len pl
  | _, _ => false
def ck_l (i : Nat) : Bool := match mis[i]?, progs[i]? with
  | some mi, some q => decide (mi.2.2.2.2.1.length = q.1.length) && plainFor mi.1 && decide ((pcA mi 0).map (fun x => x.1) = some 0)
  | _, _ => false
def ck_r (i a n : Nat) : Bool := match mis[i]?, progs[i]? with
  | some mi, some q => (List.range n).all (fun k => ck_at mi q (a + k))
  | _, _ => false
/-- all of a method is checked -/
def CkM (i : Nat) : Prop := ∀ (mi : MI) (q : List Ent × Nat × Nat), mis[i]? = some mi → progs[i]? = some q → mi.2.2.2.2.1.length = q.1.length ∧ plainFor mi.1 = true ∧ (∀ k, k < q.1.length → ck_at mi q k = true) ∧ ∃ x, pcA mi 0 = some x ∧ x.1 = 0
theorem ck_r_use {i a n : Nat} (h : ck_r i a n = true) {mi : MI} {q : List Ent × Nat × Nat} (hm : mis[i]? = some mi) (hq : progs[i]? = some q) {k : Nat} (h1 : a ≤ k) (h2 : k < a + n) : ck_at mi q k = true := by
  unfold ck_r at h
  rw [hm, hq] at h
  have := List.all_eq_true.mp h (k - a) (List.mem_range.mpr (by omega))
  rw [show a + (k - a) = k by omega] at this
  exact this
theorem ck_l_use {i : Nat} (h : ck_l i = true) {mi : MI} {q : List Ent × Nat × Nat} (hm : mis[i]? = some mi) (hq : progs[i]? = some q) : mi.2.2.2.2.1.length = q.1.length ∧ plainFor mi.1 = true ∧ ∃ x, pcA mi 0 = some x ∧ x.1 = 0 := by
  unfold ck_l at h
  rw [hm, hq] at h
  simp only [Bool.and_eq_true, decide_eq_true_eq] at h
  refine ⟨h.1.1, h.1.2, ?_⟩
  have h2 := h.2
  cases hp : pcA mi 0 with
  | none => rw [hp] at h2; cases h2
  | some x => rw [hp] at h2; exact ⟨x, rfl, Option.some.inj h2⟩
theorem ck_r_app {i a n1 n2 : Nat} (h1 : ck_r i a n1 = true) (h2 : ck_r i (a + n1) n2 = true) : ck_r i a (n1 + n2) = true := by
  unfold ck_r at *
  split at h1
  · rename_i mi q hm hq
    rw [hm, hq] at h2
    rw [List.all_eq_true] at h1 h2 ⊢
    intro k hk
    have hk := List.mem_range.mp hk
    by_cases hlt : k < n1
    · exact h1 k (List.mem_range.mpr hlt)
    · have := h2 (k - n1) (List.mem_range.mpr (by omega))
      rw [show a + n1 + (k - n1) = a + k by omega] at this
      exact this
  · cases h1
theorem ckM_of {i n : Nat} (hl : ck_l i = true) (hr : ck_r i 0 n = true) (hn : (progs[i]?).map (fun q => q.1.length) = some n) : CkM i := by
  intro mi q hm hq
  obtain ⟨h1, h2, h3⟩ := ck_l_use hl hm hq
  rw [hq] at hn
  have hn : q.1.length = n := Option.some.inj hn
  exact ⟨h1, h2, fun k hk => ck_r_use hr hm hq (Nat.zero_le _) (by omega), h3⟩
end
section
/-! begun with claim/NAMES.whole.lean.txt's rows for new T[n][m]; va_AOA is ours -/
theorem va_AOA.use {ty : FieldType} {A : Array Value} {U : State} (h : va_AOA ty U) : (Jvm.Cond.arrayOver (.array ty)).before A U = true := h
/-! ===== BEGIN new T[n][m]: the outer array a place, the inner ones among the pooled ===== -/
/-- f, but v at every address of l -/
def vr_up {α : Type} (f : Nat → α) (l : List Nat) (v : α) : Nat → α := fun a => if a ∈ l then v else f a
theorem vr_up_in {α : Type} {f : Nat → α} {l : List Nat} {v : α} {a : Nat} (h : a ∈ l) : vr_up f l v a = v := if_pos h
theorem vr_up_ne {α : Type} {f : Nat → α} {l : List Nat} {v : α} {a : Nat} (h : a ∉ l) : vr_up f l v a = f a := if_neg h
theorem vr_rows {L l : List Nat} {f : Nat → va_E} {e : va_E} (h : ∀ a, a ∈ l → a ∉ L) : va_pl L f ++ l.map (fun a => (a, e)) = va_pl (L ++ l) (vr_up f l e) := by
  unfold va_pl
  rw [List.map_append]
  congr 1
  · apply List.map_congr_left
    intro a ha
    rw [vr_up_ne (fun q => h a q ha)]
  · apply List.map_congr_left
    intro a ha
    rw [vr_up_in ha]
theorem vr_lay {X rows : va_W} {x : Nat × va_E} {pl : va_W} {D : va_G} {cl : List vw_C} {H : Heap} (hP : va_P D cl (((X ++ pl) ++ [x]) ++ rows) H) : va_P D cl ((X ++ [x]) ++ (pl ++ rows)) H := by
  rw [List.append_assoc (X ++ pl)] at hP
  have h := va_P.swap hP
  rw [← List.append_assoc X] at h
  have h2 := va_P.swap h
  rw [List.append_assoc (X ++ [x])] at h2
  exact h2
theorem vr_layD {X rows : va_W} {x : Nat × va_E} {pl : va_W} {A : Nat → Prop} (hD : va_D A (((X ++ pl) ++ [x]) ++ rows)) : va_D A ((X ++ [x]) ++ (pl ++ rows)) := by
  rw [List.append_assoc (X ++ pl)] at hD
  have h := va_D.swap hD
  rw [← List.append_assoc X] at h
  have h2 := va_D.swap h
  rw [List.append_assoc (X ++ [x])] at h2
  exact h2
theorem vr_outer (c : ClassId) (N h0 : Nat) : ∀ i : Nat, Jvm.Free.Multi.outerC c N h0 i = arrV c N (fun j => va_rf (if j < i then some (h0 + 1 + j) else none))
  | 0 => by
    show ({ cls := c, slots := Array.replicate N .null, vm := .none } : Cell) = _
    rw [arrV_new]
    refine congrArg (arrV c N) (funext fun j => ?_)
    simp [va_rf]
  | i + 1 => by
    show (Jvm.Free.Multi.outerC c N h0 i).setSlot i (.ref (h0 + 1 + i)) = _
    rw [vr_outer c N h0 i, arrV_store]
    refine congrArg (arrV c N) (funext fun j => ?_)
    by_cases e : j = i
    · subst e
      simp [updV, va_rf]
    · by_cases h : j < i
      · simp [updV, e, h, Nat.lt_succ_of_lt h]
      · simp [updV, e, h, show ¬ j < i + 1 by omega]
section VGM
variable {p : Program} {l : Launch} {e : Env} {R : Room} {s : State} {m : MethodId} {args : Array Value} {below : List Frame} {meth : Method} {c : Code} {H : Heap} {locs : List Loc} {cells slots : Nat} {Q : State → Prop}
variable {cc : ByteArray} {pc : Nat} {ls : Array Slot} {rest : List Value} {D : va_G} {cl : List vw_C} {A : Nat → Prop} {a : Nat} {tys : List (ClassId × FieldType)} {ws : va_W} {H0 : Heap}
theorem va_mna {X : va_W} {L : List Nat} {f : Nat → va_E} {cc : ByteArray} (hexec : p.tables.exec = Jvm.exec) (hb : c.code = cc) {own : String} {index : Nat} {ty : FieldType} {cy : ClassId} (hown : s.vm.findClass own = some m.cls) (hclink : (Cond.classLink own index ("[" ++ (FieldType.array ty).toString)).before args s = true) (hover : va_AOA ty s) (harr : (Cond.arrayClass ty).before args s = true) (hcy : s.vm.findClass (FieldType.array ty).toString = some cy)
    (hK : va_K D cl tys s) (hP : va_P D cl (X ++ va_pl L f) H) (hD : va_D A (X ++ va_pl L f)) (hS : va_S A H0 H locs) (hA : ∀ q, H0.size ≤ q → A q) {n k : Int32} {N' K' : Nat} {z : vp_A} (hn : ¬ n < 0) (hk : ¬ k < 0) (hN : n.toNatClampNeg = N') (hM : k.toNatClampNeg = K')
    (hb1 : N' * 4 ≤ 536870912) (hb2 : K' * componentBytes ty ≤ 536870912) (hb3 : K' ≤ 536870912) (hdf : fits ty (defaultValue ty) = true) (hdd : (defaultValue ty).isDefault = true) (hcells : cells + (1 + N') ≤ R.cells) (hslots : slots + (N' + N' * K') ≤ R.slots) (hz : ∀ c : ClassId, Jvm.Free.Multi.innerC c K' (defaultValue ty) = vp_cell c z) (hdg : decode cc pc = .ok (.multianewarray index 2, 4))
    (kk : ∀ (q : Nat) (r : Nat → Nat) (cA : ClassId) (H1 : Heap), (∀ i j : Nat, i < N' → j < N' → r i = r j → i = j) → (∀ i : Nat, i < N' → r i ∉ L) → va_K D cl (tys ++ [(cA, .array ty)]) s →
      va_P D cl ((X ++ [(q, .inl (cA, N', .inr (.inr (.inr (.inr (fun i => if i < N' then some (r i) else none))))))]) ++ va_pl (L ++ (List.range N').map r) (vr_up f ((List.range N').map r) (.inl (cy, z)))) H1 → va_D A ((X ++ [(q, .inl (cA, N', .inr (.inr (.inr (.inr (fun i => if i < N' then some (r i) else none))))))]) ++ va_pl (L ++ (List.range N').map r) (vr_up f ((List.range N').map r) (.inl (cy, z)))) → va_S A H0 H1 locs →
      W p l e R s m args below meth c H1 locs (cells + 1 + N') (slots + N' + N' * K') Q (F0 m (pc + 4) ls (.ref q :: rest))) : W p l e R s m args below meth c H locs cells slots Q (F0 m pc ls (.int k :: .int n :: rest)) := by
  subst hN
  subst hM
  intro T hT Xs
  obtain ⟨vm₁, cA, comp, -, fA, fC, hO, -, X', step⟩ := Xs.multianewarray2F hexec hown hclink (va_AOA.use hover) harr (g := F0 m pc ls (.int k :: .int n :: rest)) rfl (by rw [hb]; exact hdg) rfl hn hk hb1 hb2 hb3 hdf hdd hcells hslots
  have ec : some cy = some comp := hcy.symm.trans fC
  cases ec
  generalize hF : Jvm.Free.Multi.fill (T.setVm vm₁) cA cy n.toNatClampNeg k.toNatClampNeg (defaultValue ty) n.toNatClampNeg = F at X' step
  have hTh : (T.setVm vm₁).heap = H := hT
  obtain ⟨f1, f2, -, -⟩ := Jvm.Free.Multi.fill_facts (T.setVm vm₁) cA cy n.toNatClampNeg k.toNatClampNeg (defaultValue ty) n.toNatClampNeg
  rw [hF, hTh] at f1 f2
  have hold : ∀ x : Nat, x < H.size → F.heap[x]? = H[x]? := fun x hx => by
    have := Jvm.Free.Multi.fill_old (T.setVm vm₁) cA cy n.toNatClampNeg k.toNatClampNeg (defaultValue ty) (a := x) (by rw [hTh]; exact hx) n.toNatClampNeg
    rw [hF, hTh] at this
    exact this
  have hrow : ∀ j : Nat, j < n.toNatClampNeg → F.heap[H.size + 1 + j]? = some (vp_cell cy z) := fun j hj => by
    have := Jvm.Free.Multi.fill_inner (T.setVm vm₁) cA cy n.toNatClampNeg k.toNatClampNeg (defaultValue ty) n.toNatClampNeg j hj
    rw [hF, hTh, hz] at this
    exact this
  have hout : Jvm.Free.Multi.outerC cA n.toNatClampNeg H.size n.toNatClampNeg = vp_cell cA (n.toNatClampNeg, .inr (.inr (.inr (.inr (fun i => if i < n.toNatClampNeg then some (H.size + 1 + i) else none))))) := by
    rw [vp_cell_q]
    exact vr_outer cA n.toNatClampNeg H.size n.toNatClampNeg
  rw [hout] at f2
  have hlt : ∀ a, a ∈ L → a < H.size := fun a ha => by
    obtain ⟨k9, hk9⟩ := va_pl_get (X := X) (f := f) ha
    exact (hP k9 _ hk9).lt
  have hnl : ∀ i : Nat, i < n.toNatClampNeg → H.size + 1 + i ∉ L := fun i _ h => by
    have := hlt _ h
    omega
  have hnm : ∀ a, a ∈ (List.range n.toNatClampNeg).map (fun i => H.size + 1 + i) → a ∉ L := fun a ha h => by
    obtain ⟨i, -, rfl⟩ := List.mem_map.mp ha
    have := hlt _ h
    omega
  have hP0 : va_P D cl (X ++ va_pl L f) F.heap := hP.kept (fun k9 x hx => hold x.1 ((hP k9 x hx).lt))
  have hP1 : va_P D cl ((X ++ va_pl L f) ++ [(H.size, .inl (cA, n.toNatClampNeg, .inr (.inr (.inr (.inr (fun i => if i < n.toNatClampNeg then some (H.size + 1 + i) else none))))))]) F.heap := hP0.app (fun k9 x hx => by
    have h0 : k9 < 1 := (List.getElem?_eq_some_iff.mp hx).1
    rw [show k9 = 0 by omega] at hx
    cases hx
    exact f2)
  have hP2 : va_P D cl (((X ++ va_pl L f) ++ [(H.size, .inl (cA, n.toNatClampNeg, .inr (.inr (.inr (.inr (fun i => if i < n.toNatClampNeg then some (H.size + 1 + i) else none))))))]) ++ ((List.range n.toNatClampNeg).map (fun i => H.size + 1 + i)).map (fun a => (a, .inl (cy, z)))) F.heap := hP1.app (fun k9 x hx => by
    obtain ⟨a, ha, rfl⟩ := List.mem_map.mp (List.mem_of_getElem? hx)
    obtain ⟨i, hi, rfl⟩ := List.mem_map.mp ha
    exact hrow i (List.mem_range.mp hi))
  have hD2 : va_D A (((X ++ va_pl L f) ++ [(H.size, .inl (cA, n.toNatClampNeg, .inr (.inr (.inr (.inr (fun i => if i < n.toNatClampNeg then some (H.size + 1 + i) else none))))))]) ++ ((List.range n.toNatClampNeg).map (fun i => H.size + 1 + i)).map (fun a => (a, .inl (cy, z)))) := by
    have hD1 := hD.push (e := .inl (cA, n.toNatClampNeg, .inr (.inr (.inr (.inr (fun i => if i < n.toNatClampNeg then some (H.size + 1 + i) else none)))))) hP rfl (hA _ hS.1)
    generalize hW1 : (X ++ va_pl L f) ++ [(H.size, .inl (cA, n.toNatClampNeg, .inr (.inr (.inr (.inr (fun i => if i < n.toNatClampNeg then some (H.size + 1 + i) else none))))))] = W1 at hD1 hP1 ⊢
    have hle : ∀ (k9 : Nat) (x : Nat × va_E), W1[k9]? = some x → x.1 ≤ H.size := fun k9 x hx => by
      rw [← hW1] at hx
      by_cases hl : k9 < (X ++ va_pl L f).length
      · rw [List.getElem?_append_left hl] at hx
        exact Nat.le_of_lt ((hP k9 x hx).lt)
      · rw [List.getElem?_append_right (by omega)] at hx
        have h0 : k9 - (X ++ va_pl L f).length < 1 := (List.getElem?_eq_some_iff.mp hx).1
        rw [show k9 - (X ++ va_pl L f).length = 0 by omega] at hx
        cases hx
        exact Nat.le_refl _
    have hr : ∀ (k9 : Nat) (x : Nat × va_E), (((List.range n.toNatClampNeg).map (fun i => H.size + 1 + i)).map (fun a => ((a, .inl (cy, z)) : Nat × va_E)))[k9]? = some x → x.1 = H.size + 1 + k9 := fun k9 x hx => by
      rw [List.getElem?_map, List.getElem?_map] at hx
      by_cases h9 : k9 < n.toNatClampNeg
      · rw [List.getElem?_range h9] at hx
        cases hx
        rfl
      · have hn0 : (List.range n.toNatClampNeg)[k9]? = none := List.getElem?_eq_none (by rw [List.length_range]; omega)
        rw [hn0] at hx
        cases hx
    refine ⟨fun i j x y hi hj hxy => ?_, fun k9 x hx => ?_⟩
    · by_cases h1 : i < W1.length <;> by_cases h2 : j < W1.length
      · rw [List.getElem?_append_left h1] at hi
        rw [List.getElem?_append_left h2] at hj
        exact hD1.1 i j x y hi hj hxy
      · rw [List.getElem?_append_left h1] at hi
        rw [List.getElem?_append_right (by omega)] at hj
        have := hle _ _ hi
        have := hr _ _ hj
        omega
      · rw [List.getElem?_append_right (by omega)] at hi
        rw [List.getElem?_append_left h2] at hj
        have := hle _ _ hj
        have := hr _ _ hi
        omega
      · rw [List.getElem?_append_right (by omega)] at hi hj
        have := hr _ _ hi
        have := hr _ _ hj
        omega
    · by_cases h1 : k9 < W1.length
      · rw [List.getElem?_append_left h1] at hx
        exact hD1.2 k9 x hx
      · rw [List.getElem?_append_right (by omega)] at hx
        have := hr _ _ hx
        exact hA _ (by have := hS.1; omega)
  have hAr : ArrOfT s cA (.array ty) := fun N9 z9 => by
    obtain ⟨-, k9, hk9, cm9, hkk9⟩ := (hO 0 0 0).1
    exact ⟨(fun q hq => by cases hq), k9, hk9, cm9, hkk9⟩
  have hK2 : va_K D cl (tys ++ [(cA, .array ty)]) s := ⟨hK.1, fun k9 x hx => by
    by_cases hl : k9 < tys.length
    · rw [List.getElem?_append_left hl] at hx
      exact hK.2 k9 x hx
    · rw [List.getElem?_append_right (by omega)] at hx
      have h0 : k9 - tys.length < 1 := (List.getElem?_eq_some_iff.mp hx).1
      rw [show k9 - tys.length = 0 by omega] at hx
      cases hx
      exact ⟨hAr, fA⟩⟩
  obtain ⟨t, a1, b1⟩ := kk H.size (fun i => H.size + 1 + i) cA F.heap (fun i j _ _ h => by have h9 : H.size + 1 + i = H.size + 1 + j := h; omega) hnl hK2 (by rw [← vr_rows hnm]; exact vr_lay hP2) (by rw [← vr_rows hnm]; exact vr_layD hD2) ⟨by rw [f1]; have := hS.1; omega, fun x h1 h2 => (hold x (Nat.lt_of_lt_of_le h1 hS.1)).trans (hS.2.1 x h1 h2), hS.2.2⟩ F rfl X'
  refine ⟨t, step t ?_, b1⟩
  have e : T.heap.size = H.size := by rw [hT]
  rw [e]
  exact a1
end VGM
/-! ===== END ===== -/
theorem va_AOA.moved {ty : FieldType} {u U : State} (hvm : u.vm.Alike U.vm) (h : va_AOA ty u) : va_AOA ty U := Jvm.Stand.arrayOver_alikeB hvm h
theorem VRl.warm {G : GW} {s U : State} (hW : s.WarmedH U.vm) (h : VRl G s) : VRl G U := by
  obtain ⟨h1, h2, h3, h4, h5, h6, h7, h8⟩ := h
  refine ⟨va_K.moved hW.alike h1, fun k a b => (h2 k a b).moved hW.alike, fun k a b => (h3 k a b).moved hW.alike, h4.moved hW.alike, h5.moved hW.alike, h6.moved hW.alike, h7.moved hW.alike, fun w hw => ?_⟩
  have hz := h8 w hw
  have hn := (List.mem_filter.mp hw).2
  cases w <;> first | exact va_Nw.warmF hW hz | exact va_Nw.warmM hW hz | cases hn
theorem VRl.same {G : GW} {s U : State} (hv : s.vm = U.vm) (h : VRl G s) : VRl G U := by
  obtain ⟨h1, h2, h3, h4, h5, h6, h7, h8⟩ := h
  have hA : s.vm.Alike U.vm := by rw [hv]; exact Vm.Alike.refl _
  refine ⟨va_K.moved hA h1, fun k a b => (h2 k a b).moved hA, fun k a b => (h3 k a b).moved hA, h4.moved hA, h5.moved hA, h6.moved hA, h7.moved hA, fun w hw => ?_⟩
  have hz := h8 w hw
  have hn := (List.mem_filter.mp hw).2
  cases w <;> first | exact va_Nw.same rfl hv hz | cases hn
/-! the pure heap's cells among the world's -/
theorem wsH_at {G : GW} {h : PH} {k : Nat} (h1 : 5 ≤ k) (h2 : k < hE h) : (wsH G h)[k - 5]? = some (ad G k, enT G h k) := by
  unfold wsH
  rw [List.getElem?_map, List.getElem?_range (by omega)]
  show some (ad G (k - 5 + 5), enT G h (k - 5 + 5)) = _
  rw [show k - 5 + 5 = k by omega]
theorem wsH_of {G : GW} {h : PH} {i : Nat} {x : Nat × va_E} (hx : (wsH G h)[i]? = some x) : i < hE h - 5 ∧ x = (ad G (i + 5), enT G h (i + 5)) := by
  unfold wsH at hx
  rw [List.getElem?_map] at hx
  by_cases hi : i < hE h - 5
  · rw [List.getElem?_range hi] at hx
    cases hx
    exact ⟨hi, rfl⟩
  · rw [List.getElem?_eq_none (by rw [List.length_range]; omega)] at hx
    cases hx
theorem ad_5 {G : GW} {i : Nat} : ad G (i + 5) = G.2.2.2.1.size + i := by
  unfold ad
  rw [if_neg (by omega)]
  omega
theorem ad_ge {G : GW} {k : Nat} (h : 5 ≤ k) : ad G k = G.2.2.2.1.size + (k - 5) := by
  unfold ad
  rw [if_neg (by omega)]
theorem ad_lt {G : GW} {k : Nat} (h : k < 5) : ad G k = G.2.2.1 k := by
  unfold ad
  rw [if_pos h]
theorem wsH_D {G : GW} {h : PH} : va_D (AA G) (wsH G h) := by
  refine ⟨fun i j x y hi hj hxy => ?_, fun k x hx => ?_⟩
  · obtain ⟨-, rfl⟩ := wsH_of hi
    obtain ⟨-, rfl⟩ := wsH_of hj
    have : ad G (i + 5) = ad G (j + 5) := hxy
    rw [ad_5, ad_5] at this
    omega
  · obtain ⟨-, rfl⟩ := wsH_of hx
    show G.2.2.2.1.size ≤ ad G (k + 5)
    rw [ad_5]
    omega
theorem wsH_len {G : GW} {h : PH} : (wsH G h).length = hE h - 5 := by simp [wsH]
/-- a cell of a class, or an array but for int rows, is one of the world's -/
theorem tag_in {h : PH} (hw : WfH h) {k t : Nat} (hk : hT h k = t) (h1 : t ≠ 99) (h2 : t ≠ 20) : 5 ≤ k ∧ k < hE h := by
  obtain ⟨-, a0, a1, a2⟩ := hw
  refine ⟨?_, ?_⟩
  · rcases Nat.lt_or_ge k 5 with q | q
    · rcases Nat.eq_zero_or_pos k with z | z
      · subst z
        exact absurd (hk.symm.trans a0) h1
      · exact absurd (hk.symm.trans (a1 k z q)) h2
    · exact q
  · rcases Nat.lt_or_ge k (hE h) with q | q
    · exact q
    · exact absurd (hk.symm.trans (a2 k q)) h1
theorem tag_in20 {h : PH} (hw : WfH h) {k : Nat} (hk : hT h k = 20) : 1 ≤ k ∧ k < hE h := by
  obtain ⟨a9, a0, a1, a2⟩ := hw
  refine ⟨?_, ?_⟩
  · rcases Nat.eq_zero_or_pos k with z | z
    · subst z
      rw [hk] at a0
      cases a0
    · exact z
  · rcases Nat.lt_or_ge k (hE h) with q | q
    · exact q
    · have := a2 k q
      rw [hk] at this
      cases this
end
section
/-! SOUNDNESS, the simple instructions -/
/-- the machine at pc, with these locals, this stack and heap, comes to Q -/
def GLp (G : GW) (mi : MI) (mc ms : Nat) (p : Program) (l : Launch) (e : Env) (s : State) (m : MethodId) (args : Array Value) (below : List Frame) (meth : Method) (c : Code) (Q : State → Prop) (pc : Nat) (pl : PL) (st : List Value) (h : PH) (ca sl : Nat) : Prop :=
  ∀ (H : Heap) (locs : List Loc) (ls : Array Slot), HRl G h H → va_S (AA G) s.heap H locs → LRl G pl ls mi.2.2.1 → W p l e (rmU mi mc ms) s m args below meth c H locs ca sl Q (F0 m pc ls (st.map (tv G)))
theorem lgt_of {pl : PL} {i : Nat} {v : Value} (h : lgt pl i = v) (hv : v ≠ .retAddr 0) : pl[i]? = some (some v) := by
  unfold lgt at h
  split at h
  · rename_i w hw
    rw [hw, h]
  · exact absurd h.symm hv
theorem o_ii_inv {f : Int32 → Int32 → Int32} {st : List Value} {k : List Value → Prop} (h : o_ii f st k) : ∃ x y s, st = .int y :: .int x :: s ∧ k (.int (f x y) :: s) := by
  unfold o_ii at h
  split at h
  · exact ⟨_, _, _, rfl, h⟩
  · exact h.elim
theorem o_iin_inv {f : Int32 → Int32 → Int32} {st : List Value} {k : List Value → Prop} (h : o_iin f st k) : ∃ x y s, st = .int y :: .int x :: s ∧ (¬ y = 0) ∧ k (.int (f x y) :: s) := by
  unfold o_iin at h
  split at h
  · exact ⟨_, _, _, rfl, h⟩
  · exact h.elim
theorem o_ll_inv {f : Int64 → Int64 → Int64} {st : List Value} {k : List Value → Prop} (h : o_ll f st k) : ∃ x y s, st = .long y :: .long x :: s ∧ k (.long (f x y) :: s) := by
  unfold o_ll at h
  split at h
  · exact ⟨_, _, _, rfl, h⟩
  · exact h.elim
theorem o_lln_inv {f : Int64 → Int64 → Int64} {st : List Value} {k : List Value → Prop} (h : o_lln f st k) : ∃ x y s, st = .long y :: .long x :: s ∧ (¬ y = 0) ∧ k (.long (f x y) :: s) := by
  unfold o_lln at h
  split at h
  · exact ⟨_, _, _, rfl, h⟩
  · exact h.elim
theorem o_li_inv {f : Int64 → Int32 → Int64} {st : List Value} {k : List Value → Prop} (h : o_li f st k) : ∃ x y s, st = .int y :: .long x :: s ∧ k (.long (f x y) :: s) := by
  unfold o_li at h
  split at h
  · exact ⟨_, _, _, rfl, h⟩
  · exact h.elim
/-! locals -/
def lvo (G : GW) (pl : PL) : List (Nat × Value) := (List.range pl.length).filterMap (fun i => match pl[i]? with
  | some (some v) => some (i, tv G v)
  | _ => none)
theorem lvo_mem {G : GW} {pl : PL} {x : Nat × Value} : x ∈ lvo G pl ↔ ∃ v, pl[x.1]? = some (some v) ∧ x.2 = tv G v := by
  obtain ⟨j, w⟩ := x
  unfold lvo
  rw [List.mem_filterMap]
  constructor
  · rintro ⟨i, hi, he⟩
    split at he
    · rename_i v hv
      cases he
      exact ⟨v, hv, rfl⟩
    · cases he
  · rintro ⟨v, hv, hw⟩
    refine ⟨j, List.mem_range.mpr (List.getElem?_eq_some_iff.mp hv).1, ?_⟩
    simp only at hv hw
    rw [hv, hw]
theorem LRl.has {G : GW} {pl : PL} {ls : Array Slot} {n : Nat} (h : LRl G pl ls n) : lv_has ls n (lvo G pl) := by
  refine ⟨h.1, h.2.1, fun x hx => ?_⟩
  obtain ⟨v, hv, hw⟩ := lvo_mem.mp hx
  rw [hw]
  exact h.2.2 _ _ hv
theorem tv_cat (G : GW) (v : Value) : (tv G v).category = v.category := by
  cases v <;> try rfl
  rename_i k
  show (va_rf (rfq G k)).category = 1
  unfold rfq
  split <;> rfl
theorem lcl_get {pl : PL} {i j : Nat} {v : Value} (h : (lcl pl i)[j]? = some (some v)) : pl[j]? = some (some v) ∧ (j + 1 = i → v.category ≠ 2) := by
  unfold lcl at h
  split at h
  · exact ⟨h, fun e => absurd e (by omega)⟩
  · rename_i k
    split at h
    · rename_i w hw
      by_cases hjk : j = k
      · subst hjk
        rw [List.getElem?_set_self (List.getElem?_eq_some_iff.mp hw).1] at h
        cases h
      · rw [List.getElem?_set_ne (Ne.symm hjk)] at h
        exact ⟨h, fun e => absurd e (by omega)⟩
    · rename_i w hw
      by_cases hjk : j = k
      · subst hjk
        rw [List.getElem?_set_self (List.getElem?_eq_some_iff.mp hw).1] at h
        cases h
      · rw [List.getElem?_set_ne (Ne.symm hjk)] at h
        exact ⟨h, fun e => absurd e (by omega)⟩
    · rename_i hno hno2
      refine ⟨h, fun e => ?_⟩
      have : j = k := by omega
      subst this
      cases v with
      | long x => exact absurd h (hno x)
      | double b => exact absurd h (hno2 b)
      | _ => exact fun q => by cases q
theorem LRl.set1 {G : GW} {pl : PL} {ls : Array Slot} {n i : Nat} {v : Value}  (hl : lv_has ls n ((i, tv G v) :: (lvo G pl).filter (fun q => !(q.1 == i) && !(q.1 + 1 == i && q.2.category == 2)))) : LRl G (ls1 pl i v) ls n := by
  refine ⟨hl.1, hl.2.1, fun j w hj => ?_⟩
  unfold ls1 at hj
  by_cases hji : j = i
  · subst hji
    have hlt : j < (lcl pl j).length := by
      rcases Nat.lt_or_ge j (lcl pl j).length with q | q
      · exact q
      · rw [List.getElem?_eq_none (by rw [List.length_set]; exact q)] at hj
        cases hj
    rw [List.getElem?_set_self hlt] at hj
    cases hj
    exact hl.2.2 (j, tv G v) List.mem_cons_self
  · rw [List.getElem?_set_ne (Ne.symm hji)] at hj
    obtain ⟨h1, h2⟩ := lcl_get hj
    refine hl.2.2 (j, tv G w) (List.mem_cons_of_mem _ (List.mem_filter.mpr ⟨lvo_mem.mpr ⟨w, h1, rfl⟩, ?_⟩))
    simp only [Bool.and_eq_true, Bool.not_eq_true', beq_eq_false_iff_ne, ne_eq, Bool.and_eq_false_iff]
    refine ⟨hji, ?_⟩
    by_cases e : j + 1 = i
    · right
      rw [tv_cat]
      exact h2 e
    · left
      exact e
theorem LRl.set2 {G : GW} {pl : PL} {ls : Array Slot} {n i : Nat} {v : Value}  (hl : lv_has ls n ((i, tv G v) :: (lvo G pl).filter (fun q => !(q.1 == i) && (!(q.1 == i + 1) && !(q.1 + 1 == i && q.2.category == 2))))) : LRl G (ls2 pl i v) ls n := by
  refine ⟨hl.1, hl.2.1, fun j w hj => ?_⟩
  unfold ls2 at hj
  by_cases hj1 : j = i + 1
  · subst hj1
    rcases Nat.lt_or_ge (i + 1) ((lcl pl i).set i (some v)).length with q | q
    · rw [List.getElem?_set_self q] at hj
      cases hj
    · rw [List.getElem?_eq_none (by rw [List.length_set]; exact q)] at hj
      cases hj
  rw [List.getElem?_set_ne (Ne.symm hj1)] at hj
  by_cases hji : j = i
  · subst hji
    have hlt : j < (lcl pl j).length := by
      rcases Nat.lt_or_ge j (lcl pl j).length with q | q
      · exact q
      · rw [List.getElem?_eq_none (by rw [List.length_set]; exact q)] at hj
        cases hj
    rw [List.getElem?_set_self hlt] at hj
    cases hj
    exact hl.2.2 (j, tv G v) List.mem_cons_self
  · rw [List.getElem?_set_ne (Ne.symm hji)] at hj
    obtain ⟨h1, h2⟩ := lcl_get hj
    refine hl.2.2 (j, tv G w) (List.mem_cons_of_mem _ (List.mem_filter.mpr ⟨lvo_mem.mpr ⟨w, h1, rfl⟩, ?_⟩))
    simp only [Bool.and_eq_true, Bool.not_eq_true', beq_eq_false_iff_ne, ne_eq, Bool.and_eq_false_iff]
    refine ⟨hji, hj1, ?_⟩
    by_cases e : j + 1 = i
    · right
      rw [tv_cat]
      exact h2 e
    · left
      exact e
theorem lmk_get {m : List (Int32 × Nat)} {pl : PL} {i : Nat} {v : Value} (h : (lmk m pl)[i]? = some (some v)) : pl[i]? = some (some v) := by
  induction m generalizing pl i with
  | nil => cases pl <;> exact h
  | cons a m ih =>
    obtain ⟨a1, a2⟩ := a
    cases pl with
    | nil => cases a2 <;> simp [lmk] at h
    | cons b l =>
      cases i with
      | zero => cases a2 <;> simp [lmk] at h ⊢ <;> exact h
      | succ i => cases a2 <;> (simp only [lmk, List.getElem?_cons_succ] at h ⊢; exact ih h)
theorem LRl.mk {G : GW} {pl : PL} {ls : Array Slot} {n : Nat} (m : List (Int32 × Nat)) (h : LRl G pl ls n) : LRl G (lmk m pl) ls n := ⟨h.1, h.2.1, fun i v hv => h.2.2 i v (lmk_get hv)⟩
end
section
/-! SOUNDNESS: stack, locals, branches -/
section S8
variable {G : GW} {mi : MI} {mc ms : Nat} {p : Program} {l : Launch} {e : Env} {s : State} {m : MethodId} {args : Array Value} {below : List Frame} {meth : Method} {c : Code} {Q : State → Prop} {pc : Nat} {pl : PL} {h : PH} {ca sl : Nat}
theorem gq_iadd (hx : p.tables.exec = Jvm.exec) (hb : c.code = mi.2.1) {x y : Int32} {st : List Value} (hd : decode mi.2.1 pc = .ok (.iadd, 1)) (k : GLp G mi mc ms p l e s m args below meth c Q (pc + 1) (pl) (.int (x + y) :: st) (h) (ca) (sl)) : GLp G mi mc ms p l e s m args below meth c Q (pc) (pl) (.int y :: .int x :: st) (h) (ca) (sl) := by
  intro H locs ls h1 h2 h3
  exact lv_iadd hx hb hd (k H locs ls h1 h2 h3)
theorem gq_isub (hx : p.tables.exec = Jvm.exec) (hb : c.code = mi.2.1) {x y : Int32} {st : List Value} (hd : decode mi.2.1 pc = .ok (.isub, 1)) (k : GLp G mi mc ms p l e s m args below meth c Q (pc + 1) (pl) (.int (x - y) :: st) (h) (ca) (sl)) : GLp G mi mc ms p l e s m args below meth c Q (pc) (pl) (.int y :: .int x :: st) (h) (ca) (sl) := by
  intro H locs ls h1 h2 h3
  exact lv_isub hx hb hd (k H locs ls h1 h2 h3)
theorem gq_imul (hx : p.tables.exec = Jvm.exec) (hb : c.code = mi.2.1) {x y : Int32} {st : List Value} (hd : decode mi.2.1 pc = .ok (.imul, 1)) (k : GLp G mi mc ms p l e s m args below meth c Q (pc + 1) (pl) (.int (x * y) :: st) (h) (ca) (sl)) : GLp G mi mc ms p l e s m args below meth c Q (pc) (pl) (.int y :: .int x :: st) (h) (ca) (sl) := by
  intro H locs ls h1 h2 h3
  exact lv_imul hx hb hd (k H locs ls h1 h2 h3)
theorem gq_iand (hx : p.tables.exec = Jvm.exec) (hb : c.code = mi.2.1) {x y : Int32} {st : List Value} (hd : decode mi.2.1 pc = .ok (.iand, 1)) (k : GLp G mi mc ms p l e s m args below meth c Q (pc + 1) (pl) (.int (x &&& y) :: st) (h) (ca) (sl)) : GLp G mi mc ms p l e s m args below meth c Q (pc) (pl) (.int y :: .int x :: st) (h) (ca) (sl) := by
  intro H locs ls h1 h2 h3
  exact lv_iand hx hb hd (k H locs ls h1 h2 h3)
theorem gq_ior (hx : p.tables.exec = Jvm.exec) (hb : c.code = mi.2.1) {x y : Int32} {st : List Value} (hd : decode mi.2.1 pc = .ok (.ior, 1)) (k : GLp G mi mc ms p l e s m args below meth c Q (pc + 1) (pl) (.int (x ||| y) :: st) (h) (ca) (sl)) : GLp G mi mc ms p l e s m args below meth c Q (pc) (pl) (.int y :: .int x :: st) (h) (ca) (sl) := by
  intro H locs ls h1 h2 h3
  exact lv_ior hx hb hd (k H locs ls h1 h2 h3)
theorem gq_ixor (hx : p.tables.exec = Jvm.exec) (hb : c.code = mi.2.1) {x y : Int32} {st : List Value} (hd : decode mi.2.1 pc = .ok (.ixor, 1)) (k : GLp G mi mc ms p l e s m args below meth c Q (pc + 1) (pl) (.int (x ^^^ y) :: st) (h) (ca) (sl)) : GLp G mi mc ms p l e s m args below meth c Q (pc) (pl) (.int y :: .int x :: st) (h) (ca) (sl) := by
  intro H locs ls h1 h2 h3
  exact lv_ixor hx hb hd (k H locs ls h1 h2 h3)
theorem gq_ishl (hx : p.tables.exec = Jvm.exec) (hb : c.code = mi.2.1) {x y : Int32} {st : List Value} (hd : decode mi.2.1 pc = .ok (.ishl, 1)) (k : GLp G mi mc ms p l e s m args below meth c Q (pc + 1) (pl) (.int (i_shl x y) :: st) (h) (ca) (sl)) : GLp G mi mc ms p l e s m args below meth c Q (pc) (pl) (.int y :: .int x :: st) (h) (ca) (sl) := by
  intro H locs ls h1 h2 h3
  exact lv_ishl hx hb hd (k H locs ls h1 h2 h3)
theorem gq_ishr (hx : p.tables.exec = Jvm.exec) (hb : c.code = mi.2.1) {x y : Int32} {st : List Value} (hd : decode mi.2.1 pc = .ok (.ishr, 1)) (k : GLp G mi mc ms p l e s m args below meth c Q (pc + 1) (pl) (.int (i_shr x y) :: st) (h) (ca) (sl)) : GLp G mi mc ms p l e s m args below meth c Q (pc) (pl) (.int y :: .int x :: st) (h) (ca) (sl) := by
  intro H locs ls h1 h2 h3
  exact lv_ishr hx hb hd (k H locs ls h1 h2 h3)
theorem gq_iushr (hx : p.tables.exec = Jvm.exec) (hb : c.code = mi.2.1) {x y : Int32} {st : List Value} (hd : decode mi.2.1 pc = .ok (.iushr, 1)) (k : GLp G mi mc ms p l e s m args below meth c Q (pc + 1) (pl) (.int (i_ushr x y) :: st) (h) (ca) (sl)) : GLp G mi mc ms p l e s m args below meth c Q (pc) (pl) (.int y :: .int x :: st) (h) (ca) (sl) := by
  intro H locs ls h1 h2 h3
  exact lv_iushr hx hb hd rfl (k H locs ls h1 h2 h3)
theorem gq_idiv (hx : p.tables.exec = Jvm.exec) (hb : c.code = mi.2.1) {x y : Int32} {st : List Value} (hd : decode mi.2.1 pc = .ok (.idiv, 1)) (hn : ¬ y = 0) (k : GLp G mi mc ms p l e s m args below meth c Q (pc + 1) (pl) (.int (x / y) :: st) (h) (ca) (sl)) : GLp G mi mc ms p l e s m args below meth c Q (pc) (pl) (.int y :: .int x :: st) (h) (ca) (sl) := by
  intro H locs ls h1 h2 h3
  exact lv_idiv hx hb hd hn (k H locs ls h1 h2 h3)
theorem gq_irem (hx : p.tables.exec = Jvm.exec) (hb : c.code = mi.2.1) {x y : Int32} {st : List Value} (hd : decode mi.2.1 pc = .ok (.irem, 1)) (hn : ¬ y = 0) (k : GLp G mi mc ms p l e s m args below meth c Q (pc + 1) (pl) (.int (i_rem x y) :: st) (h) (ca) (sl)) : GLp G mi mc ms p l e s m args below meth c Q (pc) (pl) (.int y :: .int x :: st) (h) (ca) (sl) := by
  intro H locs ls h1 h2 h3
  exact lv_irem hx hb hd hn (k H locs ls h1 h2 h3)
theorem gq_ladd (hx : p.tables.exec = Jvm.exec) (hb : c.code = mi.2.1) {x y : Int64} {st : List Value} (hd : decode mi.2.1 pc = .ok (.ladd, 1)) (k : GLp G mi mc ms p l e s m args below meth c Q (pc + 1) (pl) (.long (x + y) :: st) (h) (ca) (sl)) : GLp G mi mc ms p l e s m args below meth c Q (pc) (pl) (.long y :: .long x :: st) (h) (ca) (sl) := by
  intro H locs ls h1 h2 h3
  exact lv_ladd hx hb hd (k H locs ls h1 h2 h3)
theorem gq_lmul (hx : p.tables.exec = Jvm.exec) (hb : c.code = mi.2.1) {x y : Int64} {st : List Value} (hd : decode mi.2.1 pc = .ok (.lmul, 1)) (k : GLp G mi mc ms p l e s m args below meth c Q (pc + 1) (pl) (.long (x * y) :: st) (h) (ca) (sl)) : GLp G mi mc ms p l e s m args below meth c Q (pc) (pl) (.long y :: .long x :: st) (h) (ca) (sl) := by
  intro H locs ls h1 h2 h3
  exact lv_lmul hx hb hd (k H locs ls h1 h2 h3)
theorem gq_land (hx : p.tables.exec = Jvm.exec) (hb : c.code = mi.2.1) {x y : Int64} {st : List Value} (hd : decode mi.2.1 pc = .ok (.land, 1)) (k : GLp G mi mc ms p l e s m args below meth c Q (pc + 1) (pl) (.long (x &&& y) :: st) (h) (ca) (sl)) : GLp G mi mc ms p l e s m args below meth c Q (pc) (pl) (.long y :: .long x :: st) (h) (ca) (sl) := by
  intro H locs ls h1 h2 h3
  exact lv_land hx hb hd (k H locs ls h1 h2 h3)
theorem gq_lxor (hx : p.tables.exec = Jvm.exec) (hb : c.code = mi.2.1) {x y : Int64} {st : List Value} (hd : decode mi.2.1 pc = .ok (.lxor, 1)) (k : GLp G mi mc ms p l e s m args below meth c Q (pc + 1) (pl) (.long (x ^^^ y) :: st) (h) (ca) (sl)) : GLp G mi mc ms p l e s m args below meth c Q (pc) (pl) (.long y :: .long x :: st) (h) (ca) (sl) := by
  intro H locs ls h1 h2 h3
  exact lv_lxor hx hb hd (k H locs ls h1 h2 h3)
theorem gq_ldiv (hx : p.tables.exec = Jvm.exec) (hb : c.code = mi.2.1) {x y : Int64} {st : List Value} (hd : decode mi.2.1 pc = .ok (.ldiv, 1)) (hn : ¬ y = 0) (k : GLp G mi mc ms p l e s m args below meth c Q (pc + 1) (pl) (.long (x / y) :: st) (h) (ca) (sl)) : GLp G mi mc ms p l e s m args below meth c Q (pc) (pl) (.long y :: .long x :: st) (h) (ca) (sl) := by
  intro H locs ls h1 h2 h3
  exact lv_ldiv hx hb hd hn (k H locs ls h1 h2 h3)
theorem gq_lrem (hx : p.tables.exec = Jvm.exec) (hb : c.code = mi.2.1) {x y : Int64} {st : List Value} (hd : decode mi.2.1 pc = .ok (.lrem, 1)) (hn : ¬ y = 0) (k : GLp G mi mc ms p l e s m args below meth c Q (pc + 1) (pl) (.long (l_rem x y) :: st) (h) (ca) (sl)) : GLp G mi mc ms p l e s m args below meth c Q (pc) (pl) (.long y :: .long x :: st) (h) (ca) (sl) := by
  intro H locs ls h1 h2 h3
  exact lv_lrem hx hb hd hn (k H locs ls h1 h2 h3)
theorem gq_lshl (hx : p.tables.exec = Jvm.exec) (hb : c.code = mi.2.1) {x : Int64} {y : Int32} {st : List Value} (hd : decode mi.2.1 pc = .ok (.lshl, 1)) (k : GLp G mi mc ms p l e s m args below meth c Q (pc + 1) (pl) (.long (l_shl x y) :: st) (h) (ca) (sl)) : GLp G mi mc ms p l e s m args below meth c Q (pc) (pl) (.int y :: .long x :: st) (h) (ca) (sl) := by
  intro H locs ls h1 h2 h3
  exact lv_lshl hx hb hd rfl (k H locs ls h1 h2 h3)
theorem gq_lshr (hx : p.tables.exec = Jvm.exec) (hb : c.code = mi.2.1) {x : Int64} {y : Int32} {st : List Value} (hd : decode mi.2.1 pc = .ok (.lshr, 1)) (k : GLp G mi mc ms p l e s m args below meth c Q (pc + 1) (pl) (.long (l_shr x y) :: st) (h) (ca) (sl)) : GLp G mi mc ms p l e s m args below meth c Q (pc) (pl) (.int y :: .long x :: st) (h) (ca) (sl) := by
  intro H locs ls h1 h2 h3
  exact lv_lshr hx hb hd rfl (k H locs ls h1 h2 h3)
theorem gq_lneg (hx : p.tables.exec = Jvm.exec) (hb : c.code = mi.2.1) {x : Int64} {st : List Value} (hd : decode mi.2.1 pc = .ok (.lneg, 1)) (k : GLp G mi mc ms p l e s m args below meth c Q (pc + 1) (pl) (.long (-x) :: st) (h) (ca) (sl)) : GLp G mi mc ms p l e s m args below meth c Q (pc) (pl) (.long x :: st) (h) (ca) (sl) := by
  intro H locs ls h1 h2 h3
  exact lv_lneg hx hb hd (k H locs ls h1 h2 h3)
theorem gq_lcmp (hx : p.tables.exec = Jvm.exec) (hb : c.code = mi.2.1) {x y : Int64} {st : List Value} (hd : decode mi.2.1 pc = .ok (.lcmp, 1)) (k : GLp G mi mc ms p l e s m args below meth c Q (pc + 1) (pl) (.int (l_cmp x y) :: st) (h) (ca) (sl)) : GLp G mi mc ms p l e s m args below meth c Q (pc) (pl) (.long y :: .long x :: st) (h) (ca) (sl) := by
  intro H locs ls h1 h2 h3
  exact W.lcmp hx hb hd (k H locs ls h1 h2 h3)
theorem gq_i2l (hx : p.tables.exec = Jvm.exec) (hb : c.code = mi.2.1) {x : Int32} {st : List Value} (hd : decode mi.2.1 pc = .ok (.i2l, 1)) (k : GLp G mi mc ms p l e s m args below meth c Q (pc + 1) (pl) (.long (x.toInt64) :: st) (h) (ca) (sl)) : GLp G mi mc ms p l e s m args below meth c Q (pc) (pl) (.int x :: st) (h) (ca) (sl) := by
  intro H locs ls h1 h2 h3
  exact lv_i2l hx hb hd rfl (k H locs ls h1 h2 h3)
theorem gq_l2i (hx : p.tables.exec = Jvm.exec) (hb : c.code = mi.2.1) {x : Int64} {st : List Value} (hd : decode mi.2.1 pc = .ok (.l2i, 1)) (k : GLp G mi mc ms p l e s m args below meth c Q (pc + 1) (pl) (.int (x.toInt32) :: st) (h) (ca) (sl)) : GLp G mi mc ms p l e s m args below meth c Q (pc) (pl) (.long x :: st) (h) (ca) (sl) := by
  intro H locs ls h1 h2 h3
  exact lv_l2i hx hb hd rfl (k H locs ls h1 h2 h3)
theorem gq_i2b (hx : p.tables.exec = Jvm.exec) (hb : c.code = mi.2.1) {x : Int32} {st : List Value} (hd : decode mi.2.1 pc = .ok (.i2b, 1)) (k : GLp G mi mc ms p l e s m args below meth c Q (pc + 1) (pl) (.int (x.toInt8.toInt32) :: st) (h) (ca) (sl)) : GLp G mi mc ms p l e s m args below meth c Q (pc) (pl) (.int x :: st) (h) (ca) (sl) := by
  intro H locs ls h1 h2 h3
  exact lv_i2b hx hb hd rfl (k H locs ls h1 h2 h3)
theorem gq_dup (hx : p.tables.exec = Jvm.exec) (hb : c.code = mi.2.1) {v : Value} {st : List Value} (hv : v.category = 1) (hd : decode mi.2.1 pc = .ok (.dup, 1)) (k : GLp G mi mc ms p l e s m args below meth c Q (pc + 1) (pl) (v :: v :: st) (h) (ca) (sl)) : GLp G mi mc ms p l e s m args below meth c Q (pc) (pl) (v :: st) (h) (ca) (sl) := by
  intro H locs ls h1 h2 h3
  exact lv_dup hx hb hd (by rw [tv_cat]; exact hv) (k H locs ls h1 h2 h3)
theorem gq_dup2 (hx : p.tables.exec = Jvm.exec) (hb : c.code = mi.2.1) {v w : Value} {st : List Value} (hv : v.category = 1) (hw : w.category = 1) (hd : decode mi.2.1 pc = .ok (.dup2, 1)) (k : GLp G mi mc ms p l e s m args below meth c Q (pc + 1) (pl) (v :: w :: v :: w :: st) (h) (ca) (sl)) : GLp G mi mc ms p l e s m args below meth c Q (pc) (pl) (v :: w :: st) (h) (ca) (sl) := by
  intro H locs ls h1 h2 h3
  exact lv_dup2_11 hx hb hd (by rw [tv_cat]; exact hv) (by rw [tv_cat]; exact hw) (k H locs ls h1 h2 h3)
theorem gq_pop (hx : p.tables.exec = Jvm.exec) (hb : c.code = mi.2.1) {v : Value} {st : List Value} (hv : v.category = 1) (hd : decode mi.2.1 pc = .ok (.pop, 1)) (k : GLp G mi mc ms p l e s m args below meth c Q (pc + 1) (pl) (st) (h) (ca) (sl)) : GLp G mi mc ms p l e s m args below meth c Q (pc) (pl) (v :: st) (h) (ca) (sl) := by
  intro H locs ls h1 h2 h3
  exact lv_pop hx hb hd (by rw [tv_cat]; exact hv) (k H locs ls h1 h2 h3)
theorem gq_iload (hx : p.tables.exec = Jvm.exec) (hb : c.code = mi.2.1) {i : Nat} {x : Int32} {st : List Value} (hl : pl[i]? = some (some (.int x))) (hd : decode mi.2.1 pc = .ok (.iload i, 2)) (k : GLp G mi mc ms p l e s m args below meth c Q (pc + 2) (pl) (.int x :: st) (h) (ca) (sl)) : GLp G mi mc ms p l e s m args below meth c Q (pc) (pl) (st) (h) (ca) (sl) := by
  intro H locs ls h1 h2 h3
  exact lv_iload hx hb hd (h3.2.2 _ _ hl) (k H locs ls h1 h2 h3)
theorem gq_iload_n (hx : p.tables.exec = Jvm.exec) (hb : c.code = mi.2.1) {i : Nat} {kk : Fin 4} {x : Int32} {st : List Value} (hi : (kk : Nat) = i) (hl : pl[i]? = some (some (.int x))) (hd : decode mi.2.1 pc = .ok (.iload_n kk, 1)) (k : GLp G mi mc ms p l e s m args below meth c Q (pc + 1) (pl) (.int x :: st) (h) (ca) (sl)) : GLp G mi mc ms p l e s m args below meth c Q (pc) (pl) (st) (h) (ca) (sl) := by
  intro H locs ls h1 h2 h3
  exact lv_iload_n hx hb hd hi (h3.2.2 _ _ hl) (k H locs ls h1 h2 h3)
theorem gq_lload (hx : p.tables.exec = Jvm.exec) (hb : c.code = mi.2.1) {i : Nat} {x : Int64} {st : List Value} (hl : pl[i]? = some (some (.long x))) (hd : decode mi.2.1 pc = .ok (.lload i, 2)) (k : GLp G mi mc ms p l e s m args below meth c Q (pc + 2) (pl) (.long x :: st) (h) (ca) (sl)) : GLp G mi mc ms p l e s m args below meth c Q (pc) (pl) (st) (h) (ca) (sl) := by
  intro H locs ls h1 h2 h3
  exact lv_lload hx hb hd (h3.2.2 _ _ hl) (k H locs ls h1 h2 h3)
theorem gq_lload_n (hx : p.tables.exec = Jvm.exec) (hb : c.code = mi.2.1) {i : Nat} {kk : Fin 4} {x : Int64} {st : List Value} (hi : (kk : Nat) = i) (hl : pl[i]? = some (some (.long x))) (hd : decode mi.2.1 pc = .ok (.lload_n kk, 1)) (k : GLp G mi mc ms p l e s m args below meth c Q (pc + 1) (pl) (.long x :: st) (h) (ca) (sl)) : GLp G mi mc ms p l e s m args below meth c Q (pc) (pl) (st) (h) (ca) (sl) := by
  intro H locs ls h1 h2 h3
  exact lv_lload_n hx hb hd hi (h3.2.2 _ _ hl) (k H locs ls h1 h2 h3)
theorem gq_aload (hx : p.tables.exec = Jvm.exec) (hb : c.code = mi.2.1) {i : Nat} {x : Nat} {st : List Value} (hl : pl[i]? = some (some (.ref x))) (hd : decode mi.2.1 pc = .ok (.aload i, 2)) (k : GLp G mi mc ms p l e s m args below meth c Q (pc + 2) (pl) (.ref x :: st) (h) (ca) (sl)) : GLp G mi mc ms p l e s m args below meth c Q (pc) (pl) (st) (h) (ca) (sl) := by
  intro H locs ls h1 h2 h3
  have g1 := h3.2.2 _ _ hl
  have g2 := k H locs ls h1 h2 h3
  have e1 : tv G (.ref x) = va_rf (rfq G x) := rfl
  rw [List.map_cons, e1] at g2
  rw [e1] at g1
  cases hz : rfq G x with
  | none =>
    rw [hz] at g1 g2
    exact lv_aloadN hx hb hd g1 g2
  | some y =>
    rw [hz] at g1 g2
    exact lv_aload hx hb hd g1 g2
theorem gq_aload_n (hx : p.tables.exec = Jvm.exec) (hb : c.code = mi.2.1) {i : Nat} {kk : Fin 4} {x : Nat} {st : List Value} (hi : (kk : Nat) = i) (hl : pl[i]? = some (some (.ref x))) (hd : decode mi.2.1 pc = .ok (.aload_n kk, 1)) (k : GLp G mi mc ms p l e s m args below meth c Q (pc + 1) (pl) (.ref x :: st) (h) (ca) (sl)) : GLp G mi mc ms p l e s m args below meth c Q (pc) (pl) (st) (h) (ca) (sl) := by
  intro H locs ls h1 h2 h3
  have g1 := h3.2.2 _ _ hl
  have g2 := k H locs ls h1 h2 h3
  have e1 : tv G (.ref x) = va_rf (rfq G x) := rfl
  rw [List.map_cons, e1] at g2
  rw [e1] at g1
  cases hz : rfq G x with
  | none =>
    rw [hz] at g1 g2
    exact lv_aload_nN hx hb hd hi g1 g2
  | some y =>
    rw [hz] at g1 g2
    exact lv_aload_n hx hb hd hi g1 g2
theorem gq_istore (hx : p.tables.exec = Jvm.exec) (hb : c.code = mi.2.1) {i : Nat} {x : Int32} {st : List Value} (hn : i < mi.2.2.1) (hd : decode mi.2.1 pc = .ok (.istore i, 2)) (k : GLp G mi mc ms p l e s m args below meth c Q (pc + 2) (ls1 pl i (.int x)) (st) (h) (ca) (sl)) : GLp G mi mc ms p l e s m args below meth c Q (pc) (pl) (.int x :: st) (h) (ca) (sl) := by
  intro H locs ls h1 h2 h3
  exact lv_istore hx hb hd h3.has hn rfl (fun ls' hl => k H locs ls' h1 h2 (LRl.set1 (v := .int x) hl))
theorem gq_istore_n (hx : p.tables.exec = Jvm.exec) (hb : c.code = mi.2.1) {i : Nat} {kk : Fin 4} {x : Int32} {st : List Value} (hi : (kk : Nat) = i) (hn : i < mi.2.2.1) (hd : decode mi.2.1 pc = .ok (.istore_n kk, 1)) (k : GLp G mi mc ms p l e s m args below meth c Q (pc + 1) (ls1 pl i (.int x)) (st) (h) (ca) (sl)) : GLp G mi mc ms p l e s m args below meth c Q (pc) (pl) (.int x :: st) (h) (ca) (sl) := by
  intro H locs ls h1 h2 h3
  exact lv_istore_n hx hb hd hi h3.has hn rfl (fun ls' hl => k H locs ls' h1 h2 (LRl.set1 (v := .int x) hl))
theorem gq_lstore (hx : p.tables.exec = Jvm.exec) (hb : c.code = mi.2.1) {i : Nat} {x : Int64} {st : List Value} (hn : i + 1 < mi.2.2.1) (hd : decode mi.2.1 pc = .ok (.lstore i, 2)) (k : GLp G mi mc ms p l e s m args below meth c Q (pc + 2) (ls2 pl i (.long x)) (st) (h) (ca) (sl)) : GLp G mi mc ms p l e s m args below meth c Q (pc) (pl) (.long x :: st) (h) (ca) (sl) := by
  intro H locs ls h1 h2 h3
  exact lv_lstore hx hb hd h3.has hn rfl (fun ls' hl => k H locs ls' h1 h2 (LRl.set2 (v := .long x) hl))
theorem gq_lstore_n (hx : p.tables.exec = Jvm.exec) (hb : c.code = mi.2.1) {i : Nat} {kk : Fin 4} {x : Int64} {st : List Value} (hi : (kk : Nat) = i) (hn : i + 1 < mi.2.2.1) (hd : decode mi.2.1 pc = .ok (.lstore_n kk, 1)) (k : GLp G mi mc ms p l e s m args below meth c Q (pc + 1) (ls2 pl i (.long x)) (st) (h) (ca) (sl)) : GLp G mi mc ms p l e s m args below meth c Q (pc) (pl) (.long x :: st) (h) (ca) (sl) := by
  intro H locs ls h1 h2 h3
  exact lv_lstore_n hx hb hd hi h3.has hn rfl (fun ls' hl => k H locs ls' h1 h2 (LRl.set2 (v := .long x) hl))
theorem gq_astore (hx : p.tables.exec = Jvm.exec) (hb : c.code = mi.2.1) {i : Nat} {x : Nat} {st : List Value} (hn : i < mi.2.2.1) (hd : decode mi.2.1 pc = .ok (.astore i, 2)) (k : GLp G mi mc ms p l e s m args below meth c Q (pc + 2) (ls1 pl i (.ref x)) (st) (h) (ca) (sl)) : GLp G mi mc ms p l e s m args below meth c Q (pc) (pl) (.ref x :: st) (h) (ca) (sl) := by
  intro H locs ls h1 h2 h3
  have g2 := fun ls' hl => k H locs ls' h1 h2 (LRl.set1 (G := G) (pl := pl) (v := .ref x) (i := i) (n := mi.2.2.1) hl)
  have e1 : tv G (.ref x) = va_rf (rfq G x) := rfl
  rw [List.map_cons, e1]
  rw [e1] at g2
  cases hz : rfq G x with
  | none =>
    rw [hz] at g2
    exact lv_astoreN hx hb hd h3.has hn rfl g2
  | some y =>
    rw [hz] at g2
    exact lv_astore hx hb hd h3.has hn rfl g2
theorem gq_astore_n (hx : p.tables.exec = Jvm.exec) (hb : c.code = mi.2.1) {i : Nat} {kk : Fin 4} {x : Nat} {st : List Value} (hi : (kk : Nat) = i) (hn : i < mi.2.2.1) (hd : decode mi.2.1 pc = .ok (.astore_n kk, 1)) (k : GLp G mi mc ms p l e s m args below meth c Q (pc + 1) (ls1 pl i (.ref x)) (st) (h) (ca) (sl)) : GLp G mi mc ms p l e s m args below meth c Q (pc) (pl) (.ref x :: st) (h) (ca) (sl) := by
  intro H locs ls h1 h2 h3
  have g2 := fun ls' hl => k H locs ls' h1 h2 (LRl.set1 (G := G) (pl := pl) (v := .ref x) (i := i) (n := mi.2.2.1) hl)
  have e1 : tv G (.ref x) = va_rf (rfq G x) := rfl
  rw [List.map_cons, e1]
  rw [e1] at g2
  cases hz : rfq G x with
  | none =>
    rw [hz] at g2
    exact lv_astore_nN hx hb hd hi h3.has hn rfl g2
  | some y =>
    rw [hz] at g2
    exact lv_astore_n hx hb hd hi h3.has hn rfl g2
theorem gq_iinc (hx : p.tables.exec = Jvm.exec) (hb : c.code = mi.2.1) {i : Nat} {x v : Int32} {n : Int} {st : List Value} (hl : pl[i]? = some (some (.int x))) (hn : i < mi.2.2.1) (hv : Int32.ofInt n = v) (hd : decode mi.2.1 pc = .ok (.iinc i n, 3)) (k : GLp G mi mc ms p l e s m args below meth c Q (pc + 3) (ls1 pl i (.int (x + v))) (st) (h) (ca) (sl)) : GLp G mi mc ms p l e s m args below meth c Q (pc) (pl) (st) (h) (ca) (sl) := by
  intro H locs ls h1 h2 h3
  have hm : (i, Value.int x) ∈ lvo G pl := lvo_mem.mpr ⟨.int x, hl, rfl⟩
  obtain ⟨k0, hk0⟩ := List.getElem?_of_mem hm
  exact lv_iinc hx hb hd h3.has hk0 (by rw [hv]) hn rfl (fun ls' hl => k H locs ls' h1 h2 (LRl.set1 (v := .int (x + v)) hl))
theorem gq_iconst (hx : p.tables.exec = Jvm.exec) (hb : c.code = mi.2.1) {n : Int} {v : Int32} {st : List Value} (hv : Int32.ofInt n = v) (hd : decode mi.2.1 pc = .ok (.iconst n, 1)) (k : GLp G mi mc ms p l e s m args below meth c Q (pc + 1) (pl) (.int v :: st) (h) (ca) (sl)) : GLp G mi mc ms p l e s m args below meth c Q (pc) (pl) (st) (h) (ca) (sl) := by
  intro H locs ls h1 h2 h3
  exact lv_iconst hx hb hd hv (k H locs ls h1 h2 h3)
theorem gq_bipush (hx : p.tables.exec = Jvm.exec) (hb : c.code = mi.2.1) {n : Int} {v : Int32} {st : List Value} (hv : (Int8.ofInt n).toInt32 = v) (hd : decode mi.2.1 pc = .ok (.bipush n, 2)) (k : GLp G mi mc ms p l e s m args below meth c Q (pc + 2) (pl) (.int v :: st) (h) (ca) (sl)) : GLp G mi mc ms p l e s m args below meth c Q (pc) (pl) (st) (h) (ca) (sl) := by
  intro H locs ls h1 h2 h3
  exact lv_bipush hx hb hd hv (k H locs ls h1 h2 h3)
theorem gq_sipush (hx : p.tables.exec = Jvm.exec) (hb : c.code = mi.2.1) {n : Int} {v : Int32} {st : List Value} (hv : (Int16.ofInt n).toInt32 = v) (hd : decode mi.2.1 pc = .ok (.sipush n, 3)) (k : GLp G mi mc ms p l e s m args below meth c Q (pc + 3) (pl) (.int v :: st) (h) (ca) (sl)) : GLp G mi mc ms p l e s m args below meth c Q (pc) (pl) (st) (h) (ca) (sl) := by
  intro H locs ls h1 h2 h3
  exact lv_sipush hx hb hd hv (k H locs ls h1 h2 h3)
theorem gq_lconst (hx : p.tables.exec = Jvm.exec) (hb : c.code = mi.2.1) {n : Fin 2} {v : Int64} {st : List Value} (hv : Int64.ofNat (n : Nat) = v) (hd : decode mi.2.1 pc = .ok (.lconst n, 1)) (k : GLp G mi mc ms p l e s m args below meth c Q (pc + 1) (pl) (.long v :: st) (h) (ca) (sl)) : GLp G mi mc ms p l e s m args below meth c Q (pc) (pl) (st) (h) (ca) (sl) := by
  intro H locs ls h1 h2 h3
  exact lv_lconst hx hb hd hv (k H locs ls h1 h2 h3)
theorem gq_ldc (hx : p.tables.exec = Jvm.exec) (hb : c.code = mi.2.1) {ix : Nat} {v : Int32} {st : List Value} (ho : s.vm.findClass mi.1.cls = some m.cls) (hw : (Jvm.Cond.constant mi.1.cls ix v).before args s = true) (hd : decode mi.2.1 pc = .ok (.ldc ix, 2)) (k : GLp G mi mc ms p l e s m args below meth c Q (pc + 2) (pl) (.int v :: st) (h) (ca) (sl)) : GLp G mi mc ms p l e s m args below meth c Q (pc) (pl) (st) (h) (ca) (sl) := by
  intro H locs ls h1 h2 h3
  exact lv_ldc hx hb ho hw hd (k H locs ls h1 h2 h3)
theorem gq_ldcw (hx : p.tables.exec = Jvm.exec) (hb : c.code = mi.2.1) {ix : Nat} {v : Int32} {st : List Value} (ho : s.vm.findClass mi.1.cls = some m.cls) (hw : (Jvm.Cond.constant mi.1.cls ix v).before args s = true) (hd : decode mi.2.1 pc = .ok (.ldc_w ix, 3)) (k : GLp G mi mc ms p l e s m args below meth c Q (pc + 3) (pl) (.int v :: st) (h) (ca) (sl)) : GLp G mi mc ms p l e s m args below meth c Q (pc) (pl) (st) (h) (ca) (sl) := by
  intro H locs ls h1 h2 h3
  exact lv_ldcw hx hb ho hw hd (k H locs ls h1 h2 h3)
theorem gq_ldc2 (hx : p.tables.exec = Jvm.exec) (hb : c.code = mi.2.1) {ix : Nat} {v : Int64} {st : List Value} (ho : s.vm.findClass mi.1.cls = some m.cls) (hw : (Jvm.Cond.constantLong mi.1.cls ix v).before args s = true) (hd : decode mi.2.1 pc = .ok (.ldc2_w ix, 3)) (k : GLp G mi mc ms p l e s m args below meth c Q (pc + 3) (pl) (.long v :: st) (h) (ca) (sl)) : GLp G mi mc ms p l e s m args below meth c Q (pc) (pl) (st) (h) (ca) (sl) := by
  intro H locs ls h1 h2 h3
  exact lv_ldc2 hx hb ho hw hd (k H locs ls h1 h2 h3)
theorem gq_if (hx : p.tables.exec = Jvm.exec) (hb : c.code = mi.2.1) {cd : Jvm.ClassFile.Cond} {x : Int32} {off : Int} {tgt : Nat} {st : List Value} {J N : Prop} (hd : decode mi.2.1 pc = .ok (.ifCond cd off, 3)) (ht : (pc : Int) + off = (tgt : Int)) (hj : J → GLp G mi mc ms p l e s m args below meth c Q (tgt) (pl) (st) (h) (ca) (sl)) (hn : N → GLp G mi mc ms p l e s m args below meth c Q (pc + 3) (pl) (st) (h) (ca) (sl)) (hb2 : br1 cd x J N) : GLp G mi mc ms p l e s m args below meth c Q (pc) (pl) (.int x :: st) (h) (ca) (sl) := by
  intro H locs ls h1 h2 h3
  cases cd
  · exact lv_if_eq hx hb hd ht (fun q => hj (hb2.1 q) H locs ls h1 h2 h3) (fun q => hn (hb2.2 q) H locs ls h1 h2 h3)
  · exact lv_if_ne hx hb hd ht (fun q => hj (hb2.1 q) H locs ls h1 h2 h3) (fun q => hn (hb2.2 q) H locs ls h1 h2 h3)
  · exact lv_if_lt hx hb hd ht (fun q => hj (hb2.1 q) H locs ls h1 h2 h3) (fun q => hn (hb2.2 q) H locs ls h1 h2 h3)
  · exact lv_if_ge hx hb hd ht (fun q => hj (hb2.1 q) H locs ls h1 h2 h3) (fun q => hn (hb2.2 q) H locs ls h1 h2 h3)
  · exact lv_if_gt hx hb hd ht (fun q => hj (hb2.1 q) H locs ls h1 h2 h3) (fun q => hn (hb2.2 q) H locs ls h1 h2 h3)
  · exact lv_if_le hx hb hd ht (fun q => hj (hb2.1 q) H locs ls h1 h2 h3) (fun q => hn (hb2.2 q) H locs ls h1 h2 h3)
theorem gq_icmp (hx : p.tables.exec = Jvm.exec) (hb : c.code = mi.2.1) {cd : Jvm.ClassFile.Cond} {x y : Int32} {off : Int} {tgt : Nat} {st : List Value} {J N : Prop} (hd : decode mi.2.1 pc = .ok (.if_icmp cd off, 3)) (ht : (pc : Int) + off = (tgt : Int)) (hj : J → GLp G mi mc ms p l e s m args below meth c Q (tgt) (pl) (st) (h) (ca) (sl)) (hn : N → GLp G mi mc ms p l e s m args below meth c Q (pc + 3) (pl) (st) (h) (ca) (sl)) (hb2 : br2 cd x y J N) : GLp G mi mc ms p l e s m args below meth c Q (pc) (pl) (.int y :: .int x :: st) (h) (ca) (sl) := by
  intro H locs ls h1 h2 h3
  cases cd
  · exact lv_icmp_eq hx hb hd ht (fun q => hj (hb2.1 q) H locs ls h1 h2 h3) (fun q => hn (hb2.2 q) H locs ls h1 h2 h3)
  · exact lv_icmp_ne hx hb hd ht (fun q => hj (hb2.1 q) H locs ls h1 h2 h3) (fun q => hn (hb2.2 q) H locs ls h1 h2 h3)
  · exact lv_icmp_lt hx hb hd ht (fun q => hj (hb2.1 q) H locs ls h1 h2 h3) (fun q => hn (hb2.2 q) H locs ls h1 h2 h3)
  · exact lv_icmp_ge hx hb hd ht (fun q => hj (hb2.1 q) H locs ls h1 h2 h3) (fun q => hn (hb2.2 q) H locs ls h1 h2 h3)
  · exact lv_icmp_gt hx hb hd ht (fun q => hj (hb2.1 q) H locs ls h1 h2 h3) (fun q => hn (hb2.2 q) H locs ls h1 h2 h3)
  · exact lv_icmp_le hx hb hd ht (fun q => hj (hb2.1 q) H locs ls h1 h2 h3) (fun q => hn (hb2.2 q) H locs ls h1 h2 h3)
theorem gq_ifnull (hx : p.tables.exec = Jvm.exec) (hb : c.code = mi.2.1) {x : Nat} {off : Int} {tgt : Nat} {st : List Value} (hd : decode mi.2.1 pc = .ok (.ifnull off, 3)) (ht : (pc : Int) + off = (tgt : Int)) (hj : x = 0 → GLp G mi mc ms p l e s m args below meth c Q (tgt) (pl) (st) (h) (ca) (sl)) (hn : ¬ x = 0 → GLp G mi mc ms p l e s m args below meth c Q (pc + 3) (pl) (st) (h) (ca) (sl)) : GLp G mi mc ms p l e s m args below meth c Q (pc) (pl) (.ref x :: st) (h) (ca) (sl) := by
  intro H locs ls h1 h2 h3
  rw [List.map_cons, show tv G (.ref x) = va_rf (rfq G x) from rfl]
  by_cases hz : x = 0
  · rw [show rfq G x = none from if_pos hz]
    exact lv_ifnullN hx hb hd ht (hj hz H locs ls h1 h2 h3)
  · rw [show rfq G x = some (ad G x) from if_neg hz]
    exact lv_ifnull hx hb hd (hn hz H locs ls h1 h2 h3)
theorem gq_ifnonnull (hx : p.tables.exec = Jvm.exec) (hb : c.code = mi.2.1) {x : Nat} {off : Int} {tgt : Nat} {st : List Value} (hd : decode mi.2.1 pc = .ok (.ifnonnull off, 3)) (ht : (pc : Int) + off = (tgt : Int)) (hj : ¬ x = 0 → GLp G mi mc ms p l e s m args below meth c Q (tgt) (pl) (st) (h) (ca) (sl)) (hn : x = 0 → GLp G mi mc ms p l e s m args below meth c Q (pc + 3) (pl) (st) (h) (ca) (sl)) : GLp G mi mc ms p l e s m args below meth c Q (pc) (pl) (.ref x :: st) (h) (ca) (sl) := by
  intro H locs ls h1 h2 h3
  rw [List.map_cons, show tv G (.ref x) = va_rf (rfq G x) from rfl]
  by_cases hz : x = 0
  · rw [show rfq G x = none from if_pos hz]
    exact lv_ifnonnullN hx hb hd (hn hz H locs ls h1 h2 h3)
  · rw [show rfq G x = some (ad G x) from if_neg hz]
    exact lv_ifnonnull hx hb hd ht (hj hz H locs ls h1 h2 h3)
theorem gq_goto (hx : p.tables.exec = Jvm.exec) (hb : c.code = mi.2.1) {off : Int} {tgt : Nat} {st : List Value} (hd : decode mi.2.1 pc = .ok (.goto off, 3)) (ht : (pc : Int) + off = (tgt : Int)) (k : GLp G mi mc ms p l e s m args below meth c Q (tgt) (pl) (st) (h) (ca) (sl)) : GLp G mi mc ms p l e s m args below meth c Q (pc) (pl) (st) (h) (ca) (sl) := by
  intro H locs ls h1 h2 h3
  exact lv_goto hx hb hd ht (k H locs ls h1 h2 h3)
end S8
end
section
/-! SOUNDNESS: the heap -/
theorem uw_0 : ∀ w ∈ u_ws r_0 ff_0 6, w ∈ tbG := by
  intro w hw
  have h1 : (u_ws r_0 ff_0 6).all (fun w => lw_tbl.contains w && goodWord w) = true := by decide +kernel
  have h2 := List.all_eq_true.mp h1 w hw
  simp only [Bool.and_eq_true] at h2
  exact List.mem_filter.mpr ⟨by simpa using h2.1, h2.2⟩
theorem uw_1 : ∀ w ∈ u_ws r_1 ff_1 3, w ∈ tbG := by
  intro w hw
  have h1 : (u_ws r_1 ff_1 3).all (fun w => lw_tbl.contains w && goodWord w) = true := by decide +kernel
  have h2 := List.all_eq_true.mp h1 w hw
  simp only [Bool.and_eq_true] at h2
  exact List.mem_filter.mpr ⟨by simpa using h2.1, h2.2⟩
theorem uw_2 : ∀ w ∈ u_ws r_2 ff_2 4, w ∈ tbG := by
  intro w hw
  have h1 : (u_ws r_2 ff_2 4).all (fun w => lw_tbl.contains w && goodWord w) = true := by decide +kernel
  have h2 := List.all_eq_true.mp h1 w hw
  simp only [Bool.and_eq_true] at h2
  exact List.mem_filter.mpr ⟨by simpa using h2.1, h2.2⟩
theorem uw_3 : ∀ w ∈ u_ws r_3 ff_3 5, w ∈ tbG := by
  intro w hw
  have h1 : (u_ws r_3 ff_3 5).all (fun w => lw_tbl.contains w && goodWord w) = true := by decide +kernel
  have h2 := List.all_eq_true.mp h1 w hw
  simp only [Bool.and_eq_true] at h2
  exact List.mem_filter.mpr ⟨by simpa using h2.1, h2.2⟩
theorem uw_4 : ∀ w ∈ u_ws r_4 ff_4 4, w ∈ tbG := by
  intro w hw
  have h1 : (u_ws r_4 ff_4 4).all (fun w => lw_tbl.contains w && goodWord w) = true := by decide +kernel
  have h2 := List.all_eq_true.mp h1 w hw
  simp only [Bool.and_eq_true] at h2
  exact List.mem_filter.mpr ⟨by simpa using h2.1, h2.2⟩
theorem uw_5 : ∀ w ∈ u_ws r_5 ff_5 7, w ∈ tbG := by
  intro w hw
  have h1 : (u_ws r_5 ff_5 7).all (fun w => lw_tbl.contains w && goodWord w) = true := by decide +kernel
  have h2 := List.all_eq_true.mp h1 w hw
  simp only [Bool.and_eq_true] at h2
  exact List.mem_filter.mpr ⟨by simpa using h2.1, h2.2⟩
theorem uw_6 : ∀ w ∈ u_ws r_6 ff_6 7, w ∈ tbG := by
  intro w hw
  have h1 : (u_ws r_6 ff_6 7).all (fun w => lw_tbl.contains w && goodWord w) = true := by decide +kernel
  have h2 := List.all_eq_true.mp h1 w hw
  simp only [Bool.and_eq_true] at h2
  exact List.mem_filter.mpr ⟨by simpa using h2.1, h2.2⟩
theorem uw_7 : ∀ w ∈ u_ws r_7 ff_7 3, w ∈ tbG := by
  intro w hw
  have h1 : (u_ws r_7 ff_7 3).all (fun w => lw_tbl.contains w && goodWord w) = true := by decide +kernel
  have h2 := List.all_eq_true.mp h1 w hw
  simp only [Bool.and_eq_true] at h2
  exact List.mem_filter.mpr ⟨by simpa using h2.1, h2.2⟩
theorem uw_8 : ∀ w ∈ u_ws r_8 ff_8 13, w ∈ tbG := by
  intro w hw
  have h1 : (u_ws r_8 ff_8 13).all (fun w => lw_tbl.contains w && goodWord w) = true := by decide +kernel
  have h2 := List.all_eq_true.mp h1 w hw
  simp only [Bool.and_eq_true] at h2
  exact List.mem_filter.mpr ⟨by simpa using h2.1, h2.2⟩
theorem uw_9 : ∀ w ∈ u_ws r_9 ff_9 12, w ∈ tbG := by
  intro w hw
  have h1 : (u_ws r_9 ff_9 12).all (fun w => lw_tbl.contains w && goodWord w) = true := by decide +kernel
  have h2 := List.all_eq_true.mp h1 w hw
  simp only [Bool.and_eq_true] at h2
  exact List.mem_filter.mpr ⟨by simpa using h2.1, h2.2⟩
theorem uw_10 : ∀ w ∈ u_ws r_10 ff_10 50, w ∈ tbG := by
  intro w hw
  have h1 : (u_ws r_10 ff_10 50).all (fun w => lw_tbl.contains w && goodWord w) = true := by decide +kernel
  have h2 := List.all_eq_true.mp h1 w hw
  simp only [Bool.and_eq_true] at h2
  exact List.mem_filter.mpr ⟨by simpa using h2.1, h2.2⟩
theorem cl_ok {ci : Nat} {C : String} {T : u_T} {N : Nat} (h : v_cl[ci]? = some (C, T, N)) : (∀ w ∈ u_ws C T N, w ∈ tbG) ∧ ∃ ty0 : Nat → FieldType, (∀ k, k < N → parseFieldDescriptor (T k).2.2.1 = some (ty0 k)) ∧ ∀ a, a < N → ∀ b, b < N → a ≠ b → (T a).2.1 ≠ (T b).2.1 := by
  match ci, h with
  | 0, h => cases h; exact ⟨uw_0, ft_0, fo_0, fn_0⟩
  | 1, h => cases h; exact ⟨uw_1, ft_1, fo_1, fn_1⟩
  | 2, h => cases h; exact ⟨uw_2, ft_2, fo_2, fn_2⟩
  | 3, h => cases h; exact ⟨uw_3, ft_3, fo_3, fn_3⟩
  | 4, h => cases h; exact ⟨uw_4, ft_4, fo_4, fn_4⟩
  | 5, h => cases h; exact ⟨uw_5, ft_5, fo_5, fn_5⟩
  | 6, h => cases h; exact ⟨uw_6, ft_6, fo_6, fn_6⟩
  | 7, h => cases h; exact ⟨uw_7, ft_7, fo_7, fn_7⟩
  | 8, h => cases h; exact ⟨uw_8, ft_8, fo_8, fn_8⟩
  | 9, h => cases h; exact ⟨uw_9, ft_9, fo_9, fn_9⟩
  | 10, h => cases h; exact ⟨uw_10, ft_10, fo_10, fn_10⟩
  | k + 11, h => simp [v_cl] at h
theorem wsH_upd {G : GW} {h h' : PH} {k : Nat} (he : hE h' = hE h) (h1 : 5 ≤ k) (ho : ∀ j, 5 ≤ j → j ≠ k → enT G h' j = enT G h j) : wsH G h' = (wsH G h).set (k - 5) (ad G k, enT G h' k) := by
  apply List.ext_getElem?
  intro i
  by_cases hi : i < hE h - 5
  · have a1 : (wsH G h')[i]? = some (ad G (i + 5), enT G h' (i + 5)) := by
      have := wsH_at (G := G) (h := h') (k := i + 5) (by omega) (by rw [he]; omega)
      rwa [show i + 5 - 5 = i by omega] at this
    have a2 : (wsH G h)[i]? = some (ad G (i + 5), enT G h (i + 5)) := by
      have := wsH_at (G := G) (h := h) (k := i + 5) (by omega) (by omega)
      rwa [show i + 5 - 5 = i by omega] at this
    by_cases hik : i = k - 5
    · subst hik
      rw [List.getElem?_set_self (by rw [wsH_len]; exact hi), a1]
      rw [show k - 5 + 5 = k by omega]
    · rw [List.getElem?_set_ne (Ne.symm hik), a1, a2, ho (i + 5) (by omega) (by omega)]
  · rw [List.getElem?_eq_none (by rw [wsH_len, he]; omega), List.getElem?_eq_none (by rw [List.length_set, wsH_len]; omega)]
theorem HRl.upd {G : GW} {h h' : PH} {H H1 : Heap} {k : Nat} (hH : HRl G h H) (h1 : 5 ≤ k) (h2 : k < hE h) (e1 : h'.1 = h.1) (e2 : hE h' = hE h) (e3 : ∀ j, j < 5 → hI h' j = hI h j) (ho : ∀ j, 5 ≤ j → j ≠ k → enT G h' j = enT G h j)
    (hat : va_at G.1 v_cl (ad G k, enT G h' k) H1) (z : H1.size = H.size) (oq : ∀ q : Nat, q ≠ ad G k → H1[q]? = H[q]?) : HRl G h' H1 := by
  obtain ⟨w1, w2, w3, w4, w5⟩ := hH
  have et : ∀ j, hT h' j = hT h j := fun j => by unfold hT; rw [e1]
  refine ⟨?_, fun j a b => ?_, by rw [z, e2]; exact w3, fun q hq => ?_, ?_⟩
  · obtain ⟨a1, a2, a3, a4⟩ := w1
    exact ⟨by rw [e2]; exact a1, by rw [et]; exact a2, fun j a b => by rw [et]; exact a3 j a b, fun j a => by rw [et]; exact a4 j (by rw [← e2]; exact a)⟩
  · obtain ⟨b1, b2⟩ := w2 j a b
    refine ⟨?_, by rw [e3 j b]; exact b2⟩
    rw [← b1]
    unfold hN
    rw [e1]
  · rw [oq q (by rw [ad_ge h1]; omega)]
    exact w4 q hq
  · rw [wsH_upd e2 h1 ho]
    exact w5.set wsH_D (wsH_at h1 h2) hat oq
theorem enT_o {G : GW} {h : PH} {k c : Nat} (hk : hT h k = c) (hc : c < 20) : enT G h k = enO G h k c := by
  unfold enT
  rw [if_pos (by rw [hk]; exact hc), hk]
theorem enT_a {G : GW} {h : PH} {k t : Nat} (hk : hT h k = t) (hc : 20 ≤ t) : enT G h k = enA G h k t := by
  unfold enT
  rw [if_neg (by rw [hk]; omega), hk]
theorem enO_at {G : GW} {h : PH} {k c j : Nat} (hj : j < (ftl c).length) : ((List.range (ftl c).length).map (fun j => fvl G h k ((ftl c)[j]?.getD 0) j))[j]? = some (fvl G h k ((ftl c)[j]?.getD 0) j) := by
  rw [List.getElem?_map, List.getElem?_range hj]
  rfl
theorem tv_ref {G : GW} {k : Nat} (hk : 1 ≤ k) : tv G (.ref k) = .ref (ad G k) := by
  show va_rf (rfq G k) = _
  unfold rfq
  rw [if_neg (by omega)]
  rfl
theorem vq_in {i : Int32} {n : Nat} (h1 : ¬ i < 0) (h2 : i.toNatClampNeg < n) : vp_in i n := fun q => by
  rcases q with q | q
  · exact h1 q
  · omega
theorem va_S_of {G : GW} {s : State} {H : Heap} {locs : List Loc} (hS : va_S (AA G) s.heap H locs) {H1 : Heap} {a j : Nat} (z : H1.size = H.size) (oq : ∀ q : Nat, q ≠ a → H1[q]? = H[q]?) (hA : G.2.2.2.1.size ≤ a) : va_S (AA G) s.heap H1 (locs ++ [⟨a, j⟩]) := hS.put z oq hA
theorem ad_AA {G : GW} {k : Nat} (h : 5 ≤ k) : G.2.2.2.1.size ≤ ad G k := by rw [ad_ge h]; omega
theorem fvl_ne_up {G : GW} {h : PH} {k j tc j' k' : Nat} {v : Int32} (hne : k' ≠ k ∨ j' ≠ j) : fvl G (sI h k j v) k' tc j' = fvl G h k' tc j' := by
  have e : hI (sI h k j v) k' j' = hI h k' j' := by
    show up2 (hI h) k j v k' j' = _
    unfold up2
    rw [if_neg (by intro q; rcases hne with z | z; exact z q.1; exact z q.2)]
  unfold fvl
  split
  · rfl
  · rfl
  · rw [e]
theorem fvl_ne_upL {G : GW} {h : PH} {k j tc j' k' : Nat} {v : Int64} (hne : k' ≠ k ∨ j' ≠ j) : fvl G (sL h k j v) k' tc j' = fvl G h k' tc j' := by
  have e : hL (sL h k j v) k' j' = hL h k' j' := by
    show up2 (hL h) k j v k' j' = _
    unfold up2
    rw [if_neg (by intro q; rcases hne with z | z; exact z q.1; exact z q.2)]
  unfold fvl
  split
  · rw [e]
  · rfl
  · rfl
theorem fvl_ne_upR {G : GW} {h : PH} {k j tc j' k' : Nat} {v : Nat} (hne : k' ≠ k ∨ j' ≠ j) : fvl G (sR h k j v) k' tc j' = fvl G h k' tc j' := by
  have e : hR (sR h k j v) k' j' = hR h k' j' := by
    show up2 (hR h) k j v k' j' = _
    unfold up2
    rw [if_neg (by intro q; rcases hne with z | z; exact z q.1; exact z q.2)]
  unfold fvl
  split
  · rfl
  · rw [e]
  · rfl
theorem enA_cg {G : GW} {h h' : PH} {k t : Nat} (e1 : hN h' k = hN h k) (e2 : hI h' k = hI h k) (e3 : hL h' k = hL h k) (e4 : hR h' k = hR h k) : enA G h' k t = enA G h k t := by
  unfold enA
  rw [e1, e2, e3, e4]
theorem enO_cg {G : GW} {h h' : PH} {k t : Nat} (e2 : hI h' k = hI h k) (e3 : hL h' k = hL h k) (e4 : hR h' k = hR h k) : enO G h' k t = enO G h k t := by
  unfold enO fvl
  rw [e2, e3, e4]
theorem enT_cg {G : GW} {h h' : PH} {k : Nat} (e0 : h'.1 k = h.1 k) (e2 : hI h' k = hI h k) (e3 : hL h' k = hL h k) (e4 : hR h' k = hR h k) : enT G h' k = enT G h k := by
  unfold enT
  rw [show hT h' k = hT h k by unfold hT; rw [e0], enO_cg e2 e3 e4, enA_cg (by unfold hN; rw [e0]) e2 e3 e4]
theorem up2_ne {α : Type} {f : Nat → Nat → α} {k j k' : Nat} {v : α} (h : k' ≠ k) : up2 f k j v k' = f k' := by
  funext j'
  unfold up2
  rw [if_neg (fun q => h q.1)]
theorem up2_self {α : Type} {f : Nat → Nat → α} {k j : Nat} {v : α} : up2 f k j v k = fun j' => if j' = j then v else f k j' := by
  funext j'
  unfold up2
  by_cases e : j' = j <;> simp [e]
section S9
variable {G : GW} {mi : MI} {mc ms : Nat} {p : Program} {l : Launch} {e : Env} {s : State} {m : MethodId} {args : Array Value} {below : List Frame} {meth : Method} {c : Code} {Q : State → Prop} {pc : Nat} {pl : PL} {h : PH} {ca sl : Nat}
theorem gq_getf (hx : p.tables.exec = Jvm.exec) (hb : c.code = mi.2.1) (hts : ∀ w ∈ tbG, w.before args s = true) (ho : s.vm.findClass mi.1.cls = some m.cls) (hV : VRl G s) {k ea ec index : Nat} {C : String} {T : u_T} {N : Nat} {st : List Value} (hc : v_cl[ec]? = some (C, T, N)) (hlen : (ftl ec).length = N) (h11 : ec < 11) (hea : ea < N) (hTC : (T ea).1 = C) (htag : hT h k = ec) {v : Value} (hv : tv G v = fvl G h k ((ftl ec)[ea]?.getD 0) ea) (hl : (Jvm.Cond.fieldLink mi.1.cls index C (T ea).2.1 (T ea).2.2.1).before args s = true ∨ (Jvm.Cond.fieldLinkNest mi.1.cls index C (T ea).2.1 (T ea).2.2.1 "FieldTower").before args s = true) (hd : decode mi.2.1 pc = .ok (.getfield index, 3)) (kk : GLp G mi mc ms p l e s m args below meth c Q (pc + 3) (pl) (v :: st) (h) (ca) (sl)) : GLp G mi mc ms p l e s m args below meth c Q (pc) (pl) (.ref k :: st) (h) (ca) (sl) := by
  intro H locs ls h1 h2 h3
  obtain ⟨k5, kE⟩ := tag_in h1.1 htag (by omega) (by omega)
  have g := kk H locs ls h1 h2 h3
  rw [List.map_cons, hv] at g
  rw [List.map_cons, tv_ref (by omega)]
  have he := wsH_at (G := G) k5 kE
  rw [enT_o htag (by omega)] at he
  rcases hl with hl | hl
  · exact va_get hx hb hts (cl_ok hc).1 ho hV.1 h1.2.2.2.2 (k - 5) he hc ea hea hl (fun x hx => by rw [hTC] at hx; exact hx) (enO_at (by rw [hlen]; exact hea)) hd g
  · exact va_getN hx hb hts (cl_ok hc).1 ho hV.1 h1.2.2.2.2 (k - 5) he hc ea hea hl (fun x hx => by rw [hTC] at hx; exact hx) (enO_at (by rw [hlen]; exact hea)) hd g
/-- a field is written: the machine's side -/
theorem gq_putW (hx : p.tables.exec = Jvm.exec) (hb : c.code = mi.2.1) (hts : ∀ w ∈ tbG, w.before args s = true) (ho : s.vm.findClass mi.1.cls = some m.cls) (hV : VRl G s) {k ea ec index : Nat} {C : String} {T : u_T} {N : Nat} (hc : v_cl[ec]? = some (C, T, N)) (hlen : (ftl ec).length = N) (h11 : ec < 11) (hea : ea < N) (hTC : (T ea).1 = C) (htag : hT h k = ec) {H : Heap} {locs : List Loc} {ls : Array Slot} {v : Value} {rest : List Value} (h1 : HRl G h H) (h2 : va_S (AA G) s.heap H locs) {ty : FieldType} (hdc : parseFieldDescriptor (T ea).2.2.1 = some ty) (hn : narrow ty v = v) (hfit : fits ty v = true)
    (hl : (Jvm.Cond.fieldLink mi.1.cls index C (T ea).2.1 (T ea).2.2.1).before args s = true) (hfin : (T ea).2.2.2 = false ∨ ((T ea).2.2.2 = true ∧ meth.name = "<init>" ∧ C = mi.1.cls)) (hd : decode mi.2.1 pc = .ok (.putfield index, 3))
    (kk : ∀ (H1 : Heap) (locs1 : List Loc), va_at G.1 v_cl (ad G k, .inr (ec, ((List.range (ftl ec).length).map (fun j => fvl G h k ((ftl ec)[j]?.getD 0) j)).set ea v)) H1 → H1.size = H.size → (∀ q : Nat, q ≠ ad G k → H1[q]? = H[q]?) → va_S (AA G) s.heap H1 locs1 → W p l e (rmU mi mc ms) s m args below meth c H1 locs1 ca sl Q (F0 m (pc + 3) ls rest)) :
    W p l e (rmU mi mc ms) s m args below meth c H locs ca sl Q (F0 m pc ls (v :: .ref (ad G k) :: rest)) := by
  obtain ⟨k5, kE⟩ := tag_in h1.1 htag (by omega) (by omega)
  have he := wsH_at (G := G) k5 kE
  rw [enT_o htag (by omega)] at he
  obtain ⟨hin, ty0, hty, hnm⟩ := cl_ok hc
  have hsame : ∀ x, s.fieldFound? (T ea).1 (T ea).2.1 (T ea).2.2.1 = some x → s.fieldFound? C (T ea).2.1 (T ea).2.2.1 = some x := fun x hx => by rw [hTC] at hx; exact hx
  have hP := h1.2.2.2.2
  have hK := hV.1
  have hap := va_apart (own := mi.1.cls) hts hin ty0 hty hnm hK hc
  obtain ⟨r, g1, cell, q1, q2, q3, q4⟩ := hP (k - 5) _ he
  have hr : r = (C, T, N) := Option.some.inj (g1.symm.trans hc)
  subst hr
  obtain ⟨hS, hfc, kC, hkC, hkind⟩ := hK.1 ec _ hc
  obtain ⟨cf, kf, fi, f, hi, hsl⟩ := hS ea hea
  have hlay := hts _ (hin _ (u_in_lay hea))
  have hst := (u_facts hfc hkC (u_lays hts hin hea) hi).1
  have hll : ea < ((List.range (ftl ec).length).map (fun j => fvl G h k ((ftl ec)[j]?.getD 0) j)).length := by simp [hlen]; exact hea
  have done : ∀ (H' : Heap), H'[ad G k]? = some (cell.setSlot f.slot v) → H'.size = H.size → (∀ q : Nat, q ≠ ad G k → H'[q]? = H[q]?) → W p l e (rmU mi mc ms) s m args below meth c H' (locs ++ [⟨ad G k, f.slot⟩]) ca sl Q (F0 m (pc + 3) ls rest) := fun H' e1 e2 e3 => by
    rw [hsl] at e1
    exact kk H' _ ⟨_, hc, t_OB.to (V := updV (vp_V _) ea v) ⟨_, e1, q2, q3, t_set q4 hap hea v⟩ (fun j _ => vp_updV_set hll v j)⟩ e2 e3 (va_S_of h2 e2 e3 (ad_AA k5))
  unfold u_lay at hlay
  rcases hfin with hfin | ⟨hfin, hin2, hdecl⟩
  · rw [if_neg (by rw [hfin]; decide)] at hlay
    have h6 := u_store hfc hkC hkind hlay hi hdc hn hfit
    exact W.putK hx hb (f := f) ⟨ho, hl, ⟨_, _, _, hsame _ hi⟩, hst⟩ (by rw [q2]; exact h6) q1 q3 (by rw [hsl]; exact k2_hasslot (q4 ea hea)) rfl rfl hd done
  · rw [if_pos hfin] at hlay
    have hcf : m.cls = cf := by
      obtain ⟨_, _, c', _, _, _, -, -, hf', -, -, -, hown2, -⟩ := Cond.laysFinal_spec hlay
      have e1 : c' = cf := by have := hi.symm.trans hf'; simp at this; exact this.1.symm
      rw [hTC, hdecl] at hown2
      rw [← e1]; exact Option.some.inj (ho.symm.trans hown2)
    have h6 := u_fits hfc hkC hkind (Or.inr hlay) hi hdc hn hfit
    exact W.putFinK hx hb ho hl (hsame _ hi) hst hcf hin2 (by rw [q2]; exact h6) q1 q3 (by rw [hsl]; exact k2_hasslot (q4 ea hea)) rfl rfl hd done
theorem gq_putI (hx : p.tables.exec = Jvm.exec) (hb : c.code = mi.2.1) (hts : ∀ w ∈ tbG, w.before args s = true) (ho : s.vm.findClass mi.1.cls = some m.cls) (hV : VRl G s) {k ea ec index : Nat} {C : String} {T : u_T} {N : Nat} {st : List Value} (hc : v_cl[ec]? = some (C, T, N)) (hlen : (ftl ec).length = N) (h11 : ec < 11) (hea : ea < N) (hTC : (T ea).1 = C) (htag : hT h k = ec) {v : Int32} (hcode : (ftl ec)[ea]? = some 0) (hdc : parseFieldDescriptor (T ea).2.2.1 = some .int) (hl : (Jvm.Cond.fieldLink mi.1.cls index C (T ea).2.1 (T ea).2.2.1).before args s = true) (hfin : (T ea).2.2.2 = false ∨ ((T ea).2.2.2 = true ∧ meth.name = "<init>" ∧ C = mi.1.cls)) (hd : decode mi.2.1 pc = .ok (.putfield index, 3)) (kk : GLp G mi mc ms p l e s m args below meth c Q (pc + 3) (pl) (st) (sI h k ea v) (ca) (sl)) : GLp G mi mc ms p l e s m args below meth c Q (pc) (pl) (.int v :: .ref k :: st) (h) (ca) (sl) := by
  intro H locs ls h1 h2 h3
  obtain ⟨k5, kE⟩ := tag_in h1.1 htag (by omega) (by omega)
  rw [List.map_cons, List.map_cons, tv_ref (by omega)]
  refine gq_putW (v := .int v) hx hb hts ho hV hc hlen h11 hea hTC htag h1 h2 hdc (rfl) (rfl) hl hfin hd (fun H1 locs1 hat z oq hS => ?_)
  refine kk H1 locs1 ls (HRl.upd (h' := sI h k ea v) h1 k5 kE rfl rfl ?_ ?_ ?_ z oq) hS h3
  · intro j hj
    exact up2_ne (by omega)
  · intro j hj hjk
    exact enT_cg rfl (up2_ne hjk) rfl rfl
  · rw [enT_o (G := G) (h := sI h k ea v) (k := k) (c := ec) htag (by omega)]
    have e9 : enO G (sI h k ea v) k ec = .inr (ec, ((List.range (ftl ec).length).map (fun j => fvl G h k ((ftl ec)[j]?.getD 0) j)).set ea (.int v)) := by
      unfold enO
      congr 2
      apply List.ext_getElem?
      intro i
      by_cases hi : i < (ftl ec).length
      · rw [enO_at hi]
        by_cases hie : i = ea
        · subst hie
          rw [List.getElem?_set_self (by simp; exact hi), hcode]
          show some (Value.int (up2 _ k i v k i)) = _
          unfold up2
          rw [if_pos ⟨rfl, rfl⟩]
        · rw [List.getElem?_set_ne (Ne.symm hie), enO_at hi, fvl_ne_up (Or.inr hie)]
      · rw [List.getElem?_eq_none (by simp; omega), List.getElem?_eq_none (by simp; omega)]
    rw [e9]
    exact hat
theorem gq_putZ (hx : p.tables.exec = Jvm.exec) (hb : c.code = mi.2.1) (hts : ∀ w ∈ tbG, w.before args s = true) (ho : s.vm.findClass mi.1.cls = some m.cls) (hV : VRl G s) {k ea ec index : Nat} {C : String} {T : u_T} {N : Nat} {st : List Value} (hc : v_cl[ec]? = some (C, T, N)) (hlen : (ftl ec).length = N) (h11 : ec < 11) (hea : ea < N) (hTC : (T ea).1 = C) (htag : hT h k = ec) {v : Int32} (hz : v = 0 ∨ v = 1) (hcode : (ftl ec)[ea]? = some 3) (hdc : parseFieldDescriptor (T ea).2.2.1 = some .boolean) (hl : (Jvm.Cond.fieldLink mi.1.cls index C (T ea).2.1 (T ea).2.2.1).before args s = true) (hfin : (T ea).2.2.2 = false ∨ ((T ea).2.2.2 = true ∧ meth.name = "<init>" ∧ C = mi.1.cls)) (hd : decode mi.2.1 pc = .ok (.putfield index, 3)) (kk : GLp G mi mc ms p l e s m args below meth c Q (pc + 3) (pl) (st) (sI h k ea v) (ca) (sl)) : GLp G mi mc ms p l e s m args below meth c Q (pc) (pl) (.int v :: .ref k :: st) (h) (ca) (sl) := by
  intro H locs ls h1 h2 h3
  obtain ⟨k5, kE⟩ := tag_in h1.1 htag (by omega) (by omega)
  rw [List.map_cons, List.map_cons, tv_ref (by omega)]
  refine gq_putW (v := .int v) hx hb hts ho hV hc hlen h11 hea hTC htag h1 h2 hdc (by rcases hz with rfl | rfl <;> rfl) (by rcases hz with rfl | rfl <;> rfl) hl hfin hd (fun H1 locs1 hat z oq hS => ?_)
  refine kk H1 locs1 ls (HRl.upd (h' := sI h k ea v) h1 k5 kE rfl rfl ?_ ?_ ?_ z oq) hS h3
  · intro j hj
    exact up2_ne (by omega)
  · intro j hj hjk
    exact enT_cg rfl (up2_ne hjk) rfl rfl
  · rw [enT_o (G := G) (h := sI h k ea v) (k := k) (c := ec) htag (by omega)]
    have e9 : enO G (sI h k ea v) k ec = .inr (ec, ((List.range (ftl ec).length).map (fun j => fvl G h k ((ftl ec)[j]?.getD 0) j)).set ea (.int v)) := by
      unfold enO
      congr 2
      apply List.ext_getElem?
      intro i
      by_cases hi : i < (ftl ec).length
      · rw [enO_at hi]
        by_cases hie : i = ea
        · subst hie
          rw [List.getElem?_set_self (by simp; exact hi), hcode]
          show some (Value.int (up2 _ k i v k i)) = _
          unfold up2
          rw [if_pos ⟨rfl, rfl⟩]
        · rw [List.getElem?_set_ne (Ne.symm hie), enO_at hi, fvl_ne_up (Or.inr hie)]
      · rw [List.getElem?_eq_none (by simp; omega), List.getElem?_eq_none (by simp; omega)]
    rw [e9]
    exact hat
theorem gq_putL (hx : p.tables.exec = Jvm.exec) (hb : c.code = mi.2.1) (hts : ∀ w ∈ tbG, w.before args s = true) (ho : s.vm.findClass mi.1.cls = some m.cls) (hV : VRl G s) {k ea ec index : Nat} {C : String} {T : u_T} {N : Nat} {st : List Value} (hc : v_cl[ec]? = some (C, T, N)) (hlen : (ftl ec).length = N) (h11 : ec < 11) (hea : ea < N) (hTC : (T ea).1 = C) (htag : hT h k = ec) {v : Int64} (hcode : (ftl ec)[ea]? = some 1) (hdc : parseFieldDescriptor (T ea).2.2.1 = some .long) (hl : (Jvm.Cond.fieldLink mi.1.cls index C (T ea).2.1 (T ea).2.2.1).before args s = true) (hfin : (T ea).2.2.2 = false ∨ ((T ea).2.2.2 = true ∧ meth.name = "<init>" ∧ C = mi.1.cls)) (hd : decode mi.2.1 pc = .ok (.putfield index, 3)) (kk : GLp G mi mc ms p l e s m args below meth c Q (pc + 3) (pl) (st) (sL h k ea v) (ca) (sl)) : GLp G mi mc ms p l e s m args below meth c Q (pc) (pl) (.long v :: .ref k :: st) (h) (ca) (sl) := by
  intro H locs ls h1 h2 h3
  obtain ⟨k5, kE⟩ := tag_in h1.1 htag (by omega) (by omega)
  rw [List.map_cons, List.map_cons, tv_ref (by omega)]
  refine gq_putW (v := .long v) hx hb hts ho hV hc hlen h11 hea hTC htag h1 h2 hdc (rfl) (rfl) hl hfin hd (fun H1 locs1 hat z oq hS => ?_)
  refine kk H1 locs1 ls (HRl.upd (h' := sL h k ea v) h1 k5 kE rfl rfl ?_ ?_ ?_ z oq) hS h3
  · intro j hj
    rfl
  · intro j hj hjk
    exact enT_cg rfl rfl (up2_ne hjk) rfl
  · rw [enT_o (G := G) (h := sL h k ea v) (k := k) (c := ec) htag (by omega)]
    have e9 : enO G (sL h k ea v) k ec = .inr (ec, ((List.range (ftl ec).length).map (fun j => fvl G h k ((ftl ec)[j]?.getD 0) j)).set ea (.long v)) := by
      unfold enO
      congr 2
      apply List.ext_getElem?
      intro i
      by_cases hi : i < (ftl ec).length
      · rw [enO_at hi]
        by_cases hie : i = ea
        · subst hie
          rw [List.getElem?_set_self (by simp; exact hi), hcode]
          show some (Value.long (up2 _ k i v k i)) = _
          unfold up2
          rw [if_pos ⟨rfl, rfl⟩]
        · rw [List.getElem?_set_ne (Ne.symm hie), enO_at hi, fvl_ne_upL (Or.inr hie)]
      · rw [List.getElem?_eq_none (by simp; omega), List.getElem?_eq_none (by simp; omega)]
    rw [e9]
    exact hat
theorem gq_putR (hx : p.tables.exec = Jvm.exec) (hb : c.code = mi.2.1) (hts : ∀ w ∈ tbG, w.before args s = true) (ho : s.vm.findClass mi.1.cls = some m.cls) (hV : VRl G s) {k ea ec index : Nat} {C : String} {T : u_T} {N : Nat} {st : List Value} (hc : v_cl[ec]? = some (C, T, N)) (hlen : (ftl ec).length = N) (h11 : ec < 11) (hea : ea < N) (hTC : (T ea).1 = C) (htag : hT h k = ec) {v : Nat} {ty : FieldType} (hcode : (ftl ec)[ea]? = some 2) (hdc : parseFieldDescriptor (T ea).2.2.1 = some ty) (hty : (∃ n, ty = .object n) ∨ ∃ t, ty = .array t) (hl : (Jvm.Cond.fieldLink mi.1.cls index C (T ea).2.1 (T ea).2.2.1).before args s = true) (hfin : (T ea).2.2.2 = false ∨ ((T ea).2.2.2 = true ∧ meth.name = "<init>" ∧ C = mi.1.cls)) (hd : decode mi.2.1 pc = .ok (.putfield index, 3)) (kk : GLp G mi mc ms p l e s m args below meth c Q (pc + 3) (pl) (st) (sR h k ea v) (ca) (sl)) : GLp G mi mc ms p l e s m args below meth c Q (pc) (pl) (.ref v :: .ref k :: st) (h) (ca) (sl) := by
  intro H locs ls h1 h2 h3
  obtain ⟨k5, kE⟩ := tag_in h1.1 htag (by omega) (by omega)
  rw [List.map_cons, List.map_cons, tv_ref (k := k) (by omega)]
  refine gq_putW (v := tv G (.ref v)) hx hb hts ho hV hc hlen h11 hea hTC htag h1 h2 hdc ?_ ?_ hl hfin hd (fun H1 locs1 hat z oq hS => ?_)
  · show narrow ty (va_rf (rfq G v)) = va_rf (rfq G v)
    unfold rfq
    rcases hty with ⟨n, rfl⟩ | ⟨t, rfl⟩ <;> split <;> rfl
  · show fits ty (va_rf (rfq G v)) = true
    unfold rfq
    rcases hty with ⟨n, rfl⟩ | ⟨t, rfl⟩ <;> split <;> rfl
  refine kk H1 locs1 ls (HRl.upd (h' := sR h k ea v) h1 k5 kE rfl rfl ?_ ?_ ?_ z oq) hS h3
  · intro j hj
    rfl
  · intro j hj hjk
    exact enT_cg rfl rfl rfl (up2_ne hjk)
  · rw [enT_o (G := G) (h := sR h k ea v) (k := k) (c := ec) htag (by omega)]
    have e9 : enO G (sR h k ea v) k ec = .inr (ec, ((List.range (ftl ec).length).map (fun j => fvl G h k ((ftl ec)[j]?.getD 0) j)).set ea (tv G (.ref v))) := by
      unfold enO
      congr 2
      apply List.ext_getElem?
      intro i
      by_cases hi : i < (ftl ec).length
      · rw [enO_at hi]
        by_cases hie : i = ea
        · subst hie
          rw [List.getElem?_set_self (by simp; exact hi), hcode]
          show some (va_rf (rfq G (up2 _ k i v k i))) = _
          unfold up2
          rw [if_pos ⟨rfl, rfl⟩]
          rfl
        · rw [List.getElem?_set_ne (Ne.symm hie), enO_at hi, fvl_ne_upR (Or.inr hie)]
      · rw [List.getElem?_eq_none (by simp; omega), List.getElem?_eq_none (by simp; omega)]
    rw [e9]
    exact hat
end S9
end
section
/-! SOUNDNESS: arrays -/
theorem inB_in {h : PH} {k t : Nat} {i : Int32} (hi : inB h k t i) : vp_in i (hN h k) := vq_in hi.2.1 hi.2.2
section S10
variable {G : GW} {mi : MI} {mc ms : Nat} {p : Program} {l : Launch} {e : Env} {s : State} {m : MethodId} {args : Array Value} {below : List Frame} {meth : Method} {c : Code} {Q : State → Prop} {pc : Nat} {pl : PL} {h : PH} {ca sl : Nat}
theorem ext_T (hV : VRl G s) (hB : G.2.2.2.1.size ≤ s.heap.size) (hB2 : ∀ q, q < G.2.2.2.1.size → s.heap[q]? = G.2.2.2.1[q]?) {k : Nat} (h1 : 1 ≤ k) (h5 : k < 5) : va_T .int (G.2.2.1 k) (G.2.2.2.2 k).1 (fun j => .int ((G.2.2.2.2 k).2 j)) (AA G) s s.heap :=
  (hV.2.1 k h1 h5).kept (fun a ha _ => hB2 a ha)
theorem gq_iald (hx : p.tables.exec = Jvm.exec) (hb : c.code = mi.2.1) (hV : VRl G s) (hB : G.2.2.2.1.size ≤ s.heap.size) (hB2 : ∀ q, q < G.2.2.2.1.size → s.heap[q]? = G.2.2.2.1[q]?) {k : Nat} {i : Int32} {st : List Value} (hi : inB h k 20 i) (hd : decode mi.2.1 pc = .ok (.iaload, 1)) (kk : GLp G mi mc ms p l e s m args below meth c Q (pc + 1) (pl) (.int (hI h k i.toNatClampNeg) :: st) (h) (ca) (sl)) : GLp G mi mc ms p l e s m args below meth c Q (pc) (pl) (.int i :: .ref k :: st) (h) (ca) (sl) := by
  intro H locs ls h1 h2 h3
  obtain ⟨k1, kE⟩ := tag_in20 h1.1 hi.1
  have g := kk H locs ls h1 h2 h3
  rw [List.map_cons, List.map_cons, tv_ref k1]
  by_cases h5 : k < 5
  · obtain ⟨e1, e2⟩ := h1.2.1 k k1 h5
    rw [ad_lt h5]
    exact va_ti hx hb (ext_T hV hB hB2 k1 h5) h2 (by rw [← e1]; exact inB_in hi) (by rw [← e2]; rfl) hd g
  · have he := wsH_at (G := G) (by omega) kE
    rw [enT_a hi.1 (by omega)] at he
    exact va_iald hx hb hV.1 h1.2.2.2.2 (k - 5) 0 he rfl (inB_in hi) hd g
theorem gq_bald (hx : p.tables.exec = Jvm.exec) (hb : c.code = mi.2.1) (hV : VRl G s) {k : Nat} {i : Int32} {st : List Value} (hi : inB h k 21 i ∨ inB h k 22 i) (hd : decode mi.2.1 pc = .ok (.baload, 1)) (kk : GLp G mi mc ms p l e s m args below meth c Q (pc + 1) (pl) (.int (hI h k i.toNatClampNeg) :: st) (h) (ca) (sl)) : GLp G mi mc ms p l e s m args below meth c Q (pc) (pl) (.int i :: .ref k :: st) (h) (ca) (sl) := by
  intro H locs ls h1 h2 h3
  have g := kk H locs ls h1 h2 h3
  rcases hi with hi | hi
  · obtain ⟨k5, kE⟩ := tag_in h1.1 hi.1 (by omega) (by omega)
    rw [List.map_cons, List.map_cons, tv_ref (by omega)]
    have he := wsH_at (G := G) k5 kE
    rw [enT_a hi.1 (by omega)] at he
    exact va_bald hx hb hV.1 h1.2.2.2.2 (k - 5) 1 he rfl (inB_in hi) hd g
  · obtain ⟨k5, kE⟩ := tag_in h1.1 hi.1 (by omega) (by omega)
    rw [List.map_cons, List.map_cons, tv_ref (by omega)]
    have he := wsH_at (G := G) k5 kE
    rw [enT_a hi.1 (by omega)] at he
    exact va_zald hx hb hV.1 h1.2.2.2.2 (k - 5) 2 he rfl (inB_in hi) hd g
theorem gq_lald (hx : p.tables.exec = Jvm.exec) (hb : c.code = mi.2.1) (hV : VRl G s) {k : Nat} {i : Int32} {st : List Value} (hi : inB h k 23 i) (hd : decode mi.2.1 pc = .ok (.laload, 1)) (kk : GLp G mi mc ms p l e s m args below meth c Q (pc + 1) (pl) (.long (hL h k i.toNatClampNeg) :: st) (h) (ca) (sl)) : GLp G mi mc ms p l e s m args below meth c Q (pc) (pl) (.int i :: .ref k :: st) (h) (ca) (sl) := by
  intro H locs ls h1 h2 h3
  have g := kk H locs ls h1 h2 h3
  obtain ⟨k5, kE⟩ := tag_in h1.1 hi.1 (by omega) (by omega)
  rw [List.map_cons, List.map_cons, tv_ref (by omega)]
  have he := wsH_at (G := G) k5 kE
  rw [enT_a hi.1 (by omega)] at he
  exact va_lald hx hb hV.1 h1.2.2.2.2 (k - 5) 3 he rfl (inB_in hi) hd g
theorem gq_aald (hx : p.tables.exec = Jvm.exec) (hb : c.code = mi.2.1) (hV : VRl G s) {k : Nat} {i : Int32} {st : List Value} (hi : inB h k 24 i ∨ inB h k 25 i ∨ inB h k 26 i ∨ inB h k 27 i) (hd : decode mi.2.1 pc = .ok (.aaload, 1)) (kk : GLp G mi mc ms p l e s m args below meth c Q (pc + 1) (pl) (.ref (hR h k i.toNatClampNeg) :: st) (h) (ca) (sl)) : GLp G mi mc ms p l e s m args below meth c Q (pc) (pl) (.int i :: .ref k :: st) (h) (ca) (sl) := by
  intro H locs ls h1 h2 h3
  have g := kk H locs ls h1 h2 h3
  have gen : ∀ t : Nat, 24 ≤ t → t ≤ 27 → inB h k t i → (∃ ty, (tyL G)[t - 20]? = some (G.2.1 t, ty) ∧ ((∃ n, ty = .object n) ∨ ∃ u, ty = .array u)) → W p l e (rmU mi mc ms) s m args below meth c H locs ca sl Q (F0 m pc ls (List.map (tv G) (.int i :: .ref k :: st))) := by
    rintro t t1 t2 hi ⟨ty, hty, hk⟩
    obtain ⟨k5, kE⟩ := tag_in h1.1 hi.1 (by omega) (by omega)
    rw [List.map_cons, List.map_cons, tv_ref (by omega)]
    have he := wsH_at (G := G) k5 kE
    rw [enT_a hi.1 (by omega)] at he
    have e9 : enA G h k t = .inl (G.2.1 t, hN h k, .inr (.inr (.inr (.inr (fun j => rfq G (hR h k j)))))) := by
      unfold enA
      rw [if_neg (by omega), if_pos t1]
    rw [e9] at he
    have hlt : i.toNatClampNeg < hN h k := hi.2.2
    have hin := inB_in hi
    exact W.aald (v := va_rf (rfq G (hR h k i.toNatClampNeg))) (ty := ty) hx hb (h1.2.2.2.2 (k - 5) _ he) ((hV.1.2 (t - 20) _ hty).1 (hN h k) (fun j => va_rf (rfq G (hR h k j)))) (by rcases hk with ⟨n, rfl⟩ | ⟨u, rfl⟩ <;> rfl) (fun q => by cases q) (by show ¬ (i < 0 ∨ (arrV _ _ _).slots.size ≤ _); rw [arrV_size]; exact hin) (by show (arrV _ _ _).slots[_]? = _; rw [arrV_read _ _ hlt]) rfl rfl hd g
  rcases hi with hi | hi | hi | hi
  · exact gen 24 (by omega) (by omega) hi ⟨_, rfl, Or.inl ⟨_, rfl⟩⟩
  · exact gen 25 (by omega) (by omega) hi ⟨_, rfl, Or.inl ⟨_, rfl⟩⟩
  · exact gen 26 (by omega) (by omega) hi ⟨_, rfl, Or.inl ⟨_, rfl⟩⟩
  · exact gen 27 (by omega) (by omega) hi ⟨_, rfl, Or.inr ⟨_, rfl⟩⟩
theorem gq_alen (hx : p.tables.exec = Jvm.exec) (hb : c.code = mi.2.1) (hV : VRl G s) (hB : G.2.2.2.1.size ≤ s.heap.size) (hB2 : ∀ q, q < G.2.2.2.1.size → s.heap[q]? = G.2.2.2.1[q]?) {k : Nat} {st : List Value} (hk : 20 ≤ hT h k ∧ hT h k ≤ 27) (hd : decode mi.2.1 pc = .ok (.arraylength, 1)) (kk : GLp G mi mc ms p l e s m args below meth c Q (pc + 1) (pl) (.int (Int32.ofNat (hN h k)) :: st) (h) (ca) (sl)) : GLp G mi mc ms p l e s m args below meth c Q (pc) (pl) (.ref k :: st) (h) (ca) (sl) := by
  intro H locs ls h1 h2 h3
  have g := kk H locs ls h1 h2 h3
  by_cases h20 : hT h k = 20 ∧ k < 5
  · obtain ⟨k1, kE⟩ := tag_in20 h1.1 h20.1
    obtain ⟨e1, e2⟩ := h1.2.1 k k1 h20.2
    rw [List.map_cons, tv_ref k1, ad_lt h20.2]
    exact va_tlen hx hb (ext_T hV hB hB2 k1 h20.2) h2 (by rw [← e1]) hd g
  · have k5 : 5 ≤ k ∧ k < hE h := by
      by_cases e : hT h k = 20
      · obtain ⟨k1, kE⟩ := tag_in20 h1.1 e
        exact ⟨by rcases Nat.lt_or_ge k 5 with q | q; exact absurd ⟨e, q⟩ h20; exact q, kE⟩
      · exact tag_in h1.1 rfl (by omega) e
    rw [List.map_cons, tv_ref (by omega)]
    have he := wsH_at (G := G) k5.1 k5.2
    rw [enT_a rfl hk.1] at he
    have hty : ∃ ty, (tyL G)[hT h k - 20]? = some (G.2.1 (hT h k), ty) := by
      obtain ⟨a1, a2⟩ := hk
      generalize hT h k = t at a1 a2
      rcases (show t = 20 ∨ t = 21 ∨ t = 22 ∨ t = 23 ∨ t = 24 ∨ t = 25 ∨ t = 26 ∨ t = 27 by omega) with rfl | rfl | rfl | rfl | rfl | rfl | rfl | rfl <;> exact ⟨_, rfl⟩
    obtain ⟨ty, hty⟩ := hty
    exact va_alen hx hb hV.1 h1.2.2.2.2 (k - 5) (hT h k - 20) he hty rfl hd g
theorem gq_iast (hx : p.tables.exec = Jvm.exec) (hb : c.code = mi.2.1) (hV : VRl G s) {k : Nat} {i : Int32} {x : Int32} {st : List Value} (k5 : 5 ≤ k) (hi : inB h k 20 i) (hd : decode mi.2.1 pc = .ok (.iastore, 1)) (kk : GLp G mi mc ms p l e s m args below meth c Q (pc + 1) (pl) (st) (sI h k i.toNatClampNeg x) (ca) (sl)) : GLp G mi mc ms p l e s m args below meth c Q (pc) (pl) (.int x :: .int i :: .ref k :: st) (h) (ca) (sl) := by
  intro H locs ls h1 h2 h3
  have kE : k < hE h := (tag_in20 h1.1 hi.1).2
  rw [List.map_cons, List.map_cons, List.map_cons, tv_ref (by omega)]
  have he := wsH_at (G := G) k5 kE
  rw [enT_a hi.1 (by omega)] at he
  have hin := inB_in hi
  have hP := h1.2.2.2.2
  refine W.iast hx hb (hP (k - 5) _ he) ((hV.1.2 0 _ rfl).1 (hN h k) (fun j => .int (hI h k j))) (fun q => by cases q) (by show ¬ (i < 0 ∨ (arrV _ _ _).slots.size ≤ _); rw [arrV_size]; exact hin) rfl rfl hd fun H1 e1 z oq => ?_
  refine kk H1 _ ls (HRl.upd (h' := sI h k i.toNatClampNeg x) h1 k5 kE rfl rfl (fun j hj => up2_ne (by omega)) (fun j hj hjk => enT_cg rfl (up2_ne hjk) rfl rfl) ?_ z oq) (va_S_of h2 z oq (ad_AA k5)) h3
  rw [enT_a (G := G) (h := sI h k i.toNatClampNeg x) (k := k) (t := 20) hi.1 (by omega)]
  show H1[ad G k]? = some (vp_cell (G.2.1 20) (hN h k, .inl (up2 (hI h) k i.toNatClampNeg x k)))
  rw [e1, up2_self]
  show some ((vp_cell (G.2.1 20) (hN h k, .inl (hI h k))).setSlot _ _) = _
  rw [vp_cell_i, vp_cell_i, arrV_store]
  congr 2
  funext q
  by_cases hq : q = i.toNatClampNeg
  · subst hq
    simp [updV]
  · simp [updV, hq]
theorem gq_last (hx : p.tables.exec = Jvm.exec) (hb : c.code = mi.2.1) (hV : VRl G s) {k : Nat} {i : Int32} {x : Int64} {st : List Value} (hi : inB h k 23 i) (hd : decode mi.2.1 pc = .ok (.lastore, 1)) (kk : GLp G mi mc ms p l e s m args below meth c Q (pc + 1) (pl) (st) (sL h k i.toNatClampNeg x) (ca) (sl)) : GLp G mi mc ms p l e s m args below meth c Q (pc) (pl) (.long x :: .int i :: .ref k :: st) (h) (ca) (sl) := by
  intro H locs ls h1 h2 h3
  obtain ⟨k5, kE⟩ := tag_in h1.1 hi.1 (by omega) (by omega)
  rw [List.map_cons, List.map_cons, List.map_cons, tv_ref (by omega)]
  have he := wsH_at (G := G) k5 kE
  rw [enT_a hi.1 (by omega)] at he
  have hin := inB_in hi
  have hP := h1.2.2.2.2
  refine W.last hx hb (hP (k - 5) _ he) ((hV.1.2 3 _ rfl).1 (hN h k) (fun j => .long (hL h k j))) (fun q => by cases q) (by show ¬ (i < 0 ∨ (arrV _ _ _).slots.size ≤ _); rw [arrV_size]; exact hin) rfl rfl hd fun H1 e1 z oq => ?_
  refine kk H1 _ ls (HRl.upd (h' := sL h k i.toNatClampNeg x) h1 k5 kE rfl rfl (fun j hj => rfl) (fun j hj hjk => enT_cg rfl rfl (up2_ne hjk) rfl) ?_ z oq) (va_S_of h2 z oq (ad_AA k5)) h3
  rw [enT_a (G := G) (h := sL h k i.toNatClampNeg x) (k := k) (t := 23) hi.1 (by omega)]
  show H1[ad G k]? = some (vp_cell (G.2.1 23) (hN h k, .inr (.inl (up2 (hL h) k i.toNatClampNeg x k))))
  rw [e1, up2_self]
  show some ((vp_cell (G.2.1 23) (hN h k, .inr (.inl (hL h k)))).setSlot _ _) = _
  rw [vp_cell_l, vp_cell_l, arrV_store]
  congr 2
  funext q
  by_cases hq : q = i.toNatClampNeg
  · subst hq
    simp [updV]
  · simp [updV, hq]
theorem gq_bast (hx : p.tables.exec = Jvm.exec) (hb : c.code = mi.2.1) (hV : VRl G s) {k : Nat} {i : Int32} {x : Int32} {st : List Value} (hi : inB h k 21 i ∨ inB h k 22 i) (hd : decode mi.2.1 pc = .ok (.bastore, 1)) (kk : GLp G mi mc ms p l e s m args below meth c Q (pc + 1) (pl) (st) (sI h k i.toNatClampNeg (nrB (hT h k) x)) (ca) (sl)) : GLp G mi mc ms p l e s m args below meth c Q (pc) (pl) (.int x :: .int i :: .ref k :: st) (h) (ca) (sl) := by
  intro H locs ls h1 h2 h3
  rcases hi with hi | hi
  · obtain ⟨k5, kE⟩ := tag_in h1.1 hi.1 (by omega) (by omega)
    rw [List.map_cons, List.map_cons, List.map_cons, tv_ref (by omega)]
    have he := wsH_at (G := G) k5 kE
    rw [enT_a hi.1 (by omega)] at he
    have hin := inB_in hi
    have hP := h1.2.2.2.2
    refine W.bast hx hb (hP (k - 5) _ he) ((hV.1.2 1 _ rfl).1 (hN h k) (fun j => .int (hI h k j))) (fun q => by cases q) (by show ¬ (i < 0 ∨ (arrV _ _ _).slots.size ≤ _); rw [arrV_size]; exact hin) rfl rfl hd fun H1 e1 z oq => ?_
    refine kk H1 _ ls (HRl.upd (h' := sI h k i.toNatClampNeg (nrB (hT h k) x)) h1 k5 kE rfl rfl (fun j hj => up2_ne (by omega)) (fun j hj hjk => enT_cg rfl (up2_ne hjk) rfl rfl) ?_ z oq) (va_S_of h2 z oq (ad_AA k5)) h3
    rw [enT_a (G := G) (h := sI h k i.toNatClampNeg (nrB (hT h k) x)) (k := k) (t := 21) hi.1 (by omega), hi.1]
    show H1[ad G k]? = some (vp_cell (G.2.1 21) (hN h k, .inl (up2 (hI h) k i.toNatClampNeg (nrB 21 x) k)))
    rw [e1, up2_self]
    show some ((vp_cell (G.2.1 21) (hN h k, .inl (hI h k))).setSlot _ _) = _
    rw [vp_cell_i, vp_cell_i, arrV_store]
    congr 2
    funext q
    by_cases hq : q = i.toNatClampNeg
    · subst hq
      simp [updV, nrB]
      try rfl
    · simp [updV, hq]
  · obtain ⟨k5, kE⟩ := tag_in h1.1 hi.1 (by omega) (by omega)
    rw [List.map_cons, List.map_cons, List.map_cons, tv_ref (by omega)]
    have he := wsH_at (G := G) k5 kE
    rw [enT_a hi.1 (by omega)] at he
    have hin := inB_in hi
    have hP := h1.2.2.2.2
    refine W.zast hx hb (hP (k - 5) _ he) ((hV.1.2 2 _ rfl).1 (hN h k) (fun j => .int (hI h k j))) (fun q => by cases q) (by show ¬ (i < 0 ∨ (arrV _ _ _).slots.size ≤ _); rw [arrV_size]; exact hin) rfl rfl hd fun H1 e1 z oq => ?_
    refine kk H1 _ ls (HRl.upd (h' := sI h k i.toNatClampNeg (nrB (hT h k) x)) h1 k5 kE rfl rfl (fun j hj => up2_ne (by omega)) (fun j hj hjk => enT_cg rfl (up2_ne hjk) rfl rfl) ?_ z oq) (va_S_of h2 z oq (ad_AA k5)) h3
    rw [enT_a (G := G) (h := sI h k i.toNatClampNeg (nrB (hT h k) x)) (k := k) (t := 22) hi.1 (by omega), hi.1]
    show H1[ad G k]? = some (vp_cell (G.2.1 22) (hN h k, .inl (up2 (hI h) k i.toNatClampNeg (nrB 22 x) k)))
    rw [e1, up2_self]
    show some ((vp_cell (G.2.1 22) (hN h k, .inl (hI h k))).setSlot _ _) = _
    rw [vp_cell_i, vp_cell_i, arrV_store]
    congr 2
    funext q
    by_cases hq : q = i.toNatClampNeg
    · subst hq
      simp [updV, nrB]
      try rfl
    · simp [updV, hq]
end S10
end
section
/-! SOUNDNESS: what is made, statics, arraycopy -/
def dvl (tc : Nat) : Value := match tc with
  | 1 => .long 0
  | 2 => .null
  | _ => .int 0
theorem dv_0 : ∀ j, j < 6 → defaultValue (ft_0 j) = dvl ((ftl 0)[j]?.getD 0) := by decide +kernel
theorem ini_0 : Jvm.Cond.initialized r_0 ∈ tbG ∧ Jvm.Cond.instantiable r_0 6 ∈ tbG := by
  refine ⟨List.mem_filter.mpr ⟨?_, rfl⟩, List.mem_filter.mpr ⟨?_, rfl⟩⟩
  · exact List.mem_of_elem_eq_true (by decide +kernel)
  · exact List.mem_of_elem_eq_true (by decide +kernel)
theorem dv_1 : ∀ j, j < 3 → defaultValue (ft_1 j) = dvl ((ftl 1)[j]?.getD 0) := by decide +kernel
theorem ini_1 : Jvm.Cond.initialized r_1 ∈ tbG ∧ Jvm.Cond.instantiable r_1 3 ∈ tbG := by
  refine ⟨List.mem_filter.mpr ⟨?_, rfl⟩, List.mem_filter.mpr ⟨?_, rfl⟩⟩
  · exact List.mem_of_elem_eq_true (by decide +kernel)
  · exact List.mem_of_elem_eq_true (by decide +kernel)
theorem dv_2 : ∀ j, j < 4 → defaultValue (ft_2 j) = dvl ((ftl 2)[j]?.getD 0) := by decide +kernel
theorem ini_2 : Jvm.Cond.initialized r_2 ∈ tbG ∧ Jvm.Cond.instantiable r_2 4 ∈ tbG := by
  refine ⟨List.mem_filter.mpr ⟨?_, rfl⟩, List.mem_filter.mpr ⟨?_, rfl⟩⟩
  · exact List.mem_of_elem_eq_true (by decide +kernel)
  · exact List.mem_of_elem_eq_true (by decide +kernel)
theorem dv_3 : ∀ j, j < 5 → defaultValue (ft_3 j) = dvl ((ftl 3)[j]?.getD 0) := by decide +kernel
theorem ini_3 : Jvm.Cond.initialized r_3 ∈ tbG ∧ Jvm.Cond.instantiable r_3 5 ∈ tbG := by
  refine ⟨List.mem_filter.mpr ⟨?_, rfl⟩, List.mem_filter.mpr ⟨?_, rfl⟩⟩
  · exact List.mem_of_elem_eq_true (by decide +kernel)
  · exact List.mem_of_elem_eq_true (by decide +kernel)
theorem dv_4 : ∀ j, j < 4 → defaultValue (ft_4 j) = dvl ((ftl 4)[j]?.getD 0) := by decide +kernel
theorem ini_4 : Jvm.Cond.initialized r_4 ∈ tbG ∧ Jvm.Cond.instantiable r_4 4 ∈ tbG := by
  refine ⟨List.mem_filter.mpr ⟨?_, rfl⟩, List.mem_filter.mpr ⟨?_, rfl⟩⟩
  · exact List.mem_of_elem_eq_true (by decide +kernel)
  · exact List.mem_of_elem_eq_true (by decide +kernel)
theorem dv_5 : ∀ j, j < 7 → defaultValue (ft_5 j) = dvl ((ftl 5)[j]?.getD 0) := by decide +kernel
theorem ini_5 : Jvm.Cond.initialized r_5 ∈ tbG ∧ Jvm.Cond.instantiable r_5 7 ∈ tbG := by
  refine ⟨List.mem_filter.mpr ⟨?_, rfl⟩, List.mem_filter.mpr ⟨?_, rfl⟩⟩
  · exact List.mem_of_elem_eq_true (by decide +kernel)
  · exact List.mem_of_elem_eq_true (by decide +kernel)
theorem dv_6 : ∀ j, j < 7 → defaultValue (ft_6 j) = dvl ((ftl 6)[j]?.getD 0) := by decide +kernel
theorem ini_6 : Jvm.Cond.initialized r_6 ∈ tbG ∧ Jvm.Cond.instantiable r_6 7 ∈ tbG := by
  refine ⟨List.mem_filter.mpr ⟨?_, rfl⟩, List.mem_filter.mpr ⟨?_, rfl⟩⟩
  · exact List.mem_of_elem_eq_true (by decide +kernel)
  · exact List.mem_of_elem_eq_true (by decide +kernel)
theorem dv_7 : ∀ j, j < 3 → defaultValue (ft_7 j) = dvl ((ftl 7)[j]?.getD 0) := by decide +kernel
theorem ini_7 : Jvm.Cond.initialized r_7 ∈ tbG ∧ Jvm.Cond.instantiable r_7 3 ∈ tbG := by
  refine ⟨List.mem_filter.mpr ⟨?_, rfl⟩, List.mem_filter.mpr ⟨?_, rfl⟩⟩
  · exact List.mem_of_elem_eq_true (by decide +kernel)
  · exact List.mem_of_elem_eq_true (by decide +kernel)
theorem dv_8 : ∀ j, j < 13 → defaultValue (ft_8 j) = dvl ((ftl 8)[j]?.getD 0) := by decide +kernel
theorem ini_8 : Jvm.Cond.initialized r_8 ∈ tbG ∧ Jvm.Cond.instantiable r_8 13 ∈ tbG := by
  refine ⟨List.mem_filter.mpr ⟨?_, rfl⟩, List.mem_filter.mpr ⟨?_, rfl⟩⟩
  · exact List.mem_of_elem_eq_true (by decide +kernel)
  · exact List.mem_of_elem_eq_true (by decide +kernel)
theorem dv_9 : ∀ j, j < 12 → defaultValue (ft_9 j) = dvl ((ftl 9)[j]?.getD 0) := by decide +kernel
theorem ini_9 : Jvm.Cond.initialized r_9 ∈ tbG ∧ Jvm.Cond.instantiable r_9 12 ∈ tbG := by
  refine ⟨List.mem_filter.mpr ⟨?_, rfl⟩, List.mem_filter.mpr ⟨?_, rfl⟩⟩
  · exact List.mem_of_elem_eq_true (by decide +kernel)
  · exact List.mem_of_elem_eq_true (by decide +kernel)
theorem dv_10 : ∀ j, j < 50 → defaultValue (ft_10 j) = dvl ((ftl 10)[j]?.getD 0) := by decide +kernel
theorem ini_10 : Jvm.Cond.initialized r_10 ∈ tbG ∧ Jvm.Cond.instantiable r_10 50 ∈ tbG := by
  refine ⟨List.mem_filter.mpr ⟨?_, rfl⟩, List.mem_filter.mpr ⟨?_, rfl⟩⟩
  · exact List.mem_of_elem_eq_true (by decide +kernel)
  · exact List.mem_of_elem_eq_true (by decide +kernel)
theorem cl_ok2 {ci : Nat} {C : String} {T : u_T} {N : Nat} (h : v_cl[ci]? = some (C, T, N)) : Jvm.Cond.initialized C ∈ tbG ∧ Jvm.Cond.instantiable C N ∈ tbG ∧ ∃ ty0 : Nat → FieldType, (∀ k, k < N → parseFieldDescriptor (T k).2.2.1 = some (ty0 k)) ∧ ∀ j, j < N → defaultValue (ty0 j) = dvl ((ftl ci)[j]?.getD 0) := by
  match ci, h with
  | 0, h => cases h; exact ⟨ini_0.1, ini_0.2, ft_0, fo_0, dv_0⟩
  | 1, h => cases h; exact ⟨ini_1.1, ini_1.2, ft_1, fo_1, dv_1⟩
  | 2, h => cases h; exact ⟨ini_2.1, ini_2.2, ft_2, fo_2, dv_2⟩
  | 3, h => cases h; exact ⟨ini_3.1, ini_3.2, ft_3, fo_3, dv_3⟩
  | 4, h => cases h; exact ⟨ini_4.1, ini_4.2, ft_4, fo_4, dv_4⟩
  | 5, h => cases h; exact ⟨ini_5.1, ini_5.2, ft_5, fo_5, dv_5⟩
  | 6, h => cases h; exact ⟨ini_6.1, ini_6.2, ft_6, fo_6, dv_6⟩
  | 7, h => cases h; exact ⟨ini_7.1, ini_7.2, ft_7, fo_7, dv_7⟩
  | 8, h => cases h; exact ⟨ini_8.1, ini_8.2, ft_8, fo_8, dv_8⟩
  | 9, h => cases h; exact ⟨ini_9.1, ini_9.2, ft_9, fo_9, dv_9⟩
  | 10, h => cases h; exact ⟨ini_10.1, ini_10.2, ft_10, fo_10, dv_10⟩
  | k + 11, h => simp [v_cl] at h
theorem ac_20 : Jvm.Cond.arrayClass .int ∈ tbG := List.mem_filter.mpr ⟨List.mem_of_elem_eq_true (by decide +kernel), rfl⟩
theorem ac_21 : Jvm.Cond.arrayClass .byte ∈ tbG := List.mem_filter.mpr ⟨List.mem_of_elem_eq_true (by decide +kernel), rfl⟩
theorem ac_22 : Jvm.Cond.arrayClass .boolean ∈ tbG := List.mem_filter.mpr ⟨List.mem_of_elem_eq_true (by decide +kernel), rfl⟩
theorem ac_23 : Jvm.Cond.arrayClass .long ∈ tbG := List.mem_filter.mpr ⟨List.mem_of_elem_eq_true (by decide +kernel), rfl⟩
theorem acp_w : Jvm.Cond.native arraycopyName ∈ tbG ∧ Jvm.Cond.static arraycopyName ∈ tbG ∧ Jvm.Cond.initialized "java/lang/System" ∈ tbG := ⟨List.mem_filter.mpr ⟨List.mem_of_elem_eq_true (by decide +kernel), rfl⟩, List.mem_filter.mpr ⟨List.mem_of_elem_eq_true (by decide +kernel), rfl⟩, List.mem_filter.mpr ⟨List.mem_of_elem_eq_true (by decide +kernel), rfl⟩⟩
theorem HRl.grow {G : GW} {h h' : PH} {H H1 : Heap} (hH : HRl G h H) (e0 : hE h ≤ hE h') (e1 : ∀ j, j < hE h → h'.1 j = h.1 j ∧ hI h' j = hI h j ∧ hL h' j = hL h j ∧ hR h' j = hR h j) (e2 : ∀ j, hE h' ≤ j → hT h' j = 99)
    (z : H1.size = G.2.2.2.1.size + (hE h' - 5)) (oq : ∀ q : Nat, q < H.size → H1[q]? = H[q]?) (hat : ∀ j, hE h ≤ j → j < hE h' → va_at G.1 v_cl (ad G j, enT G h' j) H1) : HRl G h' H1 := by
  obtain ⟨⟨a1, a2, a3, a4⟩, w2, w3, w4, w5⟩ := hH
  have et : ∀ j, j < hE h → hT h' j = hT h j := fun j hj => by unfold hT; rw [(e1 j hj).1]
  refine ⟨⟨by omega, by rw [et 0 (by omega)]; exact a2, fun j a b => by rw [et j (by omega)]; exact a3 j a b, e2⟩, fun j a b => ?_, z, fun q hq => ?_, fun i x hx => ?_⟩
  · obtain ⟨b1, b2⟩ := w2 j a b
    obtain ⟨c1, c2, -⟩ := e1 j (by omega)
    exact ⟨by rw [← b1]; unfold hN; rw [c1], by rw [c2]; exact b2⟩
  · rw [oq q (by omega)]
    exact w4 q hq
  · obtain ⟨hi, rfl⟩ := wsH_of hx
    by_cases hlt : i + 5 < hE h
    · obtain ⟨c1, c2, c3, c4⟩ := e1 (i + 5) hlt
      rw [enT_cg c1 c2 c3 c4]
      have hold := w5 (i + 5 - 5) _ (wsH_at (G := G) (by omega) hlt)
      exact hold.kept (oq _ (by show ad G (i + 5) < _; rw [ad_5]; omega))
    · exact hat (i + 5) (by omega) (by omega)
theorem va_S_new {G : GW} {s : State} {H : Heap} {locs : List Loc} (hS : va_S (AA G) s.heap H locs) {H1 : Heap} (z : H.size ≤ H1.size) (oq : ∀ q : Nat, q < H.size → H1[q]? = H[q]?) : va_S (AA G) s.heap H1 locs := ⟨Nat.le_trans hS.1 z, fun x g1 g2 => (oq x (Nat.lt_of_lt_of_le g1 hS.1)).trans (hS.2.1 x g1 g2), hS.2.2⟩
theorem ad_E {G : GW} {h : PH} {H : Heap} (hH : HRl G h H) : ad G (hE h) = H.size := by
  rw [ad_ge hH.1.1, hH.2.2.1]
theorem hNew_old {h : PH} {t n j : Nat} (hj : j < hE h) : (hNew h t n).1 j = h.1 j ∧ hI (hNew h t n) j = hI h j ∧ hL (hNew h t n) j = hL h j ∧ hR (hNew h t n) j = hR h j := by
  have hne : j ≠ hE h := by omega
  refine ⟨?_, ?_, ?_, ?_⟩
  · show up1 _ _ _ _ = _; unfold up1; rw [if_neg hne]
  · show up1 _ _ _ _ = _; unfold up1; rw [if_neg hne]
  · show up1 _ _ _ _ = _; unfold up1; rw [if_neg hne]
  · show up1 _ _ _ _ = _; unfold up1; rw [if_neg hne]
theorem hNew_at {h : PH} {t n : Nat} : (hNew h t n).1 (hE h) = (t, n) ∧ hI (hNew h t n) (hE h) = (fun _ => 0) ∧ hL (hNew h t n) (hE h) = (fun _ => 0) ∧ hR (hNew h t n) (hE h) = (fun _ => 0) := by
  refine ⟨?_, ?_, ?_, ?_⟩
  · show up1 _ _ _ _ = _; unfold up1; rw [if_pos rfl]
  · show up1 _ _ _ _ = _; unfold up1; rw [if_pos rfl]
  · show up1 _ _ _ _ = _; unfold up1; rw [if_pos rfl]
  · show up1 _ _ _ _ = _; unfold up1; rw [if_pos rfl]
theorem HRl.new {G : GW} {h : PH} {H H1 : Heap} {t n : Nat} (hH : HRl G h H) (z : H1.size = H.size + 1) (oq : ∀ q : Nat, q < H.size → H1[q]? = H[q]?) (hat : va_at G.1 v_cl (H.size, enT G (hNew h t n) (hE h)) H1) : HRl G (hNew h t n) H1 := by
  have h5 := hH.1.1
  refine HRl.grow hH (h' := hNew h t n) (Nat.le_succ _) (fun j hj => hNew_old hj) (fun j hj => ?_) ?_ oq (fun j a b => ?_)
  · have hj' : hE h + 1 ≤ j := hj
    have e9 : (hNew h t n).1 j = h.1 j := by
      show up1 _ _ _ _ = _; unfold up1; rw [if_neg (by omega)]
    unfold hT
    rw [e9]
    exact hH.1.2.2.2 j (by omega)
  · show H1.size = _ + (hE h + 1 - 5)
    rw [z, hH.2.2.1]
    omega
  · have b' : j < hE h + 1 := b
    have e : j = hE h := by omega
    subst e
    rw [ad_E hH]
    exact hat
section S11
variable {G : GW} {mi : MI} {mc ms : Nat} {p : Program} {l : Launch} {e : Env} {s : State} {m : MethodId} {args : Array Value} {below : List Frame} {meth : Method} {c : Code} {Q : State → Prop} {pc : Nat} {pl : PL} {h : PH} {ca sl : Nat}
theorem gq_new (hx : p.tables.exec = Jvm.exec) (hb : c.code = mi.2.1) (hts : ∀ w ∈ tbG, w.before args s = true) (ho : s.vm.findClass mi.1.cls = some m.cls) (hV : VRl G s) {ea eb index : Nat} {C : String} {T : u_T} {st : List Value} (hc : v_cl[ea]? = some (C, T, eb)) (hlen : (ftl ea).length = eb) (h11 : ea < 11) (hl : (Jvm.Cond.classLink mi.1.cls index C).before args s = true) (hca : ca + 1 ≤ mc) (hsl : sl + eb ≤ ms) (hd : decode mi.2.1 pc = .ok (.new index, 3)) (kk : GLp G mi mc ms p l e s m args below meth c Q (pc + 3) (pl) (.ref (hE h) :: st) (hNew h ea eb) (ca + 1) (sl + eb)) : GLp G mi mc ms p l e s m args below meth c Q (pc) (pl) (st) (h) (ca) (sl) := by
  intro H locs ls h1 h2 h3
  obtain ⟨w1, w2, ty0, hty, hdv⟩ := cl_ok2 hc
  have hKn := hV.1.1 ea _ hc
  refine W.newcK hx hb ho hl (hts _ w2) (hts _ w1) rfl hd hca hsl hKn.2.1 rfl fun H1 kC hkC e1 z1 o1 => ?_
  have hn : HRl G (hNew h ea eb) H1 := by
    refine HRl.new h1 z1 o1 ?_
    obtain ⟨n1, n2, n3, n4⟩ := hNew_at (h := h) (t := ea) (n := eb)
    rw [enT_o (c := ea) (by unfold hT; rw [n1]) (by omega)]
    refine ⟨_, hc, (u_born ty0 hts (cl_ok hc).1 hKn hkC e1 hty).to (fun j hj => ?_)⟩
    rw [hdv j hj]
    have e5 : (List.map (fun j => fvl G (hNew h ea eb) (hE h) ((ftl ea)[j]?.getD 0) j) (List.range (ftl ea).length))[j]? = some (fvl G (hNew h ea eb) (hE h) ((ftl ea)[j]?.getD 0) j) := enO_at (by rw [hlen]; exact hj)
    show _ = vp_V _ j
    unfold vp_V
    rw [List.getD_eq_getElem?_getD, e5]
    show dvl _ = fvl G (hNew h ea eb) (hE h) _ j
    unfold dvl fvl
    rw [n2, n3, n4]
    generalize (ftl ea)[j]?.getD 0 = tc
    match tc with
    | 0 => rfl
    | 1 => rfl
    | 2 => rfl
    | n + 3 => rfl
  have g := kk H1 locs ls hn (va_S_new h2 (by omega) o1) h3
  rw [List.map_cons, tv_ref (by have := h1.1.1; omega), ad_E h1] at g
  exact g
theorem gq_newa (hx : p.tables.exec = Jvm.exec) (hb : c.code = mi.2.1) (hts : ∀ w ∈ tbG, w.before args s = true) (ho : s.vm.findClass mi.1.cls = some m.cls) (hV : VRl G s) {ea eb : Nat} {at_ : ArrayType} {n : Int32} {st : List Value} (hty : newarray.typeOf at_ = tagTy ea) (h20 : 20 ≤ ea) (h23 : ea ≤ 23) (hn0 : ¬ n < 0) (hn1 : n.toNatClampNeg ≤ eb) (hbd : eb ≤ 10000) (hca : ca + 1 ≤ mc) (hsl : sl + eb ≤ ms) (hd : decode mi.2.1 pc = .ok (.newarray at_, 2)) (kk : GLp G mi mc ms p l e s m args below meth c Q (pc + 2) (pl) (.ref (hE h) :: st) (hNew h ea n.toNatClampNeg) (ca + 1) (sl + eb)) : GLp G mi mc ms p l e s m args below meth c Q (pc) (pl) (.int n :: st) (h) (ca) (sl) := by
  intro H locs ls h1 h2 h3
  have facts : (Jvm.Cond.arrayClass (newarray.typeOf at_)).before args s = true ∧ n.toNatClampNeg * componentBytes (newarray.typeOf at_) ≤ 536870912 ∧ ∃ ty, (tyL G)[ea - 20]? = some (G.2.1 ea, ty) ∧ newarray.typeOf at_ = ty ∧ s.vm.findClass ("[" ++ ty.toString) = some (G.2.1 ea) ∧ (∀ N, enA G (hNew h ea N) (hE h) ea = .inl (G.2.1 ea, N, (if ea = 23 then .inr (.inl (fun _ => 0)) else .inl (fun _ => 0)))) ∧ (∀ (cA : ClassId) (N : Nat), vp_cell cA (N, (if ea = 23 then .inr (.inl (fun _ => 0)) else .inl (fun _ => 0))) = arrV cA N (fun _ => defaultValue ty)) := by
    have hen : ∀ N, enA G (hNew h ea N) (hE h) ea = .inl (G.2.1 ea, N, (if ea = 23 then .inr (.inl (fun _ => 0)) else .inl (fun _ => 0))) := fun N => by
      obtain ⟨n1, n2, n3, n4⟩ := hNew_at (h := h) (t := ea) (n := N)
      unfold enA hN
      rw [n1, n2, n3]
      congr 3
      split
      · rfl
      · rw [if_neg (by omega)]
    rw [hty]
    rcases (show ea = 20 ∨ ea = 21 ∨ ea = 22 ∨ ea = 23 by omega) with rfl | rfl | rfl | rfl
    · exact ⟨hts _ ac_20, by show _ * 4 ≤ _; omega, .int, rfl, rfl, (hV.1.2 0 _ rfl).2, hen, fun _ _ => rfl⟩
    · exact ⟨hts _ ac_21, by show _ * 1 ≤ _; omega, .byte, rfl, rfl, (hV.1.2 1 _ rfl).2, hen, fun _ _ => rfl⟩
    · exact ⟨hts _ ac_22, by show _ * 1 ≤ _; omega, .boolean, rfl, rfl, (hV.1.2 2 _ rfl).2, hen, fun _ _ => rfl⟩
    · exact ⟨hts _ ac_23, by show _ * 8 ≤ _; omega, .long, rfl, rfl, (hV.1.2 3 _ rfl).2, hen, fun _ _ => rfl⟩
  obtain ⟨f1, f2, ty, f3, f4, f5, f6, f7⟩ := facts
  refine va_newaK hx hb f1 rfl hd rfl hn0 rfl f2 hca (show sl + n.toNatClampNeg ≤ ms by omega) rfl fun H1 cA e1 z1 o1 hAr hNm => ?_
  rw [f4] at hNm e1
  have hcA : cA = G.2.1 ea := Option.some.inj (hNm.symm.trans f5)
  subst hcA
  have hn : HRl G (hNew h ea n.toNatClampNeg) H1 := by
    refine HRl.new h1 z1 o1 ?_
    rw [enT_a (t := ea) (by unfold hT; rw [hNew_at.1]) h20, f6]
    show H1[H.size]? = some (vp_cell _ _)
    rw [f7]
    exact e1
  have g := kk H1 locs ls hn (va_S_new h2 (by omega) o1) h3
  rw [List.map_cons, tv_ref (by have := h1.1.1; omega), ad_E h1] at g
  exact W.widen (k := ca + 1) (n := sl + eb) (Nat.le_refl _) (by omega) g
theorem gq_newq (hx : p.tables.exec = Jvm.exec) (hb : c.code = mi.2.1) (hts : ∀ w ∈ tbG, w.before args s = true) (ho : s.vm.findClass mi.1.cls = some m.cls) (hV : VRl G s) {ea eb index : Nat} {n : Int32} {st : List Value} (h24 : 24 ≤ ea) (h26 : ea ≤ 26) (hl : (Jvm.Cond.classLink mi.1.cls index (tagCl ea)).before args s = true) (hn0 : ¬ n < 0) (hn1 : n.toNatClampNeg ≤ eb) (hbd : eb ≤ 10000) (hca : ca + 1 ≤ mc) (hsl : sl + eb ≤ ms) (hd : decode mi.2.1 pc = .ok (.anewarray index, 3)) (kk : GLp G mi mc ms p l e s m args below meth c Q (pc + 3) (pl) (.ref (hE h) :: st) (hNew h ea n.toNatClampNeg) (ca + 1) (sl + eb)) : GLp G mi mc ms p l e s m args below meth c Q (pc) (pl) (.int n :: st) (h) (ca) (sl) := by
  intro H locs ls h1 h2 h3
  have facts : va_AO (tagCl ea) s ∧ s.vm.findClass ("[" ++ (FieldType.object (tagCl ea)).toString) = some (G.2.1 ea) := by
    rcases (show ea = 24 ∨ ea = 25 ∨ ea = 26 by omega) with rfl | rfl | rfl
    · obtain ⟨kA, comp, -, -, -, q⟩ := (hV.1.2 4 _ rfl).2
      exact ⟨hV.2.2.2.1, q⟩
    · obtain ⟨kA, comp, -, -, -, q⟩ := (hV.1.2 5 _ rfl).2
      exact ⟨hV.2.2.2.2.1, q⟩
    · obtain ⟨kA, comp, -, -, -, q⟩ := (hV.1.2 6 _ rfl).2
      exact ⟨hV.2.2.2.2.2.1, q⟩
  obtain ⟨f1, f5⟩ := facts
  refine W.anew hx hb ho hl (va_AO.use f1) rfl hd rfl hn0 (by omega) hca (show sl + n.toNatClampNeg ≤ ms by omega) fun cA kA comp k1 k2 k3 k4 => ?_
  have hcA : cA = G.2.1 ea := Option.some.inj (k1.symm.trans f5)
  subst hcA
  generalize hH1 : H.push ({ cls := G.2.1 ea, slots := Array.replicate n.toNatClampNeg .null, vm := .none } : Cell) = H1
  have z1 : H1.size = H.size + 1 := by rw [← hH1, Array.size_push]
  have e1 : H1[H.size]? = some (arrV (G.2.1 ea) n.toNatClampNeg (fun _ => .null)) := by rw [← hH1, Array.getElem?_push_size, ← arrV_new]
  have o1 : ∀ q : Nat, q < H.size → H1[q]? = H[q]? := fun q hq => by rw [← hH1, Array.getElem?_push, if_neg (Nat.ne_of_lt hq)]
  have hn : HRl G (hNew h ea n.toNatClampNeg) H1 := by
    refine HRl.new h1 z1 o1 ?_
    obtain ⟨n1, n2, n3, n4⟩ := hNew_at (h := h) (t := ea) (n := n.toNatClampNeg)
    rw [enT_a (t := ea) (by unfold hT; rw [n1]) (by omega)]
    unfold enA hN
    rw [if_neg (by omega), if_pos h24, n1, n4]
    exact e1
  have g := kk H1 locs ls hn (va_S_new h2 (by omega) o1) h3
  rw [List.map_cons, tv_ref (by have := h1.1.1; omega), ad_E h1] at g
  exact W.widen (k := ca + 1) (n := sl + eb) (Nat.le_refl _) (by omega) g
theorem gq_gets (hx : p.tables.exec = Jvm.exec) (hb : c.code = mi.2.1) (hts : ∀ w ∈ tbG, w.before args s = true) (ho : s.vm.findClass mi.1.cls = some m.cls) (hV : VRl G s) (hB : G.2.2.2.1.size ≤ s.heap.size) (hB2 : ∀ q, q < G.2.2.2.1.size → s.heap[q]? = G.2.2.2.1[q]?) {ea index : Nat} {st : List Value} (h2e : 2 ≤ ea) (h5e : ea < 5) (hl : (Jvm.Cond.fieldLink mi.1.cls index "FieldTower" (stN ea) "[I").before args s = true ∨ (Jvm.Cond.fieldLinkNest mi.1.cls index "FieldTower" (stN ea) "[I" "FieldTower").before args s = true) (hd : decode mi.2.1 pc = .ok (.getstatic index, 3)) (kk : GLp G mi mc ms p l e s m args below meth c Q (pc + 3) (pl) (.ref ea :: st) (h) (ca) (sl)) : GLp G mi mc ms p l e s m args below meth c Q (pc) (pl) (st) (h) (ca) (sl) := by
  intro H locs ls h1 h2 h3
  have g := kk H locs ls h1 h2 h3
  rw [List.map_cons, tv_ref (by omega), ad_lt h5e] at g
  have hZ := (hV.2.2.1 ea h2e h5e).kept (H1 := s.heap) (fun a ha _ => hB2 a ha)
  rcases hl with hl | hl
  · exact va_gets hx hb hZ h2 ho hl (fun x hx => hx) hd g
  · exact va_getsN hx hb hZ h2 ho hl (fun x hx => hx) hd g
theorem gq_aast (hx : p.tables.exec = Jvm.exec) (hb : c.code = mi.2.1) (hts : ∀ w ∈ tbG, w.before args s = true) (ho : s.vm.findClass mi.1.cls = some m.cls) (hV : VRl G s) {k x : Nat} {i : Int32} {st : List Value} (hi : (inB h k 24 i ∧ hT h x = 2) ∨ (inB h k 25 i ∧ hT h x = 3) ∨ (inB h k 26 i ∧ hT h x = 4)) (hd : decode mi.2.1 pc = .ok (.aastore, 1)) (kk : GLp G mi mc ms p l e s m args below meth c Q (pc + 1) (pl) (st) (sR h k i.toNatClampNeg x) (ca) (sl)) : GLp G mi mc ms p l e s m args below meth c Q (pc) (pl) (.ref x :: .int i :: .ref k :: st) (h) (ca) (sl) := by
  intro H locs ls h1 h2 h3
  have gen : ∀ (t cx : Nat) (r : vw_C), 24 ≤ t → t ≤ 27 → cx < 11 → v_cl[cx]? = some r → (tyL G)[t - 20]? = some (G.2.1 t, .object r.1) → inB h k t i → hT h x = cx → W p l e (rmU mi mc ms) s m args below meth c H locs ca sl Q (F0 m pc ls (List.map (tv G) (.ref x :: .int i :: .ref k :: st))) := by
    intro t cx r t1 t2 cx1 hc hty hi hxt
    obtain ⟨k5, kE⟩ := tag_in h1.1 hi.1 (by omega) (by omega)
    obtain ⟨x5, xE⟩ := tag_in h1.1 hxt (by omega) (by omega)
    rw [List.map_cons, List.map_cons, List.map_cons, tv_ref (k := x) (by omega), tv_ref (k := k) (by omega)]
    have he := wsH_at (G := G) k5 kE
    rw [enT_a hi.1 (by omega)] at he
    have e9 : enA G h k t = .inl (G.2.1 t, hN h k, .inr (.inr (.inr (.inr (fun j => rfq G (hR h k j)))))) := by
      unfold enA
      rw [if_neg (by omega), if_pos t1]
    rw [e9] at he
    have hv := wsH_at (G := G) x5 xE
    rw [enT_o hxt (by omega)] at hv
    have hP := h1.2.2.2.2
    obtain ⟨r', hr', cellV, g1, g2, g3, -⟩ := hP (x - 5) _ hv
    have hcls := (hV.1.1 cx r hc).2
    obtain ⟨kA, comp, k1, k2, k3, -⟩ := (hV.1.2 (t - 20) _ hty).2
    have hcomp : comp = G.1.1 cx := Option.some.inj (k3.symm.trans hcls.1)
    subst hcomp
    obtain ⟨kC, hkC, -⟩ := hcls.2
    refine W.aast hx hb (hP (k - 5) _ he) (fun q h => by cases h) (fun h => by cases h) k1 k2 rfl hkC ⟨hi.2.1, by show _ < (arrV _ _ _).slots.size; rw [arrV_size]; exact hi.2.2⟩ g1 (fun q h => by rw [g3] at h; cases h) (by rw [g2]; exact hkC) (by rw [g2]; exact va_assign hcls) rfl rfl hd fun H1 e1 z oq => ?_
    refine kk H1 _ ls (HRl.upd (h' := sR h k i.toNatClampNeg x) h1 k5 kE rfl rfl (fun j hj => rfl) (fun j hj hjk => enT_cg rfl rfl rfl (up2_ne hjk)) ?_ z oq) (va_S_of h2 z oq (ad_AA k5)) h3
    rw [enT_a (G := G) (h := sR h k i.toNatClampNeg x) (k := k) (t := t) hi.1 (by omega)]
    have e8 : enA G (sR h k i.toNatClampNeg x) k t = .inl (G.2.1 t, hN h k, .inr (.inr (.inr (.inr (fun j => rfq G (up2 (hR h) k i.toNatClampNeg x k j)))))) := by
      unfold enA
      rw [if_neg (by omega), if_pos t1]
      rfl
    rw [e8]
    show H1[ad G k]? = some (vp_cell _ _)
    rw [e1, up2_self]
    rw [vp_cell_q, vp_cell_q, arrV_store]
    congr 2
    funext q
    by_cases hq : q = i.toNatClampNeg
    · subst hq
      have : rfq G x = some (ad G x) := if_neg (by omega)
      simp [updV, this, va_rf]
    · simp [updV, hq]
  rcases hi with ⟨hi, hx2⟩ | ⟨hi, hx2⟩ | ⟨hi, hx2⟩
  · exact gen 24 2 _ (by omega) (by omega) (by omega) rfl rfl hi hx2
  · exact gen 25 3 _ (by omega) (by omega) (by omega) rfl rfl hi hx2
  · exact gen 26 4 _ (by omega) (by omega) (by omega) rfl rfl hi hx2
end S11
theorem hNewM_old {h : PH} {n m j : Nat} (hj : j < hE h) : (hNewM h 27 n 20 m).1 j = h.1 j ∧ hI (hNewM h 27 n 20 m) j = hI h j ∧ hL (hNewM h 27 n 20 m) j = hL h j ∧ hR (hNewM h 27 n 20 m) j = hR h j := by
  refine ⟨?_, ?_, ?_, ?_⟩
  · show (if j = hE h then _ else if _ then _ else _) = _
    rw [if_neg (by omega), if_neg (by omega)]
  · funext i
    show (if _ then _ else _) = _
    rw [if_neg (by omega)]
  · funext i
    show (if _ then _ else _) = _
    rw [if_neg (by omega)]
  · funext i
    show (if j = hE h then _ else if _ then _ else _) = _
    rw [if_neg (by omega), if_neg (by omega)]
section S12
variable {G : GW} {mi : MI} {mc ms : Nat} {p : Program} {l : Launch} {e : Env} {s : State} {m : MethodId} {args : Array Value} {below : List Frame} {meth : Method} {c : Code} {Q : State → Prop} {pc : Nat} {pl : PL} {h : PH} {ca sl : Nat}
theorem gq_mna (hx : p.tables.exec = Jvm.exec) (hb : c.code = mi.2.1) (hts : ∀ w ∈ tbG, w.before args s = true) (ho : s.vm.findClass mi.1.cls = some m.cls) (hV : VRl G s) {eb ec index : Nat} {n k : Int32} {st : List Value} (hl : (Jvm.Cond.classLink mi.1.cls index "[[I").before args s = true) (hn0 : ¬ n < 0) (hn1 : n.toNatClampNeg = eb) (hk0 : ¬ k < 0) (hk1 : k.toNatClampNeg = ec) (hb1 : eb ≤ 1000) (hb2 : ec ≤ 1000) (hca : ca + (1 + eb) ≤ mc) (hsl : sl + (eb + eb * ec) ≤ ms) (hd : decode mi.2.1 pc = .ok (.multianewarray index 2, 4)) (kk : GLp G mi mc ms p l e s m args below meth c Q (pc + 4) (pl) (.ref (hE h) :: st) (hNewM h 27 eb 20 ec) (ca + 1 + eb) (sl + eb + eb * ec)) : GLp G mi mc ms p l e s m args below meth c Q (pc) (pl) (.int k :: .int n :: st) (h) (ca) (sl) := by
  intro H locs ls h1 h2 h3
  subst hn1
  subst hk1
  have q20 : s.vm.findClass "[I" = some (G.2.1 20) := (hV.1.2 0 _ rfl).2
  have q27 : s.vm.findClass "[[I" = some (G.2.1 27) := (hV.1.2 7 _ rfl).2
  have hover : va_AOA .int s := hV.2.2.2.2.2.2.1
  intro T hTT Xs
  obtain ⟨vm₁, cA, comp, -, fA, fC, hO, -, X', step⟩ := Xs.multianewarray2F (ty := .int) hx ho hl (va_AOA.use hover) (hts _ ac_20) (g := F0 m pc ls (.int k :: .int n :: st.map (tv G))) rfl (by rw [hb]; exact hd) rfl hn0 hk0 (by omega) (by show _ * 4 ≤ _; omega) (by omega) rfl rfl hca hsl
  have ec1 : comp = G.2.1 20 := Option.some.inj (fC.symm.trans q20)
  have ec2 : cA = G.2.1 27 := Option.some.inj (fA.symm.trans q27)
  subst ec1
  subst ec2
  generalize hF : Jvm.Free.Multi.fill (T.setVm vm₁) (G.2.1 27) (G.2.1 20) n.toNatClampNeg k.toNatClampNeg (defaultValue .int) n.toNatClampNeg = F at X' step
  have hTh : (T.setVm vm₁).heap = H := hTT
  obtain ⟨f1, f2, -, -⟩ := Jvm.Free.Multi.fill_facts (T.setVm vm₁) (G.2.1 27) (G.2.1 20) n.toNatClampNeg k.toNatClampNeg (defaultValue .int) n.toNatClampNeg
  rw [hF, hTh] at f1 f2
  have hold : ∀ x : Nat, x < H.size → F.heap[x]? = H[x]? := fun x hx => by
    have := Jvm.Free.Multi.fill_old (T.setVm vm₁) (G.2.1 27) (G.2.1 20) n.toNatClampNeg k.toNatClampNeg (defaultValue .int) (a := x) (by rw [hTh]; exact hx) n.toNatClampNeg
    rw [hF, hTh] at this
    exact this
  have hrow : ∀ j : Nat, j < n.toNatClampNeg → F.heap[H.size + 1 + j]? = some (vp_cell (G.2.1 20) (k.toNatClampNeg, .inl (fun _ => 0))) := fun j hj => by
    have := Jvm.Free.Multi.fill_inner (T.setVm vm₁) (G.2.1 27) (G.2.1 20) n.toNatClampNeg k.toNatClampNeg (defaultValue .int) n.toNatClampNeg j hj
    rw [hF, hTh] at this
    rw [this]
    show some ({ cls := _, slots := Array.replicate _ (.int 0), vm := .none } : Cell) = _
    rw [arrV_new]
    rfl
  have hout : Jvm.Free.Multi.outerC (G.2.1 27) n.toNatClampNeg H.size n.toNatClampNeg = vp_cell (G.2.1 27) (n.toNatClampNeg, .inr (.inr (.inr (.inr (fun i => if i < n.toNatClampNeg then some (H.size + 1 + i) else none))))) := by
    rw [vp_cell_q]
    exact vr_outer (G.2.1 27) n.toNatClampNeg H.size n.toNatClampNeg
  rw [hout] at f2
  have h5 := h1.1.1
  have hsz := h1.2.2.1
  have hn : HRl G (hNewM h 27 n.toNatClampNeg 20 k.toNatClampNeg) F.heap := by
    refine HRl.grow h1 (h' := hNewM h 27 n.toNatClampNeg 20 k.toNatClampNeg) (by show hE h ≤ hE h + 1 + _; omega) (fun j hj => hNewM_old hj) (fun j hj => ?_) ?_ hold (fun j a b => ?_)
    · have hj' : hE h + 1 + n.toNatClampNeg ≤ j := hj
      unfold hT
      have e9 : (hNewM h 27 n.toNatClampNeg 20 k.toNatClampNeg).1 j = h.1 j := by
        show (if j = hE h then _ else if _ then _ else _) = _
        rw [if_neg (by omega), if_neg (by omega)]
      rw [e9]
      exact h1.1.2.2.2 j (by omega)
    · show F.heap.size = _ + (hE h + 1 + n.toNatClampNeg - 5)
      rw [f1]
      omega
    · have b' : j < hE h + 1 + n.toNatClampNeg := b
      by_cases ej : j = hE h
      · subst ej
        have e9 : (hNewM h 27 n.toNatClampNeg 20 k.toNatClampNeg).1 (hE h) = (27, n.toNatClampNeg) := by
          show (if hE h = hE h then _ else _) = _
          rw [if_pos rfl]
        rw [ad_E h1, enT_a (t := 27) (by unfold hT; rw [e9]) (by omega)]
        unfold enA hN
        rw [e9, if_neg (by omega), if_pos (by omega)]
        show F.heap[H.size]? = some (vp_cell _ _)
        rw [f2]
        congr 7
        funext i
        show _ = rfq G (if hE h = hE h then _ else _)
        rw [if_pos rfl]
        by_cases hi : i < n.toNatClampNeg
        · rw [if_pos hi, if_pos hi]
          unfold rfq
          rw [if_neg (by omega), ad_ge (by omega)]
          congr 1
          omega
        · rw [if_neg hi, if_neg hi]
          rfl
      · have e9 : (hNewM h 27 n.toNatClampNeg 20 k.toNatClampNeg).1 j = (20, k.toNatClampNeg) := by
          show (if j = hE h then _ else if _ then _ else _) = _
          rw [if_neg ej, if_pos (by omega)]
        have e8 : hI (hNewM h 27 n.toNatClampNeg 20 k.toNatClampNeg) j = fun _ => 0 := by
          funext i
          show (if _ then _ else _) = _
          rw [if_pos (by omega)]
        rw [enT_a (t := 20) (by unfold hT; rw [e9]) (by omega)]
        unfold enA hN
        rw [e9, e8, if_neg (by omega), if_neg (by omega)]
        show F.heap[ad G j]? = some (vp_cell _ _)
        have := hrow (j - hE h - 1) (by omega)
        rw [ad_ge (by omega)]
        rw [show G.2.2.2.1.size + (j - 5) = H.size + 1 + (j - hE h - 1) by omega]
        exact this
  have g := kk F.heap locs ls hn (va_S_new h2 (by rw [f1]; omega) hold) h3
  rw [List.map_cons, tv_ref (by omega), ad_E h1] at g
  obtain ⟨t, a1, b1⟩ := g F rfl X'
  refine ⟨t, step t ?_, b1⟩
  have e9 : T.heap.size = H.size := by rw [hTT]
  rw [e9]
  exact a1
theorem gq_acp (hx : p.tables.exec = Jvm.exec) (hb : c.code = mi.2.1) (hts : ∀ w ∈ tbG, w.before args s = true) (ho : s.vm.findClass mi.1.cls = some m.cls) (hV : VRl G s) (hB : G.2.2.2.1.size ≤ s.heap.size) (hB2 : ∀ q, q < G.2.2.2.1.size → s.heap[q]? = G.2.2.2.1[q]?) (hml : c.maxLocals = mi.2.2.1) {k0 k1 index : Nat} {sp dp n : Int32} {st : List Value} (hct : ctg st ≤ 8) (k5 : 5 ≤ k1) (ht0 : hT h k0 = 20) (ht1 : hT h k1 = 20) (g1 : ¬ sp < 0) (g2 : ¬ dp < 0) (g3 : ¬ n < 0) (g4 : sp.toNatClampNeg + n.toNatClampNeg ≤ hN h k0) (g5 : dp.toNatClampNeg + n.toNatClampNeg ≤ hN h k1) (hl : (Jvm.Cond.methodLink mi.1.cls index arraycopyName).before args s = true) (hfr : 1 ≤ mi.2.2.2.2.2.1) (hlo : 8 + 18 ≤ mi.2.2.2.2.2.2.1) (hd : decode mi.2.1 pc = .ok (.invokestatic index, 3)) (kk : GLp G mi mc ms p l e s m args below meth c Q (pc + 3) (pl) (st) (sCp h k0 sp.toNatClampNeg k1 dp.toNatClampNeg n.toNatClampNeg) (ca) (sl)) : GLp G mi mc ms p l e s m args below meth c Q (pc) (pl) (.int n :: .int dp :: .ref k1 :: .int sp :: .ref k0 :: st) (h) (ca) (sl) := by
  intro H locs ls h1 h2 h3
  have nn : ∀ z : Int32, ¬ z < 0 → z.toInt = (z.toNatClampNeg : Int) := by
    intro z hz
    have hz0 : (0 : Int) ≤ z.toInt := by
      have := Int32.not_lt.mp hz
      simpa using Int32.le_iff_toInt_le.mp this
    show z.toInt = ((z.toInt.toNat : Nat) : Int)
    omega
  obtain ⟨k01, k0E⟩ := tag_in20 h1.1 ht0
  obtain ⟨-, k1E⟩ := tag_in20 h1.1 ht1
  have hP := h1.2.2.2.2
  have he1 := wsH_at (G := G) k5 k1E
  rw [enT_a ht1 (by omega)] at he1
  have hc1 : H[ad G k1]? = some (vp_cell (G.2.1 20) (hN h k1, .inl (hI h k1))) := hP (k1 - 5) _ he1
  have src : ∃ scr : Cell, H[ad G k0]? = some scr ∧ s.isArrayOf scr .int ∧ scr.vm ≠ .unknown ∧ hN h k0 ≤ scr.slots.size ∧ ∀ j, j < hN h k0 → scr.slots[j]? = some (.int (hI h k0 j)) := by
    by_cases q5 : k0 < 5
    · obtain ⟨cell, c1, c2, c3, c4, c5, c6, c7⟩ := ext_T hV hB hB2 k01 q5
      obtain ⟨e1, e2⟩ := h1.2.1 k0 k01 q5
      rw [ad_lt q5, e1, e2]
      refine ⟨cell, ?_, c2, c3, c4, c6⟩
      rw [h2.2.1 _ (Array.getElem?_eq_some_iff.mp c1).1 c7]
      exact c1
    · have he0 := wsH_at (G := G) (k := k0) (by omega) k0E
      rw [enT_a ht0 (by omega)] at he0
      have hc0 : H[ad G k0]? = some (vp_cell (G.2.1 20) (hN h k0, .inl (hI h k0))) := hP (k0 - 5) _ he0
      refine ⟨_, hc0, (hV.1.2 0 _ rfl).1 (hN h k0) (fun j => .int (hI h k0 j)), (fun h => by cases h), ?_, fun j hj => ?_⟩
      · show _ ≤ (arrV _ _ _).slots.size
        rw [arrV_size]
        exact Nat.le_refl _
      · show (arrV _ _ _).slots[j]? = _
        rw [arrV_read _ _ hj]
  obtain ⟨scr, s1, s2, s3, s4, s5⟩ := src
  obtain ⟨s6, kc0, hk0, cm0, hkk0⟩ := s2
  obtain ⟨-, kc1, hk1, cm1, hkk1⟩ := (hV.1.2 0 _ rfl).1 (hN h k1) (fun j => .int (hI h k1 j))
  obtain ⟨w1, w2, w3⟩ := acp_w
  have hcs : ((st.map (tv G)).map fun v => v.category).sum ≤ 8 := by
    have : ∀ l : List Value, ((l.map (tv G)).map fun v => v.category).sum = ctg l := by
      intro l
      induction l with
      | nil => rfl
      | cons v l ih =>
        rw [List.map_cons, List.map_cons, List.sum_cons, ih, tv_cat]
        cases v <;> rfl
    rw [this]
    exact hct
  rw [List.map_cons, List.map_cons, List.map_cons, List.map_cons, List.map_cons, tv_ref (k := k1) (by omega), tv_ref (k := k0) k01]
  intro T hTT X
  obtain ⟨vm', X', step⟩ := X.arraycopy hx ho hl (hts _ w1) (hts _ w2) (hts _ w3) (src := ad G k0) (dst := ad G k1) (cs := scr) (cd := vp_cell (G.2.1 20) (hN h k1, .inl (hI h k1))) (srcPos := sp) (destPos := dp) (n := n) (by rw [hTT]; exact s1) (by rw [hTT]; exact hc1)
    s6 (fun _ h => by cases h) s3 (fun h => by cases h) hk0 hk1 hkk0 hkk1 (by simp [refKind]) g1 g2 g3
    (by rw [nn sp g1, nn n g3]; omega)
    (by rw [nn dp g2, nn n g3]; show ¬ _ > ((arrV (G.2.1 20) (hN h k1) (fun j => .int (hI h k1 j))).slots.size : Int); rw [arrV_size]; omega)
    (fun vm₁ _ i hi => by
      have e : scr.slots.getD (sp.toNatClampNeg + i) .null = .int (hI h k0 (sp.toNatClampNeg + i)) := by
        rw [Array.getD_eq_getD_getElem?, s5 _ (by omega)]
        rfl
      refine ⟨?_, ?_⟩
      · rw [e]
        rfl
      · rw [e]
        exact trivial)
    (g := F0 m pc ls (.int n :: .int dp :: .ref (ad G k1) :: .int sp :: .ref (ad G k0) :: st.map (tv G))) rfl (by rw [hml]; exact h3.1) (rest := st.map (tv G)) rfl (by rw [hb]; exact hd) hfr (by show 2 * 0 + _ + (7 + 11) ≤ mi.2.2.2.2.2.2.1; omega)
  have e1 : copied scr (vp_cell (G.2.1 20) (hN h k1, .inl (hI h k1))) sp dp n = vp_cell (G.2.1 20) (hN h k1, .inl (va_cpy (hI h k0) (hI h k1) sp.toNatClampNeg dp.toNatClampNeg n.toNatClampNeg)) := va_copiedX (fun z => .int z) scr (G.2.1 20) (hI h k0) (hI h k1) s5 g4
  rw [e1] at X' step
  generalize hH1 : H.setIfInBounds (ad G k1) (vp_cell (G.2.1 20) (hN h k1, .inl (va_cpy (hI h k0) (hI h k1) sp.toNatClampNeg dp.toNatClampNeg n.toNatClampNeg))) = H1
  have hl1 : ad G k1 < H.size := (Array.getElem?_eq_some_iff.mp hc1).1
  have hheap : ((T.setVm vm').setCell (ad G k1) (vp_cell (G.2.1 20) (hN h k1, .inl (va_cpy (hI h k0) (hI h k1) sp.toNatClampNeg dp.toNatClampNeg n.toNatClampNeg)))).heap = H1 := by rw [← hH1, ← hTT]; rfl
  have oq : ∀ q : Nat, q ≠ ad G k1 → H1[q]? = H[q]? := fun q hq => by rw [← hH1]; simp [Array.getElem?_setIfInBounds, Ne.symm hq]
  have hat : H1[ad G k1]? = some (vp_cell (G.2.1 20) (hN h k1, .inl (va_cpy (hI h k0) (hI h k1) sp.toNatClampNeg dp.toNatClampNeg n.toNatClampNeg))) := by rw [← hH1]; simp [Array.getElem?_setIfInBounds, hl1]
  have z : H1.size = H.size := by rw [← hH1]; simp
  have hn : HRl G (sCp h k0 sp.toNatClampNeg k1 dp.toNatClampNeg n.toNatClampNeg) H1 := by
    refine HRl.upd (h' := sCp h k0 sp.toNatClampNeg k1 dp.toNatClampNeg n.toNatClampNeg) h1 k5 k1E rfl rfl (fun j hj => ?_) (fun j hj hjk => enT_cg rfl ?_ rfl rfl) ?_ z oq
    · funext i
      show (if j = k1 ∧ _ then _ else _) = _
      rw [if_neg (by omega)]
    · funext i
      show (if j = k1 ∧ _ then _ else _) = _
      rw [if_neg (by omega)]
    · rw [enT_a (G := G) (h := sCp h k0 sp.toNatClampNeg k1 dp.toNatClampNeg n.toNatClampNeg) (k := k1) (t := 20) ht1 (by omega)]
      show H1[ad G k1]? = some (vp_cell (G.2.1 20) (hN h k1, .inl (hI (sCp h k0 sp.toNatClampNeg k1 dp.toNatClampNeg n.toNatClampNeg) k1)))
      rw [hat]
      congr 4
      funext i
      show va_cpy _ _ _ _ _ i = (if k1 = k1 ∧ _ then _ else _)
      unfold va_cpy
      by_cases q : dp.toNatClampNeg ≤ i ∧ i < dp.toNatClampNeg + n.toNatClampNeg
      · rw [if_pos q, if_pos ⟨rfl, q⟩]
      · rw [if_neg q, if_neg (fun w => q w.2)]
  have hS1 : va_S (AA G) s.heap H1 (locs ++ ((scr.stretch sp.toNatClampNeg n.toNatClampNeg).zipIdx).map (fun q => ⟨ad G k1, dp.toNatClampNeg + q.2⟩)) := ⟨by rw [z]; exact h2.1, fun q a b => by
      rw [oq q (fun e => b (by rw [e]; exact ad_AA k5))]
      exact h2.2.1 q a b, fun q hq => by
      rcases List.mem_append.mp hq with w | w
      · exact h2.2.2 q w
      · obtain ⟨i, -, hi⟩ := List.mem_map.mp w
        rw [← hi]
        exact ad_AA k5⟩
  obtain ⟨t, a1, b1⟩ := kk H1 _ ls hn hS1 h3 _ hheap X'
  exact ⟨t, step t a1, b1⟩
end S12
end
section
/-! SOUNDNESS: calls -/
def pshR (ret : Option FieldType) (r : Value) (rest : List Value) : List Value := match ret with
  | none => rest
  | some _ => r :: rest
theorem tbA_in {pl : Nat} {w : Jvm.Cond} (h : tbA pl w = true) : w ∈ tbG := by
  unfold tbA at h
  simp only [Bool.and_eq_true, decide_eq_true_eq] at h
  exact List.mem_filter.mpr ⟨List.mem_of_getElem? h.1, h.2⟩
theorem tbB_in {pl : Nat} {w : Jvm.Cond} (h : tbB pl w = true) : w ∈ tbN := by
  unfold tbB at h
  simp only [Bool.and_eq_true, decide_eq_true_eq] at h
  exact List.mem_filter.mpr ⟨List.mem_of_getElem? h.1, h.2⟩
theorem tbG_good {w : Jvm.Cond} (h : w ∈ tbG) : (w.onTables && w.keeps) = true ∨ ∃ ty, w = .arrayClass ty := good_of_word (List.mem_filter.mp h).2
/-- what is checked of a call -/
def CkC (mi cm : MI) (cq : List Ent × Nat × Nat) (nargs ec : Nat) (tl : List (Int32 × Nat)) (idx pl : Nat) (stat : Bool) : Prop :=
  (tbA pl (.methodLink mi.1.cls idx cm.1) = true ∨ tbB pl (.methodLinkNest mi.1.cls idx cm.1 "FieldTower") = true) ∧ Jvm.Cond.code cm.1 cm.2.1 cm.2.2.1 cm.2.2.2.1 ∈ tbG ∧ Jvm.Cond.initialized cm.1.cls ∈ tbG ∧ (cm.1.cls ≠ "java/lang/invoke/MethodHandle" ∧ cm.1.cls ≠ "java/lang/invoke/VarHandle") ∧
  (parseMethodDescriptor cm.1.desc).map (fun d => d.parameters.length) = some nargs ∧ cm.2.2.2.2.2.1 + 1 ≤ mi.2.2.2.2.2.1 ∧ 8 + (cm.2.2.1 + 11) + cm.2.2.2.2.2.2.1 ≤ mi.2.2.2.2.2.2.1 ∧ tl_c tl = (cq.2.1, cq.2.2) ∧ (ec = 0 ↔ cm.2.2.2.1 = none) ∧ (if stat then Jvm.Cond.static cm.1 ∈ tbG else Jvm.Cond.instanceMethod cm.1 ∈ tbG)
theorem ck_call_use {mi : MI} {mc ms ea nargs ec idx pl : Nat} {tl : List (Int32 × Nat)} {stat : Bool} (h : ck_call mi mc ms ea nargs ec tl idx pl stat = true) : ∃ cm cq, mis[ea]? = some cm ∧ progs[ea]? = some cq ∧ CkC mi cm cq nargs ec tl idx pl stat := by
  unfold ck_call at h
  split at h
  · rename_i cm cq hm hq
    refine ⟨cm, cq, hm, hq, ?_⟩
    simp only [Bool.and_eq_true, Bool.or_eq_true, decide_eq_true_eq, Nat.ble_eq] at h
    obtain ⟨⟨⟨⟨⟨⟨⟨⟨⟨⟨⟨⟨h1, h2⟩, h3⟩, h4⟩, h5⟩, h6⟩, h7⟩, h8⟩, h9⟩, h10⟩, h11⟩, h12⟩, h13⟩ := h
    refine ⟨h1, tbA_in h2, tbA_in h3, h4, by rw [h5, h10], h7, h8, h11, h12, ?_⟩
    cases stat
    · exact tbA_in h13
    · exact tbA_in h13
  · cases h
theorem ctg_cat {G : GW} : ∀ l : List Value, ((l.map (tv G)).map fun v => v.category).sum = ctg l := by
  intro l
  induction l with
  | nil => rfl
  | cons v l ih =>
    rw [List.map_cons, List.map_cons, List.sum_cons, ih, tv_cat]
    cases v <;> rfl
theorem PcU_blind {G : GW} {as : List Value} {h : PH} : FrameBlind (PcU G as h) := fun a U g mk q => ⟨q.1, q.2.1, VRl.same (s := U) (U := U.calling g mk a) rfl q.2.2⟩
theorem popn_eq : ∀ (n : Nat) (st acc as s : List Value), popn n st acc = some (as, s) → ∃ b, st = b ++ s ∧ as = b.reverse ++ acc ∧ b.length = n
  | 0, st, acc, as, s, h => by
    unfold popn at h
    cases h
    exact ⟨[], rfl, rfl, rfl⟩
  | n + 1, [], acc, as, s, h => by
    unfold popn at h
    cases h
  | n + 1, v :: st, acc, as, s, h => by
    unfold popn at h
    obtain ⟨b, h1, h2, h3⟩ := popn_eq n st (v :: acc) as s h
    exact ⟨v :: b, by rw [h1]; rfl, by rw [h2]; simp, by simp [h3]⟩
section S13
variable {G : GW} {mi : MI} {mc ms : Nat} {p : Program} {l : Launch} {e : Env} {s : State} {m : MethodId} {args : Array Value} {below : List Frame} {meth : Method} {c : Code} {Q : State → Prop} {pc : Nat} {pl : PL} {h : PH} {ca sl : Nat}
/-- behind a call -/
theorem gq_back (hB : G.2.2.2.1.size ≤ s.heap.size) (hB2 : ∀ q, q < G.2.2.2.1.size → s.heap[q]? = G.2.2.2.1[q]?) {H : Heap} {locs : List Loc} {ls : Array Slot} {st rest : List Value} {mc' ms' : Nat} {K : PK} {ret : Option FieldType} {a : Array Value} (h2 : va_S (AA G) s.heap H locs) (h3 : LRl G pl ls mi.2.2.1)
    (hr : va_Run p l e (rmU mi mc ms) s m args below meth c H locs ca sl mc' ms' (F0 m pc ls st) (rest.map (tv G)) (QcU G ret K a) (AA G))
    (kk : ∀ (r : Value) (h' : PH), K r h' → GLp G mi mc ms p l e s m args below meth c Q (pc + 3) pl (pshR ret r rest) h' (ca + mc') (sl + ms')) : W p l e (rmU mi mc ms) s m args below meth c H locs ca sl Q (F0 m pc ls st) := by
  intro T hTT X
  obtain ⟨v, st0, t, T', L, z1, X', hL, z2, z3, ⟨z4, r, h', hK, hv, hH⟩, go⟩ := hr T hTT X
  cases hv
  rw [z1] at z4
  have hS1 : va_S (AA G) s.heap t.heap (locs ++ L) := ⟨Nat.le_trans h2.1 z4, fun q a b => by
      have hq : q < G.2.2.2.1.size := Nat.not_le.mp b
      rw [hH.2.2.2.1 q hq, hB2 q hq], fun q hq => by
      rcases List.mem_append.mp hq with w | w
      · exact h2.2.2 q w
      · exact hL q w⟩
  have g := kk r h' hK t.heap (locs ++ L) ls hH hS1 h3 T' z2 X'
  obtain ⟨tf, a1, b1⟩ := g
  refine ⟨tf, go tf ?_, b1⟩
  cases ret with
  | none => exact a1
  | some ty => exact a1
theorem gq_callV (hx : p.tables.exec = Jvm.exec) (hb : c.code = mi.2.1) (hts : ∀ w ∈ tbG, w.before args s = true) (ho : s.vm.findClass mi.1.cls = some m.cls) (hV : VRl G s) (hB : G.2.2.2.1.size ≤ s.heap.size) (hB2 : ∀ q, q < G.2.2.2.1.size → s.heap[q]? = G.2.2.2.1[q]?) (hml : c.maxLocals = mi.2.2.1) {ea nargs ec index pl0 : Nat} {tl : List (Int32 × Nat)} {cm : MI} {cq : List Ent × Nat × Nat} (hm : mis[ea]? = some cm) (hq : progs[ea]? = some cq) (hck : CkC mi cm cq nargs ec tl index pl0 false) (hlink : Jvm.Cond.methodLink mi.1.cls index cm.1 ∈ tbG) (hsel : Jvm.Cond.selects cm.1.cls cm.1 cm.1 ∈ tbG) {k tg : Nat} {r0 : vw_C} (hc : v_cl[tg]? = some r0) (hr0 : r0.1 = cm.1.cls) (h11 : tg < 11) (htag : hT h k = tg) {b rest : List Value} (hbl : b.length = nargs) {K : PK} (hP : PMd ea (.ref k :: b.reverse) h K) (hct : ctg rest ≤ 8) (hca : ca + cq.2.1 ≤ mc) (hsl : sl + cq.2.2 ≤ ms) (hd : decode mi.2.1 pc = .ok (.invokevirtual index, 3)) (kk : ∀ (r : Value) (h' : PH), K r h' → GLp G mi mc ms p l e s m args below meth c Q (pc + 3) (pl) (pshR cm.2.2.2.1 r rest) (h') (ca + cq.2.1) (sl + cq.2.2)) : GLp G mi mc ms p l e s m args below meth c Q (pc) (pl) (b ++ .ref k :: rest) (h) (ca) (sl) := by
  obtain ⟨c1, c2, c3, c4, c5, c6, c7, c8, c9, c10⟩ := hck
  intro H locs ls h1 h2 h3
  obtain ⟨k5, kE⟩ := tag_in h1.1 htag (by omega) (by omega)
  have he := wsH_at (G := G) k5 kE
  rw [enT_o htag (by omega)] at he
  have hM := hP l G cq cm hq hm
  have hgood : GoodIn tbG (wsV mi.1.cls index cm.1.cls cm.1 (wsU cm)) := by
    intro w hw
    have hin : w ∈ tbG := by
      rcases List.mem_append.mp hw with q | q
      · simp only [List.mem_cons, List.not_mem_nil, or_false] at q
        rcases q with rfl | rfl | rfl | rfl
        · exact hlink
        · exact c10
        · exact hsel
        · exact c3
      · rcases List.mem_cons.mp q with rfl | q
        · exact c2
        · exact q
    exact ⟨hin, tbG_good hin⟩
  have cw := cwV (R := rmU mi mc ms) (rm := rmU cm cq.2.1 cq.2.2) (ws := wsU cm) nargs hts hgood rfl rfl rfl ⟨rfl, c4.1, c4.2, c5⟩ ⟨c6, c7⟩
  have hrun := va_runV (e := e) (below := below) (meth := meth) (locs := locs) (g := F0 m pc ls ((b ++ .ref k :: rest).map (tv G))) (As := (b.map (tv G)).reverse) (b := ad G k) (rest := rest.map (tv G)) ⟨hx, hb, hml, ho, hts⟩ hM cw ⟨PcU_blind, hr0 ▸ va_recv hV.1 h1.2.2.2.2 hc he, fun U hU hW => ⟨by rw [List.map_cons, tv_ref (by omega), List.map_reverse], by rw [hU]; exact h1, VRl.warm hW hV⟩⟩ rfl (by simp [hbl]) h3.1 (by simp [tv_ref (G := G) (k := k) (by omega)]) (by show 2 * 0 + _ ≤ 8; rw [ctg_cat]; omega) hd ⟨hca, hsl⟩
  exact gq_back hB hB2 h2 h3 hrun kk
theorem gq_callI (hx : p.tables.exec = Jvm.exec) (hb : c.code = mi.2.1) (hts : ∀ w ∈ tbG, w.before args s = true) (ho : s.vm.findClass mi.1.cls = some m.cls) (hV : VRl G s) (hB : G.2.2.2.1.size ≤ s.heap.size) (hB2 : ∀ q, q < G.2.2.2.1.size → s.heap[q]? = G.2.2.2.1[q]?) (hml : c.maxLocals = mi.2.2.1) {ea nargs ec index pl0 : Nat} {tl : List (Int32 × Nat)} {cm : MI} {cq : List Ent × Nat × Nat} (hm : mis[ea]? = some cm) (hq : progs[ea]? = some cq) (hck : CkC mi cm cq nargs ec tl index pl0 false) (hlink : Jvm.Cond.methodLink mi.1.cls index cm.1 ∈ tbG) (hnm : cm.1.name = "<init>") (hrn : cm.2.2.2.1 = none) {k : Nat} (hk1 : 1 ≤ k) {b rest : List Value} (hbl : b.length = nargs) {K : PK} (hP : PMd ea (.ref k :: b.reverse) h K) (hct : ctg rest ≤ 8) (hca : ca + cq.2.1 ≤ mc) (hsl : sl + cq.2.2 ≤ ms) (hd : decode mi.2.1 pc = .ok (.invokespecial index, 3)) (kk : ∀ (r : Value) (h' : PH), K r h' → GLp G mi mc ms p l e s m args below meth c Q (pc + 3) (pl) (pshR cm.2.2.2.1 r rest) (h') (ca + cq.2.1) (sl + cq.2.2)) : GLp G mi mc ms p l e s m args below meth c Q (pc) (pl) (b ++ .ref k :: rest) (h) (ca) (sl) := by
  obtain ⟨c1, c2, c3, c4, c5, c6, c7, c8, c9, c10⟩ := hck
  intro H locs ls h1 h2 h3
  have hM := hP l G cq cm hq hm
  have hgood : GoodIn tbG (wsU cm) := by
    intro w hw
    have hin : w ∈ tbG := by
      rcases List.mem_cons.mp hw with rfl | q
      · exact c2
      · exact q
    exact ⟨hin, tbG_good hin⟩
  have hws : wsU cm = Jvm.Cond.code cm.1 cm.2.1 cm.2.2.1 none :: tbG := by unfold wsU; rw [hrn]
  have cw := cwI (R := rmU mi mc ms) (rm := rmU cm cq.2.1 cq.2.2) (ws := wsU cm) nargs hts hgood hws rfl rfl (hts _ c3) (hts _ hlink) (hts _ c10) hnm ⟨c4.1, c4.2, c5⟩ ⟨c6, c7⟩
  have hrun := va_runI (e := e) (below := below) (meth := meth) (locs := locs) (g := F0 m pc ls ((b ++ .ref k :: rest).map (tv G))) (As := (b.map (tv G)).reverse) (b := ad G k) (rest := rest.map (tv G)) ⟨hx, hb, hml, ho, hts⟩ hM cw ⟨PcU_blind, fun U hU hW => ⟨by rw [List.map_cons, tv_ref hk1, List.map_reverse], by rw [hU]; exact h1, VRl.warm hW hV⟩⟩ rfl (by simp [hbl]) h3.1 (by simp [tv_ref (G := G) (k := k) hk1]) (by show 2 * 0 + _ ≤ 8; rw [ctg_cat]; omega) hd ⟨hca, hsl⟩
  exact gq_back hB hB2 h2 h3 hrun kk
theorem gq_callS (hx : p.tables.exec = Jvm.exec) (hb : c.code = mi.2.1) (hts : ∀ w ∈ tbG, w.before args s = true) (ho : s.vm.findClass mi.1.cls = some m.cls) (hV : VRl G s) (hB : G.2.2.2.1.size ≤ s.heap.size) (hB2 : ∀ q, q < G.2.2.2.1.size → s.heap[q]? = G.2.2.2.1[q]?) (hml : c.maxLocals = mi.2.2.1) {ea nargs ec index pl0 : Nat} {tl : List (Int32 × Nat)} {cm : MI} {cq : List Ent × Nat × Nat} (hm : mis[ea]? = some cm) (hq : progs[ea]? = some cq) (hck : CkC mi cm cq nargs ec tl index pl0 true) {b rest : List Value} (hbl : b.length = nargs) {K : PK} (hP : PMd ea b.reverse h K) (hct : ctg rest ≤ 8) (hca : ca + cq.2.1 ≤ mc) (hsl : sl + cq.2.2 ≤ ms) (hd : decode mi.2.1 pc = .ok (.invokestatic index, 3)) (kk : ∀ (r : Value) (h' : PH), K r h' → GLp G mi mc ms p l e s m args below meth c Q (pc + 3) (pl) (pshR cm.2.2.2.1 r rest) (h') (ca + cq.2.1) (sl + cq.2.2)) : GLp G mi mc ms p l e s m args below meth c Q (pc) (pl) (b ++ rest) (h) (ca) (sl) := by
  obtain ⟨c1, c2, c3, c4, c5, c6, c7, c8, c9, c10⟩ := hck
  intro H locs ls h1 h2 h3
  have hM := hP l G cq cm hq hm
  have hgood : GoodIn tbG (wsU cm) := by
    intro w hw
    have hin : w ∈ tbG := by
      rcases List.mem_cons.mp hw with rfl | q
      · exact c2
      · exact q
    exact ⟨hin, tbG_good hin⟩
  have hpre : PreS s H (PcU G b.reverse h) (b.map (tv G)).reverse := ⟨PcU_blind, fun U hU hW => ⟨by rw [List.map_reverse], by rw [hU]; exact h1, VRl.warm hW hV⟩⟩
  rcases c1 with c1 | c1
  · have cw := callB_of (R := rmU mi mc ms) (rm := rmU cm cq.2.1 cq.2.2) (ws := wsU cm) nargs hts hgood rfl rfl rfl (hts _ c3) (hts _ (tbA_in c1)) ⟨c4.1, c4.2, c5⟩ ⟨c6, c7⟩
    have hrun := va_runS (e := e) (below := below) (meth := meth) (locs := locs) (g := F0 m pc ls ((b ++ rest).map (tv G))) (As := (b.map (tv G)).reverse) (rest := rest.map (tv G)) ⟨hx, hb, hml, ho, hts⟩ hM ⟨cw, hts _ c10⟩ hpre rfl (by simp [hbl]) h3.1 (by simp) (by show 2 * 0 + _ ≤ 8; rw [ctg_cat]; omega) hd ⟨hca, hsl⟩
    exact gq_back hB hB2 h2 h3 hrun kk
  · have cw := va_cnB (R := rmU mi mc ms) (args := args) (rm := rmU cm cq.2.1 cq.2.2) (ws := wsU cm) nargs hts hgood rfl rfl rfl (hV.2.2.2.2.2.2.2 _ (tbB_in c1)) (hts _ c3) ⟨c4.1, c4.2, c5⟩ ⟨c6, c7⟩
    have hrun := va_runSN (e := e) (below := below) (meth := meth) (locs := locs) (g := F0 m pc ls ((b ++ rest).map (tv G))) (As := (b.map (tv G)).reverse) (rest := rest.map (tv G)) ⟨hx, hb, hml, ho, hts⟩ hM ⟨cw, hts _ c10, trivial⟩ hpre rfl (by simp [hbl]) h3.1 (by simp) (by show 2 * 0 + _ ≤ 8; rw [ctg_cat]; omega) hd ⟨hca, hsl⟩
    exact gq_back hB hB2 h2 h3 hrun kk
theorem obj_w : Jvm.Cond.instanceMethod objectInit ∈ tbG ∧ Jvm.Cond.code objectInit ⟨#[0xb1]⟩ 1 none ∈ tbG := ⟨List.mem_filter.mpr ⟨List.mem_of_elem_eq_true (by decide +kernel), rfl⟩, List.mem_filter.mpr ⟨List.mem_of_elem_eq_true (by decide +kernel), rfl⟩⟩
theorem gq_obj (hx : p.tables.exec = Jvm.exec) (hb : c.code = mi.2.1) (hts : ∀ w ∈ tbG, w.before args s = true) (ho : s.vm.findClass mi.1.cls = some m.cls) (hV : VRl G s) (hml : c.maxLocals = mi.2.2.1) {index k : Nat} {rest : List Value} (hk1 : 1 ≤ k) (hlink : Jvm.Cond.methodLink mi.1.cls index objectInit ∈ tbG) (hct : ctg rest ≤ 8) (hfr : 1 ≤ mi.2.2.2.2.2.1) (hlo : 20 ≤ mi.2.2.2.2.2.2.1) (hd : decode mi.2.1 pc = .ok (.invokespecial index, 3)) (kk : GLp G mi mc ms p l e s m args below meth c Q (pc + 3) (pl) (rest) (h) (ca) (sl)) : GLp G mi mc ms p l e s m args below meth c Q (pc) (pl) (.ref k :: rest) (h) (ca) (sl) := by
  intro H locs ls h1 h2 h3
  have g := kk H locs ls h1 h2 h3
  rw [List.map_cons, tv_ref hk1]
  exact W.objInit hx hb ho (hts _ hlink) (hts _ obj_w.1) (hts _ obj_w.2) rfl (by rw [hml]; exact h3.1) rfl hd hfr (by show 2 * 0 + _ + 12 ≤ mi.2.2.2.2.2.2.1; rw [ctg_cat]; omega) g
end S13
end
section
/-! SOUNDNESS: one instruction, all kinds; the transformer; what a semantics keeps -/
theorem ck_at_use {mi : MI} {q : List Ent × Nat × Nat} {k pc len pl : Nat} {raw : Instr} {en : Ent} (h : ck_at mi q k = true) (hx : pcA mi k = some (pc, raw, len, pl)) (he : q.1[k]? = some en) : decode mi.2.1 pc = .ok (raw, len) ∧ en.1 = k ∧ ck_e mi q en pc raw len pl = true := by
  unfold ck_at at h
  rw [hx, he] at h
  simp only [Bool.and_eq_true, decide_eq_true_eq, beq_iff_eq] at h
  exact ⟨h.1.1, h.1.2, h.2⟩
theorem ck_n_use {mi : MI} {ix pc len : Nat} (h : ck_n mi ix pc len = true) : ∃ y, pcA mi (ix + 1) = some y ∧ y.1 = pc + len := by
  unfold ck_n at h
  split at h
  · rename_i y hy
    exact ⟨y, hy, by simpa using h⟩
  · cases h
theorem ck_j_use {mi : MI} {pc t : Nat} {off : Int} (h : ck_j mi pc off t = true) : ∃ y, pcA mi t = some y ∧ (pc : Int) + off = (y.1 : Int) := by
  unfold ck_j at h
  split at h
  · rename_i y hy
    exact ⟨y, hy, by simpa using h⟩
  · cases h
theorem b_if_inv {b : Bool} {k : Prop} (h : b_if b k) : b = true ∧ k := by
  cases b
  · exact h.elim
  · exact ⟨rfl, h⟩
theorem p_if_inv {α : Type} {o : Option α} {k : α → Prop} (h : p_if o k) : ∃ a, o = some a ∧ k a := by
  cases o with
  | none => exact h.elim
  | some a => exact ⟨a, rfl, h⟩
theorem s_i_inv {st : List Value} {k : Int32 → List Value → Prop} (h : s_i st k) : ∃ x s, st = .int x :: s ∧ k x s := by
  unfold s_i at h
  split at h
  · exact ⟨_, _, rfl, h⟩
  · exact h.elim
theorem s_l_inv {st : List Value} {k : Int64 → List Value → Prop} (h : s_l st k) : ∃ x s, st = .long x :: s ∧ k x s := by
  unfold s_l at h
  split at h
  · exact ⟨_, _, rfl, h⟩
  · exact h.elim
theorem s_r_inv {st : List Value} {k : Nat → List Value → Prop} (h : s_r st k) : ∃ x s, st = .ref x :: s ∧ k x s := by
  unfold s_r at h
  split at h
  · exact ⟨_, _, rfl, h⟩
  · exact h.elim
theorem s_n_inv {st : List Value} {k : Prop} (h : s_n st k) : st = [] ∧ k := by
  cases st with
  | nil => exact ⟨rfl, h⟩
  | cons a b => exact h.elim
theorem c_eq_inv {n m : Nat} {x y : Prop} (h : c_eq n m x y) : (n = m ∧ x) ∨ (n ≠ m ∧ y) := by
  unfold c_eq at h
  split at h
  · rename_i hb
    exact Or.inl ⟨Nat.eq_of_beq_eq_true hb, h⟩
  · rename_i hb
    exact Or.inr ⟨Nat.ne_of_beq_eq_false hb, h⟩
theorem pshE_R {n : Nat} {ret : Option FieldType} {r : Value} {s : List Value} (h : n = 0 ↔ ret = none) : pshR ret r s = pshE n r s := by
  cases ret with
  | none =>
    rw [h.mpr rfl]
    rfl
  | some ty =>
    cases n with
    | zero => cases h.mp rfl
    | succ n => rfl
def PSd : PSem := (PMd, PWd)
section S14
variable {G : GW} {mi : MI} {q : List Ent × Nat × Nat} {p : Program} {l : Launch} {e : Env} {s : State} {m : MethodId} {args : Array Value} {below : List Frame} {meth : Method} {c : Code} {Q : State → Prop} {K : PK} {pc ix : Nat} {pl : PL} {h : PH} {ca sl : Nat}
theorem gq_sw (hx : p.tables.exec = Jvm.exec) (hb : c.code = mi.2.1) {d : Int} {ps : Array (Int × Int)} {len ea : Nat} {tl : List (Int32 × Nat)} {x : Int32} {st : List Value} {jp : Nat → List (Int32 × Nat) → PGo}
    (hjp : ∀ t mm pl st h ca sl, jp t mm pl st h ca sl → ∀ y, pcA mi t = some y → GLp G mi q.2.1 q.2.2 p l e s m args below meth c Q y.1 pl st h ca sl)
    (hd : decode mi.2.1 pc = .ok (.lookupswitch d ps, len)) (ho : (ps.toList.zip (ps.toList.drop 1)).all (fun (a, next) => a.1 < next.1) = true) (hdf : ck_j mi pc d ea = true) (hsw : ck_sw mi pc ps.toList tl = true)
    (hs : swp x (fun t => jp t [] pl st h ca sl) ea tl) : GLp G mi q.2.1 q.2.2 p l e s m args below meth c Q pc pl (.int x :: st) h ca sl := by
  have key : ∀ (L : List (Int × Int)) (tl : List (Int32 × Nat)), ck_sw mi pc L tl = true → swp x (fun t => jp t [] pl st h ca sl) ea tl → ∃ y : Nat, (pc : Int) + Op.lookupswitch.offset L d x.toInt = (y : Int) ∧ GLp G mi q.2.1 q.2.2 p l e s m args below meth c Q y pl st h ca sl := by
    intro L
    induction L with
    | nil =>
      intro tl h1 h2
      cases tl with
      | nil =>
        obtain ⟨y, hy, he⟩ := ck_j_use hdf
        exact ⟨y.1, he, hjp _ _ _ _ _ _ _ h2 y hy⟩
      | cons a b => cases h1
    | cons a L ih =>
      obtain ⟨v, off⟩ := a
      intro tl h1 h2
      cases tl with
      | nil => cases h1
      | cons b tl =>
        obtain ⟨u, t⟩ := b
        unfold ck_sw at h1
        simp only [Bool.and_eq_true, decide_eq_true_eq] at h1
        obtain ⟨⟨⟨g1, g2⟩, g3⟩, g4⟩ := h1
        by_cases hxu : x = u
        · obtain ⟨y, hy, he⟩ := ck_j_use g3
          refine ⟨y.1, ?_, hjp _ _ _ _ _ _ _ (h2.1 hxu) y hy⟩
          rw [← he]
          simp [Op.lookupswitch.offset, hxu, g2]
        · obtain ⟨y, hy, hg⟩ := ih tl g4 (h2.2 hxu)
          refine ⟨y, ?_, hg⟩
          rw [← hy]
          have hne : ¬ v = x.toInt := fun w => hxu (by rw [← g1, w]; simp)
          simp [Op.lookupswitch.offset, hne]
  obtain ⟨y, hy, hg⟩ := key _ _ hsw hs
  intro H locs ls h1 h2 h3
  exact lv_lookup hx hb hd ho rfl hy (hg H locs ls h1 h2 h3)
theorem gq_tsw (hx : p.tables.exec = Jvm.exec) (hb : c.code = mi.2.1) {d lo hi : Int} {offs : Array Int} {len ea : Nat} {tl : List (Int32 × Nat)} {x : Int32} {st : List Value} {jp : Nat → List (Int32 × Nat) → PGo}
    (hjp : ∀ t mm pl st h ca sl, jp t mm pl st h ca sl → ∀ y, pcA mi t = some y → GLp G mi q.2.1 q.2.2 p l e s m args below meth c Q y.1 pl st h ca sl)
    (hd : decode mi.2.1 pc = .ok (.tableswitch d lo hi offs, len)) (hsz : lo + offs.size = hi + 1) (hdf : ck_j mi pc d ea = true) (hsw : ck_sw mi pc ((List.range offs.size).map (fun (j : Nat) => (lo + (j : Int), offs[j]?.getD 0))) tl = true)
    (hs : swp x (fun t => jp t [] pl st h ca sl) ea tl) : GLp G mi q.2.1 q.2.2 p l e s m args below meth c Q pc pl (.int x :: st) h ca sl := by
  have key : ∀ (n a : Nat) (tl : List (Int32 × Nat)), ck_sw mi pc ((List.range' a n).map (fun (j : Nat) => (lo + (j : Int), offs[j]?.getD 0))) tl = true → swp x (fun t => jp t [] pl st h ca sl) ea tl →
      (∃ (j : Nat) (y : Nat), a ≤ j ∧ j < a + n ∧ x.toInt = lo + (j : Int) ∧ (pc : Int) + offs[j]?.getD 0 = (y : Int) ∧ GLp G mi q.2.1 q.2.2 p l e s m args below meth c Q y pl st h ca sl) ∨ ((∀ j : Nat, a ≤ j → j < a + n → x.toInt ≠ lo + (j : Int)) ∧ ∃ y : Nat, (pc : Int) + d = (y : Int) ∧ GLp G mi q.2.1 q.2.2 p l e s m args below meth c Q y pl st h ca sl) := by
    intro n
    induction n with
    | zero =>
      intro a tl h1 h2
      cases tl with
      | nil =>
        obtain ⟨y, hy, he⟩ := ck_j_use hdf
        exact Or.inr ⟨fun j a b => by omega, y.1, he, hjp _ _ _ _ _ _ _ h2 y hy⟩
      | cons b tl => cases h1
    | succ n ih =>
      intro a tl h1 h2
      cases tl with
      | nil => cases h1
      | cons b tl =>
        obtain ⟨u, t⟩ := b
        rw [List.range'_succ, List.map_cons] at h1
        unfold ck_sw at h1
        simp only [Bool.and_eq_true, decide_eq_true_eq] at h1
        obtain ⟨⟨⟨g1, g2⟩, g3⟩, g4⟩ := h1
        by_cases hxu : x = u
        · obtain ⟨y, hy, he⟩ := ck_j_use g3
          exact Or.inl ⟨a, y.1, Nat.le_refl _, by omega, by rw [hxu, g2], he, hjp _ _ _ _ _ _ _ (h2.1 hxu) y hy⟩
        · rcases ih (a + 1) tl g4 (h2.2 hxu) with ⟨j, y, w1, w2, w3⟩ | ⟨w1, w2⟩
          · exact Or.inl ⟨j, y, by omega, by omega, w3⟩
          · refine Or.inr ⟨fun j a1 a2 => ?_, w2⟩
            by_cases hja : j = a
            · subst hja
              exact fun w => hxu (by rw [← g1, ← w]; simp)
            · exact w1 j (by omega) (by omega)
  rw [List.range_eq_range'] at hsw
  intro H locs ls h1 h2 h3
  rcases key _ _ _ hsw hs with ⟨j, y, w1, w2, w3, w4, w5⟩ | ⟨w1, y, w4, w5⟩
  · have hj : j < offs.size := by omega
    have ho : offs[(x.toInt - lo).toNat]? = some (offs[j]?.getD 0) := by
      rw [show (x.toInt - lo).toNat = j by omega]
      simp [hj]
    exact lv_tableIn hx hb hd (by omega) (by omega) ho w4 (w5 H locs ls h1 h2 h3)
  · refine lv_tableOut hx hb hd ?_ w4 (w5 H locs ls h1 h2 h3)
    rcases Int.lt_or_le x.toInt lo with w | w
    · exact Or.inl w
    · rcases Int.lt_or_le hi x.toInt with w' | w'
      · exact Or.inr w'
      · exact absurd (by omega) (w1 (x.toInt - lo).toNat (by omega) (by omega))
end S14
set_option maxHeartbeats 4000000 in
theorem stp_ok {G : GW} {mi : MI} {q : List Ent × Nat × Nat} {p : Program} {l : Launch} {e : Env} {s : State} {m : MethodId} {args : Array Value} {below : List Frame} {meth : Method} {c : Code} {Q : State → Prop} {K : PK} {pc ix len pl0 : Nat} {raw : Instr} {en : Ent} {pl : PL} {st : List Value} {h : PH} {ca sl : Nat} {nx : PGo} {jp : Nat → List (Int32 × Nat) → PGo}
    (hC : CXm mi p s m args meth c) (hV : VRl G s) (hB : G.2.2.2.1.size ≤ s.heap.size) (hB2 : ∀ q, q < G.2.2.2.1.size → s.heap[q]? = G.2.2.2.1[q]?) (hRt : ROK G mi q.2.1 q.2.2 K p l e (rmU mi q.2.1 q.2.2) s m args below meth c Q)
    (hdec : decode mi.2.1 pc = .ok (raw, len)) (hix : en.1 = ix) (hck : ck_e mi q en pc raw len pl0 = true)
    (hnx : ∀ pl st h ca sl, nx pl st h ca sl → ∀ y, pcA mi (ix + 1) = some y → GLp G mi q.2.1 q.2.2 p l e s m args below meth c Q y.1 pl st h ca sl)
    (hjp : ∀ t mm pl st h ca sl, jp t mm pl st h ca sl → ∀ y, pcA mi t = some y → GLp G mi q.2.1 q.2.2 p l e s m args below meth c Q y.1 pl st h ca sl)
    (hs : stp PSd q.2.1 q.2.2 K en nx jp pl st h ca sl) : GLp G mi q.2.1 q.2.2 p l e s m args below meth c Q pc pl st h ca sl := by
  obtain ⟨hx, hb, hml, hts, ho, hlk, hin⟩ := hC
  obtain ⟨ix', ins, ea, eb, ec, ev, ew, tl⟩ := en
  have hix : ix' = ix := hix
  subst hix
  have hn1 : ck_n mi ix' pc len = true → ∀ pl st h ca sl, nx pl st h ca sl → GLp G mi q.2.1 q.2.2 p l e s m args below meth c Q (pc + len) pl st h ca sl := fun hc pl st h ca sl w => by
    obtain ⟨y, hy, he⟩ := ck_n_use hc
    rw [← he]
    exact hnx pl st h ca sl w y hy
  have hj1 : ∀ {t : Nat} {off : Int}, ck_j mi pc off t = true → ∃ tgt : Nat, (pc : Int) + off = (tgt : Int) ∧ ∀ mm pl st h ca sl, jp t mm pl st h ca sl → GLp G mi q.2.1 q.2.2 p l e s m args below meth c Q tgt pl st h ca sl := fun hc => by
    obtain ⟨y, hy, he⟩ := ck_j_use hc
    exact ⟨y.1, he, fun mm pl st h ca sl w => hjp _ mm pl st h ca sl w y hy⟩
  cases ins
  case iadd =>
    change (ck_n mi ix' pc len && decide (raw = .iadd) && len == 1) = true at hck
    simp only [Bool.and_eq_true, Bool.or_eq_true, decide_eq_true_eq, beq_iff_eq, Nat.ble_eq, Nat.blt_eq] at hck
    obtain ⟨⟨hk1, rfl⟩, rfl⟩ := hck
    obtain ⟨x, y, s', rfl, hk⟩ := o_ii_inv (f := fun x y => x + y) (st := st) (k := fun s => nx pl s h ca sl) hs
    exact gq_iadd hx hb hdec (hn1 hk1 _ _ _ _ _ hk)
  case isub =>
    change (ck_n mi ix' pc len && decide (raw = .isub) && len == 1) = true at hck
    simp only [Bool.and_eq_true, Bool.or_eq_true, decide_eq_true_eq, beq_iff_eq, Nat.ble_eq, Nat.blt_eq] at hck
    obtain ⟨⟨hk1, rfl⟩, rfl⟩ := hck
    obtain ⟨x, y, s', rfl, hk⟩ := o_ii_inv (f := fun x y => x - y) (st := st) (k := fun s => nx pl s h ca sl) hs
    exact gq_isub hx hb hdec (hn1 hk1 _ _ _ _ _ hk)
  case imul =>
    change (ck_n mi ix' pc len && decide (raw = .imul) && len == 1) = true at hck
    simp only [Bool.and_eq_true, Bool.or_eq_true, decide_eq_true_eq, beq_iff_eq, Nat.ble_eq, Nat.blt_eq] at hck
    obtain ⟨⟨hk1, rfl⟩, rfl⟩ := hck
    obtain ⟨x, y, s', rfl, hk⟩ := o_ii_inv (f := fun x y => x * y) (st := st) (k := fun s => nx pl s h ca sl) hs
    exact gq_imul hx hb hdec (hn1 hk1 _ _ _ _ _ hk)
  case iand =>
    change (ck_n mi ix' pc len && decide (raw = .iand) && len == 1) = true at hck
    simp only [Bool.and_eq_true, Bool.or_eq_true, decide_eq_true_eq, beq_iff_eq, Nat.ble_eq, Nat.blt_eq] at hck
    obtain ⟨⟨hk1, rfl⟩, rfl⟩ := hck
    obtain ⟨x, y, s', rfl, hk⟩ := o_ii_inv (f := fun x y => x &&& y) (st := st) (k := fun s => nx pl s h ca sl) hs
    exact gq_iand hx hb hdec (hn1 hk1 _ _ _ _ _ hk)
  case ior =>
    change (ck_n mi ix' pc len && decide (raw = .ior) && len == 1) = true at hck
    simp only [Bool.and_eq_true, Bool.or_eq_true, decide_eq_true_eq, beq_iff_eq, Nat.ble_eq, Nat.blt_eq] at hck
    obtain ⟨⟨hk1, rfl⟩, rfl⟩ := hck
    obtain ⟨x, y, s', rfl, hk⟩ := o_ii_inv (f := fun x y => x ||| y) (st := st) (k := fun s => nx pl s h ca sl) hs
    exact gq_ior hx hb hdec (hn1 hk1 _ _ _ _ _ hk)
  case ixor =>
    change (ck_n mi ix' pc len && decide (raw = .ixor) && len == 1) = true at hck
    simp only [Bool.and_eq_true, Bool.or_eq_true, decide_eq_true_eq, beq_iff_eq, Nat.ble_eq, Nat.blt_eq] at hck
    obtain ⟨⟨hk1, rfl⟩, rfl⟩ := hck
    obtain ⟨x, y, s', rfl, hk⟩ := o_ii_inv (f := fun x y => x ^^^ y) (st := st) (k := fun s => nx pl s h ca sl) hs
    exact gq_ixor hx hb hdec (hn1 hk1 _ _ _ _ _ hk)
  case ishl =>
    change (ck_n mi ix' pc len && decide (raw = .ishl) && len == 1) = true at hck
    simp only [Bool.and_eq_true, Bool.or_eq_true, decide_eq_true_eq, beq_iff_eq, Nat.ble_eq, Nat.blt_eq] at hck
    obtain ⟨⟨hk1, rfl⟩, rfl⟩ := hck
    obtain ⟨x, y, s', rfl, hk⟩ := o_ii_inv (f := i_shl) (st := st) (k := fun s => nx pl s h ca sl) hs
    exact gq_ishl hx hb hdec (hn1 hk1 _ _ _ _ _ hk)
  case ishr =>
    change (ck_n mi ix' pc len && decide (raw = .ishr) && len == 1) = true at hck
    simp only [Bool.and_eq_true, Bool.or_eq_true, decide_eq_true_eq, beq_iff_eq, Nat.ble_eq, Nat.blt_eq] at hck
    obtain ⟨⟨hk1, rfl⟩, rfl⟩ := hck
    obtain ⟨x, y, s', rfl, hk⟩ := o_ii_inv (f := i_shr) (st := st) (k := fun s => nx pl s h ca sl) hs
    exact gq_ishr hx hb hdec (hn1 hk1 _ _ _ _ _ hk)
  case iushr =>
    change (ck_n mi ix' pc len && decide (raw = .iushr) && len == 1) = true at hck
    simp only [Bool.and_eq_true, Bool.or_eq_true, decide_eq_true_eq, beq_iff_eq, Nat.ble_eq, Nat.blt_eq] at hck
    obtain ⟨⟨hk1, rfl⟩, rfl⟩ := hck
    obtain ⟨x, y, s', rfl, hk⟩ := o_ii_inv (f := i_ushr) (st := st) (k := fun s => nx pl s h ca sl) hs
    exact gq_iushr hx hb hdec (hn1 hk1 _ _ _ _ _ hk)
  case idiv =>
    change (ck_n mi ix' pc len && decide (raw = .idiv) && len == 1) = true at hck
    simp only [Bool.and_eq_true, Bool.or_eq_true, decide_eq_true_eq, beq_iff_eq, Nat.ble_eq, Nat.blt_eq] at hck
    obtain ⟨⟨hk1, rfl⟩, rfl⟩ := hck
    obtain ⟨x, y, s', rfl, hz, hk⟩ := o_iin_inv (f := fun x y => x / y) (st := st) (k := fun s => nx pl s h ca sl) hs
    exact gq_idiv hx hb hdec hz (hn1 hk1 _ _ _ _ _ hk)
  case irem =>
    change (ck_n mi ix' pc len && decide (raw = .irem) && len == 1) = true at hck
    simp only [Bool.and_eq_true, Bool.or_eq_true, decide_eq_true_eq, beq_iff_eq, Nat.ble_eq, Nat.blt_eq] at hck
    obtain ⟨⟨hk1, rfl⟩, rfl⟩ := hck
    obtain ⟨x, y, s', rfl, hz, hk⟩ := o_iin_inv (f := i_rem) (st := st) (k := fun s => nx pl s h ca sl) hs
    exact gq_irem hx hb hdec hz (hn1 hk1 _ _ _ _ _ hk)
  case ladd =>
    change (ck_n mi ix' pc len && decide (raw = .ladd) && len == 1) = true at hck
    simp only [Bool.and_eq_true, Bool.or_eq_true, decide_eq_true_eq, beq_iff_eq, Nat.ble_eq, Nat.blt_eq] at hck
    obtain ⟨⟨hk1, rfl⟩, rfl⟩ := hck
    obtain ⟨x, y, s', rfl, hk⟩ := o_ll_inv (f := fun x y => x + y) (st := st) (k := fun s => nx pl s h ca sl) hs
    exact gq_ladd hx hb hdec (hn1 hk1 _ _ _ _ _ hk)
  case lmul =>
    change (ck_n mi ix' pc len && decide (raw = .lmul) && len == 1) = true at hck
    simp only [Bool.and_eq_true, Bool.or_eq_true, decide_eq_true_eq, beq_iff_eq, Nat.ble_eq, Nat.blt_eq] at hck
    obtain ⟨⟨hk1, rfl⟩, rfl⟩ := hck
    obtain ⟨x, y, s', rfl, hk⟩ := o_ll_inv (f := fun x y => x * y) (st := st) (k := fun s => nx pl s h ca sl) hs
    exact gq_lmul hx hb hdec (hn1 hk1 _ _ _ _ _ hk)
  case land =>
    change (ck_n mi ix' pc len && decide (raw = .land) && len == 1) = true at hck
    simp only [Bool.and_eq_true, Bool.or_eq_true, decide_eq_true_eq, beq_iff_eq, Nat.ble_eq, Nat.blt_eq] at hck
    obtain ⟨⟨hk1, rfl⟩, rfl⟩ := hck
    obtain ⟨x, y, s', rfl, hk⟩ := o_ll_inv (f := fun x y => x &&& y) (st := st) (k := fun s => nx pl s h ca sl) hs
    exact gq_land hx hb hdec (hn1 hk1 _ _ _ _ _ hk)
  case lxor =>
    change (ck_n mi ix' pc len && decide (raw = .lxor) && len == 1) = true at hck
    simp only [Bool.and_eq_true, Bool.or_eq_true, decide_eq_true_eq, beq_iff_eq, Nat.ble_eq, Nat.blt_eq] at hck
    obtain ⟨⟨hk1, rfl⟩, rfl⟩ := hck
    obtain ⟨x, y, s', rfl, hk⟩ := o_ll_inv (f := fun x y => x ^^^ y) (st := st) (k := fun s => nx pl s h ca sl) hs
    exact gq_lxor hx hb hdec (hn1 hk1 _ _ _ _ _ hk)
  case ldiv =>
    change (ck_n mi ix' pc len && decide (raw = .ldiv) && len == 1) = true at hck
    simp only [Bool.and_eq_true, Bool.or_eq_true, decide_eq_true_eq, beq_iff_eq, Nat.ble_eq, Nat.blt_eq] at hck
    obtain ⟨⟨hk1, rfl⟩, rfl⟩ := hck
    obtain ⟨x, y, s', rfl, hz, hk⟩ := o_lln_inv (f := fun x y => x / y) (st := st) (k := fun s => nx pl s h ca sl) hs
    exact gq_ldiv hx hb hdec hz (hn1 hk1 _ _ _ _ _ hk)
  case lrem =>
    change (ck_n mi ix' pc len && decide (raw = .lrem) && len == 1) = true at hck
    simp only [Bool.and_eq_true, Bool.or_eq_true, decide_eq_true_eq, beq_iff_eq, Nat.ble_eq, Nat.blt_eq] at hck
    obtain ⟨⟨hk1, rfl⟩, rfl⟩ := hck
    obtain ⟨x, y, s', rfl, hz, hk⟩ := o_lln_inv (f := l_rem) (st := st) (k := fun s => nx pl s h ca sl) hs
    exact gq_lrem hx hb hdec hz (hn1 hk1 _ _ _ _ _ hk)
  case lshl =>
    change (ck_n mi ix' pc len && decide (raw = .lshl) && len == 1) = true at hck
    simp only [Bool.and_eq_true, Bool.or_eq_true, decide_eq_true_eq, beq_iff_eq, Nat.ble_eq, Nat.blt_eq] at hck
    obtain ⟨⟨hk1, rfl⟩, rfl⟩ := hck
    obtain ⟨x, y, s', rfl, hk⟩ := o_li_inv (f := l_shl) (st := st) (k := fun s => nx pl s h ca sl) hs
    exact gq_lshl hx hb hdec (hn1 hk1 _ _ _ _ _ hk)
  case lshr =>
    change (ck_n mi ix' pc len && decide (raw = .lshr) && len == 1) = true at hck
    simp only [Bool.and_eq_true, Bool.or_eq_true, decide_eq_true_eq, beq_iff_eq, Nat.ble_eq, Nat.blt_eq] at hck
    obtain ⟨⟨hk1, rfl⟩, rfl⟩ := hck
    obtain ⟨x, y, s', rfl, hk⟩ := o_li_inv (f := l_shr) (st := st) (k := fun s => nx pl s h ca sl) hs
    exact gq_lshr hx hb hdec (hn1 hk1 _ _ _ _ _ hk)
  case lneg =>
    change (ck_n mi ix' pc len && decide (raw = .lneg) && len == 1) = true at hck
    simp only [Bool.and_eq_true, Bool.or_eq_true, decide_eq_true_eq, beq_iff_eq, Nat.ble_eq, Nat.blt_eq] at hck
    obtain ⟨⟨hk1, rfl⟩, rfl⟩ := hck
    match st, hs with
    | .long x :: s', hs => exact gq_lneg hx hb hdec (hn1 hk1 _ _ _ _ _ hs)
  case lcmp =>
    change (ck_n mi ix' pc len && decide (raw = .lcmp) && len == 1) = true at hck
    simp only [Bool.and_eq_true, Bool.or_eq_true, decide_eq_true_eq, beq_iff_eq, Nat.ble_eq, Nat.blt_eq] at hck
    obtain ⟨⟨hk1, rfl⟩, rfl⟩ := hck
    match st, hs with
    | .long y :: .long x :: s', hs => exact gq_lcmp hx hb hdec (hn1 hk1 _ _ _ _ _ hs)
  case i2l =>
    change (ck_n mi ix' pc len && decide (raw = .i2l) && len == 1) = true at hck
    simp only [Bool.and_eq_true, Bool.or_eq_true, decide_eq_true_eq, beq_iff_eq, Nat.ble_eq, Nat.blt_eq] at hck
    obtain ⟨⟨hk1, rfl⟩, rfl⟩ := hck
    match st, hs with
    | .int x :: s', hs => exact gq_i2l hx hb hdec (hn1 hk1 _ _ _ _ _ hs)
  case l2i =>
    change (ck_n mi ix' pc len && decide (raw = .l2i) && len == 1) = true at hck
    simp only [Bool.and_eq_true, Bool.or_eq_true, decide_eq_true_eq, beq_iff_eq, Nat.ble_eq, Nat.blt_eq] at hck
    obtain ⟨⟨hk1, rfl⟩, rfl⟩ := hck
    match st, hs with
    | .long x :: s', hs => exact gq_l2i hx hb hdec (hn1 hk1 _ _ _ _ _ hs)
  case i2b =>
    change (ck_n mi ix' pc len && decide (raw = .i2b) && len == 1) = true at hck
    simp only [Bool.and_eq_true, Bool.or_eq_true, decide_eq_true_eq, beq_iff_eq, Nat.ble_eq, Nat.blt_eq] at hck
    obtain ⟨⟨hk1, rfl⟩, rfl⟩ := hck
    match st, hs with
    | .int x :: s', hs => exact gq_i2b hx hb hdec (hn1 hk1 _ _ _ _ _ hs)
  case dup =>
    change (ck_n mi ix' pc len && decide (raw = .dup) && len == 1) = true at hck
    simp only [Bool.and_eq_true, Bool.or_eq_true, decide_eq_true_eq, beq_iff_eq, Nat.ble_eq, Nat.blt_eq] at hck
    obtain ⟨⟨hk1, rfl⟩, rfl⟩ := hck
    match st, hs with
    | .int x :: s', hs => exact gq_dup hx hb rfl hdec (hn1 hk1 _ _ _ _ _ hs)
    | .ref x :: s', hs => exact gq_dup hx hb rfl hdec (hn1 hk1 _ _ _ _ _ hs)
  case dup2 =>
    change (ck_n mi ix' pc len && decide (raw = .dup2) && len == 1) = true at hck
    simp only [Bool.and_eq_true, Bool.or_eq_true, decide_eq_true_eq, beq_iff_eq, Nat.ble_eq, Nat.blt_eq] at hck
    obtain ⟨⟨hk1, rfl⟩, rfl⟩ := hck
    match st, hs with
    | .int x :: .ref y :: s', hs => exact gq_dup2 hx hb rfl rfl hdec (hn1 hk1 _ _ _ _ _ hs)
  case pop =>
    change (ck_n mi ix' pc len && decide (raw = .pop) && len == 1) = true at hck
    simp only [Bool.and_eq_true, Bool.or_eq_true, decide_eq_true_eq, beq_iff_eq, Nat.ble_eq, Nat.blt_eq] at hck
    obtain ⟨⟨hk1, rfl⟩, rfl⟩ := hck
    match st, hs with
    | .int x :: s', hs => exact gq_pop hx hb rfl hdec (hn1 hk1 _ _ _ _ _ hs)
    | .ref x :: s', hs => exact gq_pop hx hb rfl hdec (hn1 hk1 _ _ _ _ _ hs)
  case sipush n0 =>
    unfold ck_e at hck
    simp only [Bool.and_eq_true] at hck
    obtain ⟨hk1, hck⟩ := hck
    have hk := hn1 hk1 _ _ _ _ _ (show nx pl (.int ev :: st) h ca sl from hs)
    split at hck
    · simp only [Bool.and_eq_true, beq_iff_eq, decide_eq_true_eq] at hck
      obtain ⟨rfl, hv⟩ := hck
      exact gq_iconst hx hb hv hdec hk
    · simp only [Bool.and_eq_true, beq_iff_eq, decide_eq_true_eq] at hck
      obtain ⟨rfl, hv⟩ := hck
      exact gq_bipush hx hb hv hdec hk
    · simp only [Bool.and_eq_true, beq_iff_eq, decide_eq_true_eq] at hck
      obtain ⟨rfl, hv⟩ := hck
      exact gq_sipush hx hb hv hdec hk
    · simp only [Bool.and_eq_true, beq_iff_eq] at hck
      obtain ⟨rfl, hv⟩ := hck
      exact gq_ldc hx hb ho (hts _ (tbA_in hv)) hdec hk
    · simp only [Bool.and_eq_true, beq_iff_eq] at hck
      obtain ⟨rfl, hv⟩ := hck
      exact gq_ldcw hx hb ho (hts _ (tbA_in hv)) hdec hk
    · cases hck
  case ldc2_w n0 =>
    unfold ck_e at hck
    simp only [Bool.and_eq_true] at hck
    obtain ⟨hk1, hck⟩ := hck
    have hk := hn1 hk1 _ _ _ _ _ (show nx pl (.long ew :: st) h ca sl from hs)
    split at hck
    · simp only [Bool.and_eq_true, beq_iff_eq, decide_eq_true_eq] at hck
      obtain ⟨rfl, hv⟩ := hck
      exact gq_lconst hx hb hv hdec hk
    · simp only [Bool.and_eq_true, beq_iff_eq] at hck
      obtain ⟨rfl, hv⟩ := hck
      exact gq_ldc2 hx hb ho (hts _ (tbA_in hv)) hdec hk
    · cases hck
  case iload i =>
    unfold ck_e at hck
    simp only [Bool.and_eq_true] at hck
    obtain ⟨hk1, hck⟩ := hck
    have hs : (match lgt pl i with | .int x => nx pl (.int x :: st) h ca sl | _ => False) := hs
    split at hs
    · rename_i x hv
      have hl := lgt_of hv (fun w => by cases w)
      have hk := hn1 hk1 _ _ _ _ _ hs
      split at hck
      · simp only [Bool.and_eq_true, beq_iff_eq] at hck
        obtain ⟨rfl, rfl⟩ := hck
        exact gq_iload hx hb hl hdec hk
      · simp only [Bool.and_eq_true, beq_iff_eq] at hck
        obtain ⟨rfl, hi⟩ := hck
        exact gq_iload_n hx hb hi.symm hl hdec hk
      · cases hck
    · exact hs.elim
  case lload i =>
    unfold ck_e at hck
    simp only [Bool.and_eq_true] at hck
    obtain ⟨hk1, hck⟩ := hck
    have hs : (match lgt pl i with | .long x => nx pl (.long x :: st) h ca sl | _ => False) := hs
    split at hs
    · rename_i x hv
      have hl := lgt_of hv (fun w => by cases w)
      have hk := hn1 hk1 _ _ _ _ _ hs
      split at hck
      · simp only [Bool.and_eq_true, beq_iff_eq] at hck
        obtain ⟨rfl, rfl⟩ := hck
        exact gq_lload hx hb hl hdec hk
      · simp only [Bool.and_eq_true, beq_iff_eq] at hck
        obtain ⟨rfl, hi⟩ := hck
        exact gq_lload_n hx hb hi.symm hl hdec hk
      · cases hck
    · exact hs.elim
  case aload i =>
    unfold ck_e at hck
    simp only [Bool.and_eq_true] at hck
    obtain ⟨hk1, hck⟩ := hck
    have hs : (match lgt pl i with | .ref x => nx pl (.ref x :: st) h ca sl | _ => False) := hs
    split at hs
    · rename_i x hv
      have hl := lgt_of hv (fun w => by cases w)
      have hk := hn1 hk1 _ _ _ _ _ hs
      split at hck
      · simp only [Bool.and_eq_true, beq_iff_eq] at hck
        obtain ⟨rfl, rfl⟩ := hck
        exact gq_aload hx hb hl hdec hk
      · simp only [Bool.and_eq_true, beq_iff_eq] at hck
        obtain ⟨rfl, hi⟩ := hck
        exact gq_aload_n hx hb hi.symm hl hdec hk
      · cases hck
    · exact hs.elim
  case istore i =>
    unfold ck_e at hck
    simp only [Bool.and_eq_true, Nat.blt_eq] at hck
    obtain ⟨⟨hk1, hlt⟩, hck⟩ := hck
    match st, hs with
    | .int x :: s', hs =>
      have hk := hn1 hk1 _ _ _ _ _ hs
      split at hck
      · simp only [Bool.and_eq_true, beq_iff_eq] at hck
        obtain ⟨rfl, rfl⟩ := hck
        exact gq_istore hx hb hlt hdec hk
      · simp only [Bool.and_eq_true, beq_iff_eq] at hck
        obtain ⟨rfl, hi⟩ := hck
        exact gq_istore_n hx hb hi.symm hlt hdec hk
      · cases hck
  case lstore i =>
    unfold ck_e at hck
    simp only [Bool.and_eq_true, Nat.blt_eq] at hck
    obtain ⟨⟨hk1, hlt⟩, hck⟩ := hck
    match st, hs with
    | .long x :: s', hs =>
      have hk := hn1 hk1 _ _ _ _ _ hs
      split at hck
      · simp only [Bool.and_eq_true, beq_iff_eq] at hck
        obtain ⟨rfl, rfl⟩ := hck
        exact gq_lstore hx hb hlt hdec hk
      · simp only [Bool.and_eq_true, beq_iff_eq] at hck
        obtain ⟨rfl, hi⟩ := hck
        exact gq_lstore_n hx hb hi.symm hlt hdec hk
      · cases hck
  case astore i =>
    unfold ck_e at hck
    simp only [Bool.and_eq_true, Nat.blt_eq] at hck
    obtain ⟨⟨hk1, hlt⟩, hck⟩ := hck
    match st, hs with
    | .ref x :: s', hs =>
      have hk := hn1 hk1 _ _ _ _ _ hs
      split at hck
      · simp only [Bool.and_eq_true, beq_iff_eq] at hck
        obtain ⟨rfl, rfl⟩ := hck
        exact gq_astore hx hb hlt hdec hk
      · simp only [Bool.and_eq_true, beq_iff_eq] at hck
        obtain ⟨rfl, hi⟩ := hck
        exact gq_astore_n hx hb hi.symm hlt hdec hk
      · cases hck
  case iinc i n0 =>
    unfold ck_e at hck
    simp only [Bool.and_eq_true, Nat.blt_eq] at hck
    obtain ⟨⟨hk1, hlt⟩, hck⟩ := hck
    have hs : (match lgt pl i with | .int x => nx (ls1 pl i (.int (x + ev))) st h ca sl | _ => False) := hs
    split at hs
    · rename_i x hv
      have hl := lgt_of hv (fun w => by cases w)
      have hk := hn1 hk1 _ _ _ _ _ hs
      split at hck
      · simp only [Bool.and_eq_true, beq_iff_eq, decide_eq_true_eq] at hck
        obtain ⟨⟨rfl, rfl⟩, hv⟩ := hck
        exact gq_iinc hx hb hl hlt hv hdec hk
      · cases hck
    · exact hs.elim
  case ifCond cd o0 =>
    unfold ck_e at hck
    simp only [Bool.and_eq_true] at hck
    obtain ⟨hk1, hck⟩ := hck
    match st, hs with
    | .int x :: s', hs =>
      split at hck
      · simp only [Bool.and_eq_true, beq_iff_eq, decide_eq_true_eq] at hck
        obtain ⟨⟨rfl, rfl⟩, hj⟩ := hck
        obtain ⟨tgt, ht, hj⟩ := hj1 hj
        exact gq_if hx hb hdec ht (fun w => hj _ _ _ _ _ _ w) (fun w => hn1 hk1 _ _ _ _ _ w) hs
      · cases hck
  case if_icmp cd o0 =>
    unfold ck_e at hck
    simp only [Bool.and_eq_true] at hck
    obtain ⟨hk1, hck⟩ := hck
    match st, hs with
    | .int y :: .int x :: s', hs =>
      split at hck
      · simp only [Bool.and_eq_true, beq_iff_eq, decide_eq_true_eq] at hck
        obtain ⟨⟨rfl, rfl⟩, hj⟩ := hck
        obtain ⟨tgt, ht, hj⟩ := hj1 hj
        exact gq_icmp hx hb hdec ht (fun w => hj _ _ _ _ _ _ w) (fun w => hn1 hk1 _ _ _ _ _ w) hs
      · cases hck
  case ifnull o0 =>
    unfold ck_e at hck
    simp only [Bool.and_eq_true] at hck
    obtain ⟨hk1, hck⟩ := hck
    match st, hs with
    | .ref x :: s', hs =>
      split at hck
      · simp only [Bool.and_eq_true, beq_iff_eq] at hck
        obtain ⟨rfl, hj⟩ := hck
        obtain ⟨tgt, ht, hj⟩ := hj1 hj
        exact gq_ifnull hx hb hdec ht (fun w => hj _ _ _ _ _ _ (hs.1 w)) (fun w => hn1 hk1 _ _ _ _ _ (hs.2 w))
      · cases hck
  case ifnonnull o0 =>
    unfold ck_e at hck
    simp only [Bool.and_eq_true] at hck
    obtain ⟨hk1, hck⟩ := hck
    match st, hs with
    | .ref x :: s', hs =>
      split at hck
      · simp only [Bool.and_eq_true, beq_iff_eq] at hck
        obtain ⟨rfl, hj⟩ := hck
        obtain ⟨tgt, ht, hj⟩ := hj1 hj
        exact gq_ifnonnull hx hb hdec ht (fun w => hj _ _ _ _ _ _ (hs.1 w)) (fun w => hn1 hk1 _ _ _ _ _ (hs.2 w))
      · cases hck
  case goto o0 =>
    simp only [ck_e] at hck
    split at hck
    · simp only [Bool.and_eq_true, beq_iff_eq] at hck
      obtain ⟨rfl, hj⟩ := hck
      obtain ⟨tgt, ht, hj⟩ := hj1 hj
      exact gq_goto hx hb hdec ht (hj _ _ _ _ _ _ hs)
    · cases hck
  case lookupswitch d0 ps0 =>
    simp only [ck_e] at hck
    match st, hs with
    | .int x :: s', hs =>
      split at hck
      · simp only [Bool.and_eq_true] at hck
        obtain ⟨⟨h1, h2⟩, h3⟩ := hck
        exact gq_sw (ea := ea) (tl := tl) (jp := jp) hx hb hjp hdec h1 h2 h3 hs
      · simp only [Bool.and_eq_true, decide_eq_true_eq] at hck
        obtain ⟨⟨h1, h2⟩, h3⟩ := hck
        exact gq_tsw (ea := ea) (tl := tl) (jp := jp) hx hb hjp hdec h1 h2 h3 hs
      · cases hck
  case getfield i0 =>
    unfold ck_e at hck
    simp only [Bool.and_eq_true] at hck
    obtain ⟨hk1, hck⟩ := hck
    match st, hs with
    | .ref k :: s', hs =>
      split at hck
      · rename_i idx C T N hcl
        simp only [Bool.and_eq_true, Bool.or_eq_true, beq_iff_eq, decide_eq_true_eq, Nat.blt_eq] at hck
        obtain ⟨⟨⟨⟨⟨⟨rfl, hea⟩, hl⟩, hTC⟩, h11⟩, hlen⟩, hty⟩ := hck
        obtain ⟨htag, hs⟩ := hs
        have hl2 : (Jvm.Cond.fieldLink mi.1.cls idx C (T ea).2.1 (T ea).2.2.1).before args s = true ∨ (Jvm.Cond.fieldLinkNest mi.1.cls idx C (T ea).2.1 (T ea).2.2.1 "FieldTower").before args s = true := by
          rcases hl with hl | hl
          · exact Or.inl (hts _ (tbA_in hl))
          · exact Or.inr (va_Nw.use rfl (hV.2.2.2.2.2.2.2 _ (tbB_in hl)))
        split at hty
        · rename_i hcode
          have hty : eb = 0 := by simpa using hty
          subst hty
          exact gq_getf (v := .int (hI h k ea)) hx hb hts ho hV hcl hlen h11 hea hTC htag (by rw [hcode]; rfl) hl2 hdec (hn1 hk1 _ _ _ _ _ hs)
        · rename_i hcode
          have hty : eb = 1 := by simpa using hty
          subst hty
          exact gq_getf (v := .long (hL h k ea)) hx hb hts ho hV hcl hlen h11 hea hTC htag (by rw [hcode]; rfl) hl2 hdec (hn1 hk1 _ _ _ _ _ hs)
        · rename_i hcode
          have hty : eb = 2 := by simpa using hty
          subst hty
          exact gq_getf (v := .ref (hR h k ea)) hx hb hts ho hV hcl hlen h11 hea hTC htag (by rw [hcode]; rfl) hl2 hdec (hn1 hk1 _ _ _ _ _ hs)
        · rename_i hcode
          have hty : eb = 0 := by simpa using hty
          subst hty
          exact gq_getf (v := .int (hI h k ea)) hx hb hts ho hV hcl hlen h11 hea hTC htag (by rw [hcode]; rfl) hl2 hdec (hn1 hk1 _ _ _ _ _ hs)
        · cases hty
      · cases hck
  case putfield i0 =>
    unfold ck_e at hck
    simp only [Bool.and_eq_true] at hck
    obtain ⟨hk1, hck⟩ := hck
    split at hck
    · rename_i idx C T N hcl
      simp only [Bool.and_eq_true, Bool.or_eq_true, beq_iff_eq, decide_eq_true_eq, Nat.blt_eq] at hck
      obtain ⟨⟨⟨⟨⟨⟨⟨⟨⟨rfl, hea⟩, hl⟩, hTC⟩, h11⟩, hlen⟩, hcode⟩, hfin⟩, hdc⟩, hrf⟩ := hck
      have hl2 := hts _ (tbA_in hl)
      have hfin2 : (T ea).2.2.2 = false ∨ ((T ea).2.2.2 = true ∧ meth.name = "<init>" ∧ C = mi.1.cls) := by
        rcases hfin with w | ⟨⟨w1, w2⟩, w3⟩
        · exact Or.inl w
        · exact Or.inr ⟨w1, hin w2, w3⟩
      match eb, st, hs, hcode, hdc, hrf with
      | 0, .int v :: .ref k :: s', hs, hcode, hdc, _ => exact gq_putI hx hb hts ho hV hcl hlen h11 hea hTC hs.1 hcode hdc hl2 hfin2 hdec (hn1 hk1 _ _ _ _ _ hs.2)
      | 1, .long v :: .ref k :: s', hs, hcode, hdc, _ => exact gq_putL hx hb hts ho hV hcl hlen h11 hea hTC hs.1 hcode hdc hl2 hfin2 hdec (hn1 hk1 _ _ _ _ _ hs.2)
      | 3, .int v :: .ref k :: s', hs, hcode, hdc, _ => exact gq_putZ hx hb hts ho hV hcl hlen h11 hea hTC hs.1.1 hs.1.2 hcode hdc hl2 hfin2 hdec (hn1 hk1 _ _ _ _ _ hs.2)
      | 2, .ref v :: .ref k :: s', hs, hcode, hdc, hrf =>
        have hrf2 : isRfT (parseFieldDescriptor (T ea).2.2.1) = true := by simpa using hrf
        unfold isRfT at hrf2
        split at hrf2
        · rename_i n hn
          exact gq_putR hx hb hts ho hV hcl hlen h11 hea hTC hs.1 hcode hn (Or.inl ⟨_, rfl⟩) hl2 hfin2 hdec (hn1 hk1 _ _ _ _ _ hs.2)
        · rename_i n hn
          exact gq_putR hx hb hts ho hV hcl hlen h11 hea hTC hs.1 hcode hn (Or.inr ⟨_, rfl⟩) hl2 hfin2 hdec (hn1 hk1 _ _ _ _ _ hs.2)
        · cases hrf2
    · cases hck
  case getstatic i0 =>
    unfold ck_e at hck
    simp only [Bool.and_eq_true] at hck
    obtain ⟨hk1, hck⟩ := hck
    split at hck
    · rename_i idx
      simp only [Bool.and_eq_true, Bool.or_eq_true, beq_iff_eq, Nat.blt_eq, Nat.ble_eq] at hck
      obtain ⟨⟨⟨rfl, h2⟩, h5⟩, hl⟩ := hck
      refine gq_gets (index := idx) hx hb hts ho hV hB hB2 h2 h5 ?_ hdec (hn1 hk1 _ _ _ _ _ hs)
      rcases hl with hl | hl
      · exact Or.inl (hts _ (tbA_in hl))
      · exact Or.inr (va_Nw.use rfl (hV.2.2.2.2.2.2.2 _ (tbB_in hl)))
    · cases hck
  case iaload =>
    change (ck_n mi ix' pc len && decide (raw = .iaload) && len == 1) = true at hck
    simp only [Bool.and_eq_true, Bool.or_eq_true, decide_eq_true_eq, beq_iff_eq, Nat.ble_eq, Nat.blt_eq] at hck
    obtain ⟨⟨hk1, rfl⟩, rfl⟩ := hck
    match st, hs with
    | .int i :: .ref k :: s', hs => exact gq_iald hx hb hV hB hB2 hs.1 hdec (hn1 hk1 _ _ _ _ _ hs.2)
  case baload =>
    change (ck_n mi ix' pc len && decide (raw = .baload) && len == 1) = true at hck
    simp only [Bool.and_eq_true, Bool.or_eq_true, decide_eq_true_eq, beq_iff_eq, Nat.ble_eq, Nat.blt_eq] at hck
    obtain ⟨⟨hk1, rfl⟩, rfl⟩ := hck
    match st, hs with
    | .int i :: .ref k :: s', hs => exact gq_bald hx hb hV hs.1 hdec (hn1 hk1 _ _ _ _ _ hs.2)
  case laload =>
    change (ck_n mi ix' pc len && decide (raw = .laload) && len == 1) = true at hck
    simp only [Bool.and_eq_true, Bool.or_eq_true, decide_eq_true_eq, beq_iff_eq, Nat.ble_eq, Nat.blt_eq] at hck
    obtain ⟨⟨hk1, rfl⟩, rfl⟩ := hck
    match st, hs with
    | .int i :: .ref k :: s', hs => exact gq_lald hx hb hV hs.1 hdec (hn1 hk1 _ _ _ _ _ hs.2)
  case aaload =>
    change (ck_n mi ix' pc len && decide (raw = .aaload) && len == 1) = true at hck
    simp only [Bool.and_eq_true, Bool.or_eq_true, decide_eq_true_eq, beq_iff_eq, Nat.ble_eq, Nat.blt_eq] at hck
    obtain ⟨⟨hk1, rfl⟩, rfl⟩ := hck
    match st, hs with
    | .int i :: .ref k :: s', hs => exact gq_aald hx hb hV hs.1 hdec (hn1 hk1 _ _ _ _ _ hs.2)
  case iastore =>
    change (ck_n mi ix' pc len && decide (raw = .iastore) && len == 1) = true at hck
    simp only [Bool.and_eq_true, Bool.or_eq_true, decide_eq_true_eq, beq_iff_eq, Nat.ble_eq, Nat.blt_eq] at hck
    obtain ⟨⟨hk1, rfl⟩, rfl⟩ := hck
    match st, hs with
    | .int x :: .int i :: .ref k :: s', hs => exact gq_iast hx hb hV hs.1.1 hs.1.2 hdec (hn1 hk1 _ _ _ _ _ hs.2)
  case bastore =>
    change (ck_n mi ix' pc len && decide (raw = .bastore) && len == 1) = true at hck
    simp only [Bool.and_eq_true, Bool.or_eq_true, decide_eq_true_eq, beq_iff_eq, Nat.ble_eq, Nat.blt_eq] at hck
    obtain ⟨⟨hk1, rfl⟩, rfl⟩ := hck
    match st, hs with
    | .int x :: .int i :: .ref k :: s', hs => exact gq_bast hx hb hV hs.1 hdec (hn1 hk1 _ _ _ _ _ hs.2)
  case lastore =>
    change (ck_n mi ix' pc len && decide (raw = .lastore) && len == 1) = true at hck
    simp only [Bool.and_eq_true, Bool.or_eq_true, decide_eq_true_eq, beq_iff_eq, Nat.ble_eq, Nat.blt_eq] at hck
    obtain ⟨⟨hk1, rfl⟩, rfl⟩ := hck
    match st, hs with
    | .long x :: .int i :: .ref k :: s', hs => exact gq_last hx hb hV hs.1 hdec (hn1 hk1 _ _ _ _ _ hs.2)
  case aastore =>
    change (ck_n mi ix' pc len && decide (raw = .aastore) && len == 1) = true at hck
    simp only [Bool.and_eq_true, Bool.or_eq_true, decide_eq_true_eq, beq_iff_eq, Nat.ble_eq, Nat.blt_eq] at hck
    obtain ⟨⟨hk1, rfl⟩, rfl⟩ := hck
    match st, hs with
    | .ref x :: .int i :: .ref k :: s', hs => exact gq_aast hx hb hts ho hV hs.1 hdec (hn1 hk1 _ _ _ _ _ hs.2)
  case arraylength =>
    change (ck_n mi ix' pc len && decide (raw = .arraylength) && len == 1) = true at hck
    simp only [Bool.and_eq_true, Bool.or_eq_true, decide_eq_true_eq, beq_iff_eq, Nat.ble_eq, Nat.blt_eq] at hck
    obtain ⟨⟨hk1, rfl⟩, rfl⟩ := hck
    match st, hs with
    | .ref k :: s', hs => exact gq_alen hx hb hV hB hB2 hs.1 hdec (hn1 hk1 _ _ _ _ _ hs.2)
  case new i0 =>
    simp only [ck_e, Bool.and_eq_true] at hck
    obtain ⟨hk1, hck⟩ := hck
    split at hck
    · rename_i idx C T N hcl
      simp only [Bool.and_eq_true, beq_iff_eq, decide_eq_true_eq, Nat.blt_eq] at hck
      obtain ⟨⟨⟨⟨rfl, rfl⟩, hl⟩, h11⟩, hlen⟩ := hck
      obtain ⟨hbb, hs⟩ := b_if_inv hs
      simp only [Bool.and_eq_true, Nat.ble_eq] at hbb
      exact gq_new hx hb hts ho hV hcl hlen h11 (hts _ (tbA_in hl)) hbb.1 hbb.2 hdec (hn1 hk1 _ _ _ _ _ hs)
    · cases hck
  case newarray i0 =>
    simp only [ck_e, Bool.and_eq_true] at hck
    obtain ⟨hk1, hck⟩ := hck
    split at hck
    · rename_i idx
      simp only [Bool.and_eq_true, beq_iff_eq, decide_eq_true_eq, Nat.ble_eq] at hck
      obtain ⟨⟨⟨⟨⟨rfl, rfl⟩, h20⟩, h23⟩, hty⟩, hbd⟩ := hck
      obtain ⟨hbb, hs⟩ := b_if_inv hs
      simp only [Bool.and_eq_true, Nat.ble_eq] at hbb
      obtain ⟨n, s', rfl, hs⟩ := s_i_inv hs
      exact gq_newa hx hb hts ho hV hty h20 h23 hs.1.1 hs.1.2 hbd hbb.1 hbb.2 hdec (hn1 hk1 _ _ _ _ _ hs.2)
    · cases hck
  case anewarray i0 =>
    simp only [ck_e, Bool.and_eq_true] at hck
    obtain ⟨hk1, hck⟩ := hck
    split at hck
    · rename_i idx
      simp only [Bool.and_eq_true, beq_iff_eq, decide_eq_true_eq, Nat.ble_eq] at hck
      obtain ⟨⟨⟨⟨rfl, h20⟩, h23⟩, hl⟩, hbd⟩ := hck
      obtain ⟨hbb, hs⟩ := b_if_inv hs
      simp only [Bool.and_eq_true, Nat.ble_eq] at hbb
      obtain ⟨n, s', rfl, hs⟩ := s_i_inv hs
      exact gq_newq hx hb hts ho hV h20 h23 (hts _ (tbA_in hl)) hs.1.1 hs.1.2 hbd hbb.1 hbb.2 hdec (hn1 hk1 _ _ _ _ _ hs.2)
    · cases hck
  case multianewarray i0 d0 =>
    simp only [ck_e, Bool.and_eq_true] at hck
    obtain ⟨hk1, hck⟩ := hck
    split at hck
    · rename_i idx
      simp only [Bool.and_eq_true, beq_iff_eq, Nat.ble_eq] at hck
      obtain ⟨⟨⟨rfl, hl⟩, hb1⟩, hb2⟩ := hck
      obtain ⟨hbb, hs⟩ := b_if_inv hs
      simp only [Bool.and_eq_true, Nat.ble_eq] at hbb
      obtain ⟨mm, s1, rfl, hs⟩ := s_i_inv hs
      obtain ⟨n, s2, rfl, hs⟩ := s_i_inv (st := s1) hs
      obtain ⟨⟨g1, g2, g3, g4⟩, hs⟩ := hs
      exact gq_mna hx hb hts ho hV (hts _ (tbA_in hl)) g1 g2 g3 g4 hb1 hb2 hbb.1 hbb.2 hdec (hn1 hk1 _ _ _ _ _ hs)
    · cases hck
  case ireturn =>
    simp only [ck_e, Bool.and_eq_true, Bool.or_eq_true, decide_eq_true_eq, beq_iff_eq] at hck
    obtain ⟨⟨rfl, rfl⟩, hty⟩ := hck
    obtain ⟨hbb, hs⟩ := b_if_inv hs
    simp only [Bool.and_eq_true, Nat.ble_eq] at hbb
    obtain ⟨x, s', rfl, hs⟩ := s_i_inv hs
    obtain ⟨rfl, hs⟩ := s_n_inv hs
    rcases c_eq_inv hs with ⟨rfl, hs⟩ | ⟨hne, hs⟩
    · rcases hty with ⟨w, -⟩ | ⟨-, hty⟩
      · cases w
      · intro H locs ls h1 h2 h3
        exact (hRt (.int x) h H locs ca sl ls pc hs.2 h1 h2 hbb.1 hbb.2).1 x rfl hdec (Or.inr ⟨hty, hs.1⟩)
    · rcases hty with ⟨-, hty⟩ | ⟨w, -⟩
      · intro H locs ls h1 h2 h3
        exact (hRt (.int x) h H locs ca sl ls pc hs h1 h2 hbb.1 hbb.2).1 x rfl hdec (Or.inl hty)
      · exact absurd w hne
  case lreturn =>
    simp only [ck_e, Bool.and_eq_true, decide_eq_true_eq, beq_iff_eq] at hck
    obtain ⟨⟨rfl, rfl⟩, hty⟩ := hck
    obtain ⟨hbb, hs⟩ := b_if_inv hs
    simp only [Bool.and_eq_true, Nat.ble_eq] at hbb
    obtain ⟨x, s', rfl, hs⟩ := s_l_inv hs
    obtain ⟨rfl, hs⟩ := s_n_inv hs
    intro H locs ls h1 h2 h3
    exact (hRt (.long x) h H locs ca sl ls pc hs h1 h2 hbb.1 hbb.2).2.1 x rfl hdec hty
  case return_ =>
    simp only [ck_e, Bool.and_eq_true, decide_eq_true_eq, beq_iff_eq] at hck
    obtain ⟨⟨rfl, rfl⟩, hty⟩ := hck
    obtain ⟨hbb, hs⟩ := b_if_inv hs
    simp only [Bool.and_eq_true, Nat.ble_eq] at hbb
    obtain ⟨rfl, hs⟩ := s_n_inv hs
    intro H locs ls h1 h2 h3
    exact (hRt .null h H locs ca sl ls pc hs h1 h2 hbb.1 hbb.2).2.2 rfl hdec hty
  case invokevirtual i0 =>
    simp only [ck_e, Bool.and_eq_true] at hck
    obtain ⟨hk1, hck⟩ := hck
    split at hck
    · rename_i idx cm0 hm0
      simp only [Bool.and_eq_true, beq_iff_eq, decide_eq_true_eq, Nat.ble_eq, Nat.blt_eq] at hck
      obtain ⟨⟨⟨⟨⟨⟨rfl, hcc⟩, heb⟩, hcl⟩, h11⟩, hsel⟩, hlk2⟩ := hck
      obtain ⟨cm, cq, hm, hq, hckc⟩ := ck_call_use hcc
      have hcm : cm0 = cm := Option.some.inj (hm0.symm.trans hm)
      subst hcm
      obtain ⟨⟨as0, s'⟩, hp, hs⟩ := p_if_inv hs
      obtain ⟨k, as, has, hs⟩ := s_r_inv hs
      have has : as0 = .ref k :: as := has
      subst has
      obtain ⟨hbb, hs⟩ := b_if_inv hs
      simp only [Bool.and_eq_true, Nat.ble_eq] at hbb
      obtain ⟨b, hb1, hb2, hb3⟩ := popn_eq _ _ _ _ _ hp
      rw [List.append_nil] at hb2
      have hb4 : b = as.reverse ++ [.ref k] := by
        have := congrArg List.reverse hb2
        simpa using this.symm
      subst hb4
      have hlen : as.length = eb - 1 := by
        have : as.length + 1 = eb := by simpa using hb3
        omega
      rw [hckc.2.2.2.2.2.2.2.1] at hbb hs
      obtain ⟨r0, hr0⟩ : ∃ r0, v_cl[tl_g tl]? = some r0 := by
        cases hv : v_cl[tl_g tl]? with
        | none => rw [hv] at hcl; cases hcl
        | some r0 => exact ⟨r0, rfl⟩
      rw [hr0] at hcl
      have hr1 : r0.1 = cm0.1.cls := Option.some.inj hcl
      rw [hb1]
      have := gq_callV (b := as.reverse) (rest := s') (K := fun r h' => nx pl (pshE ec r s') h' (ca + cq.2.1) (sl + cq.2.2)) (pl := pl) (h := h) (ca := ca) (sl := sl) (pc := pc) (Q := Q) hx hb hts ho hV hB hB2 hml hm hq hckc (tbA_in hlk2) (tbA_in hsel) hr0 hr1 h11 hs.1 (by simp [hlen]) (by rw [List.reverse_reverse]; exact hs.2) hbb.2 hbb.1.1 hbb.1.2 hdec (fun r h' hk => by
        have := hn1 hk1 _ _ _ _ _ hk
        rw [pshE_R hckc.2.2.2.2.2.2.2.2.1]
        exact this)
      simpa using this
    · cases hck
  case invokespecial i0 =>
    simp only [ck_e, Bool.and_eq_true] at hck
    obtain ⟨hk1, hck⟩ := hck
    split at hck
    · rename_i idx cm0 hm0
      simp only [Bool.and_eq_true, beq_iff_eq] at hck
      obtain ⟨rfl, hck⟩ := hck
      rcases c_eq_inv hs with ⟨rfl, hs⟩ | ⟨h9, hs⟩
      · rw [if_pos rfl] at hck
        simp only [Bool.and_eq_true, Nat.ble_eq] at hck
        obtain ⟨⟨hl, hfr⟩, hlo⟩ := hck
        obtain ⟨k, s', rfl, hs⟩ := s_r_inv hs
        obtain ⟨hbb, hs⟩ := b_if_inv hs
        exact gq_obj hx hb hts ho hV hml hs.1 (tbA_in hl) (by simpa using hbb) hfr hlo hdec (hn1 hk1 _ _ _ _ _ hs.2)
      · rw [if_neg h9] at hck
        simp only [Bool.and_eq_true, decide_eq_true_eq, Nat.ble_eq] at hck
        obtain ⟨⟨⟨⟨hcc, heb⟩, hnm⟩, hrn⟩, hlk2⟩ := hck
        obtain ⟨cm, cq, hm, hq, hckc⟩ := ck_call_use hcc
        have hcm : cm0 = cm := Option.some.inj (hm0.symm.trans hm)
        subst hcm
        obtain ⟨⟨as0, s'⟩, hp, hs⟩ := p_if_inv hs
        obtain ⟨k, as, has, hs⟩ := s_r_inv hs
        have has : as0 = .ref k :: as := has
        subst has
        obtain ⟨hbb, hs⟩ := b_if_inv hs
        simp only [Bool.and_eq_true, Nat.ble_eq] at hbb
        obtain ⟨b, hb1, hb2, hb3⟩ := popn_eq _ _ _ _ _ hp
        rw [List.append_nil] at hb2
        have hb4 : b = as.reverse ++ [.ref k] := by
          have := congrArg List.reverse hb2
          simpa using this.symm
        subst hb4
        have hlen : as.length = eb - 1 := by
          have : as.length + 1 = eb := by simpa using hb3
          omega
        rw [hckc.2.2.2.2.2.2.2.1] at hbb hs
        rw [hb1]
        have := gq_callI (b := as.reverse) (rest := s') (K := fun _ h' => nx pl s' h' (ca + cq.2.1) (sl + cq.2.2)) (pl := pl) (h := h) (ca := ca) (sl := sl) (pc := pc) (Q := Q) hx hb hts ho hV hB hB2 hml hm hq hckc (tbA_in hlk2) hnm hrn hs.1 (by simp [hlen]) (by rw [List.reverse_reverse]; exact hs.2) hbb.2 hbb.1.1 hbb.1.2 hdec (fun r h' hk => by
          have := hn1 hk1 _ _ _ _ _ hk
          rw [hrn]
          exact this)
        simpa using this
    · cases hck
  case invokestatic i0 =>
    simp only [ck_e, Bool.and_eq_true] at hck
    obtain ⟨hk1, hck⟩ := hck
    split at hck
    · rename_i idx
      simp only [Bool.and_eq_true, beq_iff_eq] at hck
      obtain ⟨rfl, hck⟩ := hck
      rcases c_eq_inv hs with ⟨rfl, hs⟩ | ⟨h8, hs⟩
      · rw [if_pos rfl] at hck
        simp only [Bool.and_eq_true, Nat.ble_eq] at hck
        obtain ⟨⟨hl, hfr⟩, hlo⟩ := hck
        obtain ⟨n, s1, rfl, hs⟩ := s_i_inv hs
        obtain ⟨dp, s2, rfl, hs⟩ := s_i_inv (st := s1) hs
        obtain ⟨k1, s3, rfl, hs⟩ := s_r_inv (st := s2) hs
        obtain ⟨sp, s4, rfl, hs⟩ := s_i_inv (st := s3) hs
        obtain ⟨k0, s5, rfl, hs⟩ := s_r_inv (st := s4) hs
        obtain ⟨hbb, hs⟩ := b_if_inv hs
        obtain ⟨⟨g1, g2, g3, g4, g5, g6, g7, g8⟩, hs⟩ := hs
        exact gq_acp hx hb hts ho hV hB hB2 hml (by simpa using hbb) g1 g2 g3 g4 g5 g6 g7 g8 (hts _ (tbA_in hl)) hfr hlo hdec (hn1 hk1 _ _ _ _ _ hs)
      · rw [if_neg h8] at hck
        obtain ⟨cm, cq, hm, hq, hckc⟩ := ck_call_use hck
        obtain ⟨⟨as, s'⟩, hp, hs⟩ := p_if_inv hs
        obtain ⟨hbb, hs⟩ := b_if_inv hs
        simp only [Bool.and_eq_true, Nat.ble_eq] at hbb
        obtain ⟨b, hb1, hb2, hb3⟩ := popn_eq _ _ _ _ _ hp
        rw [List.append_nil] at hb2
        subst hb2
        rw [hckc.2.2.2.2.2.2.2.1] at hbb hs
        rw [hb1]
        exact gq_callS (b := b) (rest := s') (K := fun r h' => nx pl (pshE ec r s') h' (ca + cq.2.1) (sl + cq.2.2)) (pl := pl) (h := h) (ca := ca) (sl := sl) (pc := pc) (Q := Q) hx hb hts ho hV hB hB2 hml hm hq hckc hb3 hs hbb.2 hbb.1.1 hbb.1.2 hdec (fun r h' hk => by
          have := hn1 hk1 _ _ _ _ _ hk
          rw [pshE_R hckc.2.2.2.2.2.2.2.2.1]
          exact this)
    · cases hck
  all_goals exact hs.elim
end
section
/-! THE SEMANTICS: what the transformer gives, and the machine keeps -/
def entL : List Value → Nat → PL
  | [], n => List.replicate n none
  | .long x :: l, n => some (.long x) :: none :: entL l (n - 2)
  | .double x :: l, n => some (.double x) :: none :: entL l (n - 2)
  | v :: l, n => some v :: entL l (n - 1)
/-- what a semantics of methods keeps: a place by the transformer, a method by its first place, fewer known locals, more at the end -/
def SysOK (P : PSem) : Prop :=
  (∀ (i ix : Nat) (q : List Ent × Nat × Nat) (stops : List Nat) (f : Nat) (pl : PL) (st : List Value) (h : PH) (ca sl : Nat) (K : PK), progs[i]? = some q → wp P i q.2.1 q.2.2 q.1 stops K f (q.1.drop ix) pl st h ca sl → P.2 i ix pl st h ca sl K) ∧
  (∀ (i n : Nat) (as : List Value) (h : PH) (K : PK), mxl[i]? = some n → Nat.ble (ctg as) n = true → P.2 i 0 (entL as n) [] h 0 0 K → P.1 i as h K) ∧
  (∀ (i ix : Nat) (pl pl' : PL) (st : List Value) (h : PH) (ca sl : Nat) (K : PK), (∀ (j : Nat) (v : Value), pl'[j]? = some (some v) → pl[j]? = some (some v)) → P.2 i ix pl' st h ca sl K → P.2 i ix pl st h ca sl K) ∧
  (∀ (i ix : Nat) (pl : PL) (st : List Value) (h : PH) (ca sl : Nat) (K K' : PK), (∀ r h, K r h → K' r h) → P.2 i ix pl st h ca sl K → P.2 i ix pl st h ca sl K')
theorem drop_at {α : Type} {l r : List α} {a : α} {ix : Nat} (h : l.drop ix = a :: r) : l[ix]? = some a ∧ l.drop (ix + 1) = r := by
  have h1 : (l.drop ix)[0]? = some a := by rw [h]; rfl
  rw [List.getElem?_drop] at h1
  refine ⟨by simpa using h1, ?_⟩
  have h2 : (l.drop ix).drop 1 = r := by rw [h]; rfl
  rw [List.drop_drop] at h2
  rwa [Nat.add_comm] at h2 ⊢
theorem GLp.mk {G : GW} {mi : MI} {mc ms : Nat} {p : Program} {l : Launch} {e : Env} {s : State} {m : MethodId} {args : Array Value} {below : List Frame} {meth : Method} {c : Code} {Q : State → Prop} {pc : Nat} {pl : PL} {st : List Value} {h : PH} {ca sl : Nat} {mm : List (Int32 × Nat)} (k : GLp G mi mc ms p l e s m args below meth c Q pc (lmk mm pl) st h ca sl) : GLp G mi mc ms p l e s m args below meth c Q pc pl st h ca sl := fun H locs ls h1 h2 h3 => k H locs ls h1 h2 (h3.mk mm)
theorem wp_ok {i : Nat} {stops : List Nat} {G : GW} {mi : MI} {q : List Ent × Nat × Nat} {p : Program} {l : Launch} {e : Env} {s : State} {m : MethodId} {args : Array Value} {below : List Frame} {meth : Method} {c : Code} {Q : State → Prop} {K : PK}
    (hq : progs[i]? = some q) (hm : mis[i]? = some mi) (hk : CkM i)
    (hC : CXm mi p s m args meth c) (hV : VRl G s) (hB : G.2.2.2.1.size ≤ s.heap.size) (hB2 : ∀ q, q < G.2.2.2.1.size → s.heap[q]? = G.2.2.2.1[q]?) (hRt : ROK G mi q.2.1 q.2.2 K p l e (rmU mi q.2.1 q.2.2) s m args below meth c Q) :
    ∀ (f ix : Nat) (pl : PL) (st : List Value) (h : PH) (ca sl : Nat), wp PSd i q.2.1 q.2.2 q.1 stops K f (q.1.drop ix) pl st h ca sl → ∀ x, pcA mi ix = some x → GLp G mi q.2.1 q.2.2 p l e s m args below meth c Q x.1 pl st h ca sl := by
  obtain ⟨hlen, -, hck, -⟩ := hk mi q hm hq
  have hpw : ∀ (ix : Nat) (pl : PL) (st : List Value) (h : PH) (ca sl : Nat), PWd i ix pl st h ca sl K → ∀ x, pcA mi ix = some x → GLp G mi q.2.1 q.2.2 p l e s m args below meth c Q x.1 pl st h ca sl := fun ix pl st h ca sl hs x hx H locs ls h1 h2 h3 => hs q mi x hq hm hx l G p e s m args below meth c H locs ls Q hC h1 hV h2 hB hB2 h3 hRt
  intro f
  induction f with
  | zero =>
    intro ix pl st h ca sl hs x hx
    cases hd : q.1.drop ix with
    | nil => rw [hd] at hs; exact hs.elim
    | cons en rest =>
      rw [hd] at hs
      obtain ⟨he, hr⟩ := drop_at hd
      have hl : ix < q.1.length := (List.getElem?_eq_some_iff.mp he).1
      obtain ⟨-, h2, -⟩ := ck_at_use (hck ix hl) hx he
      have hs : PWd i en.1 pl st h ca sl K := hs
      rw [h2] at hs
      exact hpw ix pl st h ca sl hs x hx
  | succ f ih =>
    intro ix pl st h ca sl hs x hx
    cases hd : q.1.drop ix with
    | nil => rw [hd] at hs; exact hs.elim
    | cons en rest =>
      rw [hd] at hs
      obtain ⟨he, hr⟩ := drop_at hd
      have hl : ix < q.1.length := (List.getElem?_eq_some_iff.mp he).1
      obtain ⟨h1, h2, h3⟩ := ck_at_use (hck ix hl) hx he
      refine stp_ok hC hV hB hB2 hRt h1 h2 h3 ?_ ?_ hs
      · intro pl st h ca sl hn y hy
        cases hrest : rest with
        | nil => rw [hrest] at hn; exact hn.elim
        | cons e2 r2 =>
          rw [hrest] at hn
          cases hb : isn stops e2.1 with
          | true =>
            have hn : PWd i e2.1 pl st h ca sl K := by
              simp only [hb] at hn
              exact hn
            have hd2 : q.1.drop (ix + 1) = e2 :: r2 := by rw [hr, hrest]
            obtain ⟨he2, -⟩ := drop_at hd2
            have hl2 : ix + 1 < q.1.length := (List.getElem?_eq_some_iff.mp he2).1
            obtain ⟨-, g2, -⟩ := ck_at_use (hck (ix + 1) hl2) hy he2
            rw [g2] at hn
            exact hpw _ _ _ _ _ _ hn y hy
          | false =>
            have hn : wp PSd i q.2.1 q.2.2 q.1 stops K f (e2 :: r2) pl st h ca sl := by
              simp only [hb] at hn
              exact hn
            rw [← hrest, ← hr] at hn
            exact ih (ix + 1) pl st h ca sl hn y hy
      · intro t mm pl st h ca sl hn y hy
        cases hb : Nat.ble t en.1 || isn stops t with
        | true =>
          have hn : PWd i t (lmk mm pl) st h ca sl K := by
            simp only [hb] at hn
            exact hn
          exact (hpw _ _ _ _ _ _ hn y hy).mk
        | false =>
          have hn : wp PSd i q.2.1 q.2.2 q.1 stops K f (q.1.drop t) pl st h ca sl := by
            simp only [hb] at hn
            exact hn
          exact ih t pl st h ca sl hn y hy
theorem ROK.mono {G : GW} {mi : MI} {mc ms : Nat} {K K' : PK} {p : Program} {l : Launch} {e : Env} {R : Room} {s : State} {m : MethodId} {args : Array Value} {below : List Frame} {meth : Method} {c : Code} {Q : State → Prop} (hK : ∀ r h, K r h → K' r h) (h : ROK G mi mc ms K' p l e R s m args below meth c Q) : ROK G mi mc ms K p l e R s m args below meth c Q :=
  fun r hh H locs ca sl ls pc k => h r hh H locs ca sl ls pc (hK _ _ k)
theorem entL_get {G : GW} : ∀ (as : List Value) (n o i : Nat) (v : Value), (entL as n)[i]? = some (some v) → (o + i, tv G v) ∈ lv_args o (as.map (tv G))
  | [], n, o, i, v, h => by
    unfold entL at h
    rw [List.getElem?_replicate] at h
    split at h <;> cases h
  | a :: as, n, o, i, v, h => by
    have one : a.category = 1 → entL (a :: as) n = some a :: entL as (n - 1) → (o + i, tv G v) ∈ lv_args o ((a :: as).map (tv G)) := fun hc he => by
      rw [he] at h
      have hca : (tv G a).category = 1 := by rw [tv_cat]; exact hc
      rw [List.map_cons]
      unfold lv_args
      cases i with
      | zero =>
        cases h
        exact List.mem_cons_self
      | succ i =>
        refine List.mem_cons_of_mem _ ?_
        have := entL_get (G := G) as (n - 1) (o + 1) i v h
        rw [show o + (i + 1) = o + 1 + i by omega]
        simpa [hca] using this
    have two : a.category = 2 → entL (a :: as) n = some a :: none :: entL as (n - 2) → (o + i, tv G v) ∈ lv_args o ((a :: as).map (tv G)) := fun hc he => by
      rw [he] at h
      have hca : (tv G a).category = 2 := by rw [tv_cat]; exact hc
      rw [List.map_cons]
      unfold lv_args
      match i, h with
      | 0, h =>
        cases h
        exact List.mem_cons_self
      | 1, h => cases h
      | i + 2, h =>
        refine List.mem_cons_of_mem _ ?_
        have := entL_get (G := G) as (n - 2) (o + 2) i v h
        rw [show o + (i + 2) = o + 2 + i by omega]
        simpa [hca] using this
    cases a with
    | long x => exact two rfl rfl
    | double x => exact two rfl rfl
    | _ => exact one rfl rfl
theorem lg_sl_len {G : GW} : ∀ as : List Value, (lg_sl (as.map (tv G))).length = ctg as
  | [] => rfl
  | a :: as => by
    have ih := lg_sl_len (G := G) as
    have e : lg_sl ((a :: as).map (tv G)) = (if (tv G a).category = 2 then [.val (tv G a), .second] else [.val (tv G a)]) ++ lg_sl (as.map (tv G)) := by
      simp [lg_sl]
    rw [e, List.length_append, ih, tv_cat]
    cases a <;> rfl
/-- the machine is such a semantics, where all methods are checked -/
theorem sys_ok (hck : ∀ i, CkM i) (hmx : ∀ (i n : Nat) (mi : MI), mxl[i]? = some n → mis[i]? = some mi → mi.2.2.1 = n) : SysOK PSd := by
  refine ⟨?_, ?_, ?_, ?_⟩
  · intro i ix q stops f pl st h ca sl K hq hw q' mi x hq' hm hx l G p e s m args below meth c H locs ls Q hC h1 hV h2 hB hB2 h3 hRt
    have eq : q = q' := Option.some.inj (hq.symm.trans hq')
    subst eq
    exact wp_ok hq hm (hck i) hC hV hB hB2 hRt f ix pl st h ca sl hw x hx H locs ls h1 h2 h3
  · intro i n as h K hn hct hw l G q mi hq hm
    have hmn := hmx i n mi hn hm
    obtain ⟨hlen, hpn, hck0, hx0⟩ := hck i mi q hm hq
    have hct : ctg as ≤ n := by simpa using hct
    refine va_MetF (cc := mi.2.1) (maxL := mi.2.2.1) (ret := mi.2.2.2.1) hpn rfl ?_
    intro p e s m args below meth c s₁ B hml hv
    obtain ⟨rfl, hH, hV⟩ := hv
    have hts := atoms_spec (ws := wsU mi) B.pre
    have hown : s.vm.findClass mi.1.cls = some m.cls := findClass_of_methodNamed B.named
    have hnm := (name_of_methodNamed B.named B.method).1
    have hr := B.returns
    have hlocks := B.notSynchronized
    have hC : CXm mi p s m ((as.map (tv G)).toArray) meth c := ⟨B.exec, B.bytes, hml, fun w hw => hts w (List.mem_cons_of_mem _ hw), hown, hlocks, fun w => by rw [hnm, w]⟩
    have hB : G.2.2.2.1.size ≤ s.heap.size := by rw [hH.2.2.1]; omega
    have hl := lv_entry (as.map (tv G)) (n := mi.2.2.1) (by rw [lg_sl_len, hmn]; exact hct)
    rw [lg_entry_eq]
    have h3 : LRl G (entL as n) ((lg_sl (as.map (tv G)) ++ List.replicate (mi.2.2.1 - (lg_sl (as.map (tv G))).length) Slot.unset).toArray) mi.2.2.1 := ⟨hl.1, hl.2.1, fun j v hj => hl.2.2 (j, tv G v) (by have := entL_get (G := G) as n 0 j v hj; rwa [Nat.zero_add] at this)⟩
    obtain ⟨x, hx0, hx1⟩ := hx0
    have := hw q mi x hq hm hx0 l G p e s m _ below meth c s.heap [] _ (MQ below (QcU G mi.2.2.2.1 K) ((as.map (tv G)).toArray) s q.2.1 q.2.2 (AA G)) hC hH hV va_S.rf hB hH.2.2.2.1 h3 ?_
    · rw [hx1] at this
      exact this
    · intro r h' H locs ca sl ls pc hK h1 h2 hca hsl
      have fin : ∀ (t : State), t.heap = H → ∀ o, o = Outcome.returned (match mi.2.2.2.1 with | none => none | some _ => some (tv G r)) → QcU G mi.2.2.2.1 K ((as.map (tv G)).toArray) s o t := fun t ht o ho => ⟨by rw [ht]; exact h2.1, r, h', hK, ho, by rw [ht]; exact h1⟩
      refine ⟨?_, ?_, ?_⟩
      · rintro y rfl hd hty
        refine W.widen (k := q.2.1) (n := q.2.2) hca hsl ?_
        rcases hty with hty | ⟨hty, hz⟩
        · exact W.iret B.exec B.bytes (by rw [hr, hty]) (fun t ht _ => fin t ht _ (by rw [hty]; rfl)) h2.2.2 hd
        · exact W.zret (ty := .boolean) B.exec B.bytes (by rw [hr, hty]) (by rcases hz with rfl | rfl <;> rfl) (fun t ht _ => fin t ht _ (by rw [hty]; rfl)) h2.2.2 hd
      · rintro y rfl hd hty
        refine W.widen (k := q.2.1) (n := q.2.2) hca hsl ?_
        exact W.lret B.exec B.bytes (by rw [hr, hty]) (fun t ht _ => fin t ht _ (by rw [hty]; rfl)) h2.2.2 hd
      · rintro rfl hd hty
        refine W.widen (k := q.2.1) (n := q.2.2) hca hsl ?_
        exact W.vret B.exec B.bytes (by rw [hr, hty]) (fun t ht _ => fin t ht _ (by rw [hty])) h2.2.2 hd
  · intro i ix pl pl' st h ca sl K hle hw q mi x hq hm hx l G p e s m args below meth c H locs ls Q hC h1 hV h2 hB hB2 h3 hRt
    exact hw q mi x hq hm hx l G p e s m args below meth c H locs ls Q hC h1 hV h2 hB hB2 ⟨h3.1, h3.2.1, fun j v hj => h3.2.2 j v (hle j v hj)⟩ hRt
  · intro i ix pl st h ca sl K K' hle hw q mi x hq hm hx l G p e s m args below meth c H locs ls Q hC h1 hV h2 hB hB2 h3 hRt
    exact hw q mi x hq hm hx l G p e s m args below meth c H locs ls Q hC h1 hV h2 hB hB2 h3 (hRt.mono hle)
end
section
/-! printed: the checks of methods 0 .. -/
theorem ckl_0 : ck_l 0 = true := by decide +kernel
theorem ckr_0_0 : ck_r 0 0 50 = true := by decide +kernel
theorem ckr_0_50 : ck_r 0 50 7 = true := by decide +kernel
theorem ckm_0 : CkM 0 := ckM_of (n := 57) ckl_0 (ck_r_app (n1 := 50) (n2 := 7) ckr_0_0 ckr_0_50) (by decide +kernel)
theorem ckl_1 : ck_l 1 = true := by decide +kernel
theorem ckr_1_0 : ck_r 1 0 7 = true := by decide +kernel
theorem ckm_1 : CkM 1 := ckM_of (n := 7) ckl_1 ckr_1_0 (by decide +kernel)
theorem ckl_2 : ck_l 2 = true := by decide +kernel
theorem ckr_2_0 : ck_r 2 0 50 = true := by decide +kernel
theorem ckr_2_50 : ck_r 2 50 22 = true := by decide +kernel
theorem ckm_2 : CkM 2 := ckM_of (n := 72) ckl_2 (ck_r_app (n1 := 50) (n2 := 22) ckr_2_0 ckr_2_50) (by decide +kernel)
theorem ckl_3 : ck_l 3 = true := by decide +kernel
theorem ckr_3_0 : ck_r 3 0 11 = true := by decide +kernel
theorem ckm_3 : CkM 3 := ckM_of (n := 11) ckl_3 ckr_3_0 (by decide +kernel)
theorem ckl_4 : ck_l 4 = true := by decide +kernel
theorem ckr_4_0 : ck_r 4 0 20 = true := by decide +kernel
theorem ckm_4 : CkM 4 := ckM_of (n := 20) ckl_4 ckr_4_0 (by decide +kernel)
theorem ckl_5 : ck_l 5 = true := by decide +kernel
theorem ckr_5_0 : ck_r 5 0 12 = true := by decide +kernel
theorem ckm_5 : CkM 5 := ckM_of (n := 12) ckl_5 ckr_5_0 (by decide +kernel)
theorem ckl_6 : ck_l 6 = true := by decide +kernel
theorem ckr_6_0 : ck_r 6 0 9 = true := by decide +kernel
theorem ckm_6 : CkM 6 := ckM_of (n := 9) ckl_6 ckr_6_0 (by decide +kernel)
theorem ckl_7 : ck_l 7 = true := by decide +kernel
theorem ckr_7_0 : ck_r 7 0 23 = true := by decide +kernel
theorem ckm_7 : CkM 7 := ckM_of (n := 23) ckl_7 ckr_7_0 (by decide +kernel)
theorem ckl_8 : ck_l 8 = true := by decide +kernel
theorem ckr_8_0 : ck_r 8 0 11 = true := by decide +kernel
theorem ckm_8 : CkM 8 := ckM_of (n := 11) ckl_8 ckr_8_0 (by decide +kernel)
theorem ckl_9 : ck_l 9 = true := by decide +kernel
theorem ckr_9_0 : ck_r 9 0 42 = true := by decide +kernel
theorem ckm_9 : CkM 9 := ckM_of (n := 42) ckl_9 ckr_9_0 (by decide +kernel)
theorem ckl_10 : ck_l 10 = true := by decide +kernel
theorem ckr_10_0 : ck_r 10 0 33 = true := by decide +kernel
theorem ckm_10 : CkM 10 := ckM_of (n := 33) ckl_10 ckr_10_0 (by decide +kernel)
theorem ckl_11 : ck_l 11 = true := by decide +kernel
theorem ckr_11_0 : ck_r 11 0 26 = true := by decide +kernel
theorem ckm_11 : CkM 11 := ckM_of (n := 26) ckl_11 ckr_11_0 (by decide +kernel)
theorem ckl_12 : ck_l 12 = true := by decide +kernel
theorem ckr_12_0 : ck_r 12 0 20 = true := by decide +kernel
theorem ckm_12 : CkM 12 := ckM_of (n := 20) ckl_12 ckr_12_0 (by decide +kernel)
theorem ckl_13 : ck_l 13 = true := by decide +kernel
theorem ckr_13_0 : ck_r 13 0 50 = true := by decide +kernel
theorem ckr_13_50 : ck_r 13 50 26 = true := by decide +kernel
theorem ckm_13 : CkM 13 := ckM_of (n := 76) ckl_13 (ck_r_app (n1 := 50) (n2 := 26) ckr_13_0 ckr_13_50) (by decide +kernel)
theorem ckl_14 : ck_l 14 = true := by decide +kernel
theorem ckr_14_0 : ck_r 14 0 50 = true := by decide +kernel
theorem ckr_14_50 : ck_r 14 50 40 = true := by decide +kernel
theorem ckm_14 : CkM 14 := ckM_of (n := 90) ckl_14 (ck_r_app (n1 := 50) (n2 := 40) ckr_14_0 ckr_14_50) (by decide +kernel)
theorem ckl_15 : ck_l 15 = true := by decide +kernel
theorem ckr_15_0 : ck_r 15 0 4 = true := by decide +kernel
theorem ckm_15 : CkM 15 := ckM_of (n := 4) ckl_15 ckr_15_0 (by decide +kernel)
theorem ckl_16 : ck_l 16 = true := by decide +kernel
theorem ckr_16_0 : ck_r 16 0 49 = true := by decide +kernel
theorem ckm_16 : CkM 16 := ckM_of (n := 49) ckl_16 ckr_16_0 (by decide +kernel)
theorem ckl_17 : ck_l 17 = true := by decide +kernel
theorem ckr_17_0 : ck_r 17 0 20 = true := by decide +kernel
theorem ckm_17 : CkM 17 := ckM_of (n := 20) ckl_17 ckr_17_0 (by decide +kernel)
theorem ckl_18 : ck_l 18 = true := by decide +kernel
theorem ckr_18_0 : ck_r 18 0 16 = true := by decide +kernel
theorem ckm_18 : CkM 18 := ckM_of (n := 16) ckl_18 ckr_18_0 (by decide +kernel)
theorem ckl_19 : ck_l 19 = true := by decide +kernel
theorem ckr_19_0 : ck_r 19 0 20 = true := by decide +kernel
theorem ckm_19 : CkM 19 := ckM_of (n := 20) ckl_19 ckr_19_0 (by decide +kernel)
theorem ckl_20 : ck_l 20 = true := by decide +kernel
theorem ckr_20_0 : ck_r 20 0 50 = true := by decide +kernel
theorem ckr_20_50 : ck_r 20 50 26 = true := by decide +kernel
theorem ckm_20 : CkM 20 := ckM_of (n := 76) ckl_20 (ck_r_app (n1 := 50) (n2 := 26) ckr_20_0 ckr_20_50) (by decide +kernel)
theorem ckl_21 : ck_l 21 = true := by decide +kernel
theorem ckr_21_0 : ck_r 21 0 20 = true := by decide +kernel
theorem ckm_21 : CkM 21 := ckM_of (n := 20) ckl_21 ckr_21_0 (by decide +kernel)
theorem ckl_22 : ck_l 22 = true := by decide +kernel
theorem ckr_22_0 : ck_r 22 0 45 = true := by decide +kernel
theorem ckm_22 : CkM 22 := ckM_of (n := 45) ckl_22 ckr_22_0 (by decide +kernel)
theorem ckl_23 : ck_l 23 = true := by decide +kernel
theorem ckr_23_0 : ck_r 23 0 18 = true := by decide +kernel
theorem ckm_23 : CkM 23 := ckM_of (n := 18) ckl_23 ckr_23_0 (by decide +kernel)
theorem ckl_24 : ck_l 24 = true := by decide +kernel
theorem ckr_24_0 : ck_r 24 0 50 = true := by decide +kernel
theorem ckr_24_50 : ck_r 24 50 33 = true := by decide +kernel
theorem ckm_24 : CkM 24 := ckM_of (n := 83) ckl_24 (ck_r_app (n1 := 50) (n2 := 33) ckr_24_0 ckr_24_50) (by decide +kernel)
theorem ckl_25 : ck_l 25 = true := by decide +kernel
theorem ckr_25_0 : ck_r 25 0 13 = true := by decide +kernel
theorem ckm_25 : CkM 25 := ckM_of (n := 13) ckl_25 ckr_25_0 (by decide +kernel)
theorem ckl_26 : ck_l 26 = true := by decide +kernel
theorem ckr_26_0 : ck_r 26 0 18 = true := by decide +kernel
theorem ckm_26 : CkM 26 := ckM_of (n := 18) ckl_26 ckr_26_0 (by decide +kernel)
theorem ckl_27 : ck_l 27 = true := by decide +kernel
theorem ckr_27_0 : ck_r 27 0 34 = true := by decide +kernel
theorem ckm_27 : CkM 27 := ckM_of (n := 34) ckl_27 ckr_27_0 (by decide +kernel)
theorem ckl_28 : ck_l 28 = true := by decide +kernel
theorem ckr_28_0 : ck_r 28 0 37 = true := by decide +kernel
theorem ckm_28 : CkM 28 := ckM_of (n := 37) ckl_28 ckr_28_0 (by decide +kernel)
theorem ckl_29 : ck_l 29 = true := by decide +kernel
theorem ckr_29_0 : ck_r 29 0 50 = true := by decide +kernel
theorem ckm_29 : CkM 29 := ckM_of (n := 50) ckl_29 ckr_29_0 (by decide +kernel)
theorem ckl_30 : ck_l 30 = true := by decide +kernel
theorem ckr_30_0 : ck_r 30 0 50 = true := by decide +kernel
theorem ckr_30_50 : ck_r 30 50 6 = true := by decide +kernel
theorem ckm_30 : CkM 30 := ckM_of (n := 56) ckl_30 (ck_r_app (n1 := 50) (n2 := 6) ckr_30_0 ckr_30_50) (by decide +kernel)
theorem ckl_31 : ck_l 31 = true := by decide +kernel
theorem ckr_31_0 : ck_r 31 0 28 = true := by decide +kernel
theorem ckm_31 : CkM 31 := ckM_of (n := 28) ckl_31 ckr_31_0 (by decide +kernel)
theorem ckl_32 : ck_l 32 = true := by decide +kernel
theorem ckr_32_0 : ck_r 32 0 33 = true := by decide +kernel
theorem ckm_32 : CkM 32 := ckM_of (n := 33) ckl_32 ckr_32_0 (by decide +kernel)
theorem ckl_33 : ck_l 33 = true := by decide +kernel
theorem ckr_33_0 : ck_r 33 0 10 = true := by decide +kernel
theorem ckm_33 : CkM 33 := ckM_of (n := 10) ckl_33 ckr_33_0 (by decide +kernel)
theorem ckl_34 : ck_l 34 = true := by decide +kernel
theorem ckr_34_0 : ck_r 34 0 17 = true := by decide +kernel
theorem ckm_34 : CkM 34 := ckM_of (n := 17) ckl_34 ckr_34_0 (by decide +kernel)
theorem ckl_35 : ck_l 35 = true := by decide +kernel
theorem ckr_35_0 : ck_r 35 0 24 = true := by decide +kernel
theorem ckm_35 : CkM 35 := ckM_of (n := 24) ckl_35 ckr_35_0 (by decide +kernel)
theorem ckl_36 : ck_l 36 = true := by decide +kernel
theorem ckr_36_0 : ck_r 36 0 16 = true := by decide +kernel
theorem ckm_36 : CkM 36 := ckM_of (n := 16) ckl_36 ckr_36_0 (by decide +kernel)
theorem ckl_37 : ck_l 37 = true := by decide +kernel
theorem ckr_37_0 : ck_r 37 0 30 = true := by decide +kernel
theorem ckm_37 : CkM 37 := ckM_of (n := 30) ckl_37 ckr_37_0 (by decide +kernel)
theorem ckl_38 : ck_l 38 = true := by decide +kernel
theorem ckr_38_0 : ck_r 38 0 25 = true := by decide +kernel
theorem ckm_38 : CkM 38 := ckM_of (n := 25) ckl_38 ckr_38_0 (by decide +kernel)
theorem ckl_39 : ck_l 39 = true := by decide +kernel
theorem ckr_39_0 : ck_r 39 0 22 = true := by decide +kernel
theorem ckm_39 : CkM 39 := ckM_of (n := 22) ckl_39 ckr_39_0 (by decide +kernel)
theorem ckl_40 : ck_l 40 = true := by decide +kernel
theorem ckr_40_0 : ck_r 40 0 50 = true := by decide +kernel
theorem ckr_40_50 : ck_r 40 50 32 = true := by decide +kernel
theorem ckm_40 : CkM 40 := ckM_of (n := 82) ckl_40 (ck_r_app (n1 := 50) (n2 := 32) ckr_40_0 ckr_40_50) (by decide +kernel)
theorem ckl_41 : ck_l 41 = true := by decide +kernel
theorem ckr_41_0 : ck_r 41 0 10 = true := by decide +kernel
theorem ckm_41 : CkM 41 := ckM_of (n := 10) ckl_41 ckr_41_0 (by decide +kernel)
theorem ckA_0 : ∀ j, j < 42 → CkM (0 + j) := by
  intro j hj
  match j, hj with
  | 0, _ => exact ckm_0
  | 1, _ => exact ckm_1
  | 2, _ => exact ckm_2
  | 3, _ => exact ckm_3
  | 4, _ => exact ckm_4
  | 5, _ => exact ckm_5
  | 6, _ => exact ckm_6
  | 7, _ => exact ckm_7
  | 8, _ => exact ckm_8
  | 9, _ => exact ckm_9
  | 10, _ => exact ckm_10
  | 11, _ => exact ckm_11
  | 12, _ => exact ckm_12
  | 13, _ => exact ckm_13
  | 14, _ => exact ckm_14
  | 15, _ => exact ckm_15
  | 16, _ => exact ckm_16
  | 17, _ => exact ckm_17
  | 18, _ => exact ckm_18
  | 19, _ => exact ckm_19
  | 20, _ => exact ckm_20
  | 21, _ => exact ckm_21
  | 22, _ => exact ckm_22
  | 23, _ => exact ckm_23
  | 24, _ => exact ckm_24
  | 25, _ => exact ckm_25
  | 26, _ => exact ckm_26
  | 27, _ => exact ckm_27
  | 28, _ => exact ckm_28
  | 29, _ => exact ckm_29
  | 30, _ => exact ckm_30
  | 31, _ => exact ckm_31
  | 32, _ => exact ckm_32
  | 33, _ => exact ckm_33
  | 34, _ => exact ckm_34
  | 35, _ => exact ckm_35
  | 36, _ => exact ckm_36
  | 37, _ => exact ckm_37
  | 38, _ => exact ckm_38
  | 39, _ => exact ckm_39
  | 40, _ => exact ckm_40
  | 41, _ => exact ckm_41
  | k + 42, hj => exact absurd hj (by omega)
end
section
/-! printed: the checks of methods 42 .. -/
theorem ckl_42 : ck_l 42 = true := by decide +kernel
theorem ckr_42_0 : ck_r 42 0 20 = true := by decide +kernel
theorem ckm_42 : CkM 42 := ckM_of (n := 20) ckl_42 ckr_42_0 (by decide +kernel)
theorem ckl_43 : ck_l 43 = true := by decide +kernel
theorem ckr_43_0 : ck_r 43 0 27 = true := by decide +kernel
theorem ckm_43 : CkM 43 := ckM_of (n := 27) ckl_43 ckr_43_0 (by decide +kernel)
theorem ckl_44 : ck_l 44 = true := by decide +kernel
theorem ckr_44_0 : ck_r 44 0 36 = true := by decide +kernel
theorem ckm_44 : CkM 44 := ckM_of (n := 36) ckl_44 ckr_44_0 (by decide +kernel)
theorem ckl_45 : ck_l 45 = true := by decide +kernel
theorem ckr_45_0 : ck_r 45 0 7 = true := by decide +kernel
theorem ckm_45 : CkM 45 := ckM_of (n := 7) ckl_45 ckr_45_0 (by decide +kernel)
theorem ckl_46 : ck_l 46 = true := by decide +kernel
theorem ckr_46_0 : ck_r 46 0 7 = true := by decide +kernel
theorem ckm_46 : CkM 46 := ckM_of (n := 7) ckl_46 ckr_46_0 (by decide +kernel)
theorem ckl_47 : ck_l 47 = true := by decide +kernel
theorem ckr_47_0 : ck_r 47 0 35 = true := by decide +kernel
theorem ckm_47 : CkM 47 := ckM_of (n := 35) ckl_47 ckr_47_0 (by decide +kernel)
theorem ckl_48 : ck_l 48 = true := by decide +kernel
theorem ckr_48_0 : ck_r 48 0 23 = true := by decide +kernel
theorem ckm_48 : CkM 48 := ckM_of (n := 23) ckl_48 ckr_48_0 (by decide +kernel)
theorem ckl_49 : ck_l 49 = true := by decide +kernel
theorem ckr_49_0 : ck_r 49 0 50 = true := by decide +kernel
theorem ckr_49_50 : ck_r 49 50 44 = true := by decide +kernel
theorem ckm_49 : CkM 49 := ckM_of (n := 94) ckl_49 (ck_r_app (n1 := 50) (n2 := 44) ckr_49_0 ckr_49_50) (by decide +kernel)
theorem ckl_50 : ck_l 50 = true := by decide +kernel
theorem ckr_50_0 : ck_r 50 0 5 = true := by decide +kernel
theorem ckm_50 : CkM 50 := ckM_of (n := 5) ckl_50 ckr_50_0 (by decide +kernel)
theorem ckl_51 : ck_l 51 = true := by decide +kernel
theorem ckr_51_0 : ck_r 51 0 21 = true := by decide +kernel
theorem ckm_51 : CkM 51 := ckM_of (n := 21) ckl_51 ckr_51_0 (by decide +kernel)
theorem ckl_52 : ck_l 52 = true := by decide +kernel
theorem ckr_52_0 : ck_r 52 0 25 = true := by decide +kernel
theorem ckm_52 : CkM 52 := ckM_of (n := 25) ckl_52 ckr_52_0 (by decide +kernel)
theorem ckl_53 : ck_l 53 = true := by decide +kernel
theorem ckr_53_0 : ck_r 53 0 42 = true := by decide +kernel
theorem ckm_53 : CkM 53 := ckM_of (n := 42) ckl_53 ckr_53_0 (by decide +kernel)
theorem ckl_54 : ck_l 54 = true := by decide +kernel
theorem ckr_54_0 : ck_r 54 0 23 = true := by decide +kernel
theorem ckm_54 : CkM 54 := ckM_of (n := 23) ckl_54 ckr_54_0 (by decide +kernel)
theorem ckl_55 : ck_l 55 = true := by decide +kernel
theorem ckr_55_0 : ck_r 55 0 44 = true := by decide +kernel
theorem ckm_55 : CkM 55 := ckM_of (n := 44) ckl_55 ckr_55_0 (by decide +kernel)
theorem ckl_56 : ck_l 56 = true := by decide +kernel
theorem ckr_56_0 : ck_r 56 0 37 = true := by decide +kernel
theorem ckm_56 : CkM 56 := ckM_of (n := 37) ckl_56 ckr_56_0 (by decide +kernel)
theorem ckl_57 : ck_l 57 = true := by decide +kernel
theorem ckr_57_0 : ck_r 57 0 50 = true := by decide +kernel
theorem ckr_57_50 : ck_r 57 50 28 = true := by decide +kernel
theorem ckm_57 : CkM 57 := ckM_of (n := 78) ckl_57 (ck_r_app (n1 := 50) (n2 := 28) ckr_57_0 ckr_57_50) (by decide +kernel)
theorem ckl_58 : ck_l 58 = true := by decide +kernel
theorem ckr_58_0 : ck_r 58 0 50 = true := by decide +kernel
theorem ckr_58_50 : ck_r 58 50 4 = true := by decide +kernel
theorem ckm_58 : CkM 58 := ckM_of (n := 54) ckl_58 (ck_r_app (n1 := 50) (n2 := 4) ckr_58_0 ckr_58_50) (by decide +kernel)
theorem ckl_59 : ck_l 59 = true := by decide +kernel
theorem ckr_59_0 : ck_r 59 0 23 = true := by decide +kernel
theorem ckm_59 : CkM 59 := ckM_of (n := 23) ckl_59 ckr_59_0 (by decide +kernel)
theorem ckl_60 : ck_l 60 = true := by decide +kernel
theorem ckr_60_0 : ck_r 60 0 50 = true := by decide +kernel
theorem ckr_60_50 : ck_r 60 50 50 = true := by decide +kernel
theorem ckr_60_100 : ck_r 60 100 18 = true := by decide +kernel
theorem ckm_60 : CkM 60 := ckM_of (n := 118) ckl_60 (ck_r_app (n1 := 100) (n2 := 18) (ck_r_app (n1 := 50) (n2 := 50) ckr_60_0 ckr_60_50) ckr_60_100) (by decide +kernel)
theorem ckl_61 : ck_l 61 = true := by decide +kernel
theorem ckr_61_0 : ck_r 61 0 16 = true := by decide +kernel
theorem ckm_61 : CkM 61 := ckM_of (n := 16) ckl_61 ckr_61_0 (by decide +kernel)
theorem ckl_62 : ck_l 62 = true := by decide +kernel
theorem ckr_62_0 : ck_r 62 0 50 = true := by decide +kernel
theorem ckr_62_50 : ck_r 62 50 4 = true := by decide +kernel
theorem ckm_62 : CkM 62 := ckM_of (n := 54) ckl_62 (ck_r_app (n1 := 50) (n2 := 4) ckr_62_0 ckr_62_50) (by decide +kernel)
theorem ckl_63 : ck_l 63 = true := by decide +kernel
theorem ckr_63_0 : ck_r 63 0 13 = true := by decide +kernel
theorem ckm_63 : CkM 63 := ckM_of (n := 13) ckl_63 ckr_63_0 (by decide +kernel)
theorem ckl_64 : ck_l 64 = true := by decide +kernel
theorem ckr_64_0 : ck_r 64 0 50 = true := by decide +kernel
theorem ckr_64_50 : ck_r 64 50 10 = true := by decide +kernel
theorem ckm_64 : CkM 64 := ckM_of (n := 60) ckl_64 (ck_r_app (n1 := 50) (n2 := 10) ckr_64_0 ckr_64_50) (by decide +kernel)
theorem ckl_65 : ck_l 65 = true := by decide +kernel
theorem ckr_65_0 : ck_r 65 0 9 = true := by decide +kernel
theorem ckm_65 : CkM 65 := ckM_of (n := 9) ckl_65 ckr_65_0 (by decide +kernel)
theorem ckl_66 : ck_l 66 = true := by decide +kernel
theorem ckr_66_0 : ck_r 66 0 46 = true := by decide +kernel
theorem ckm_66 : CkM 66 := ckM_of (n := 46) ckl_66 ckr_66_0 (by decide +kernel)
theorem ckl_67 : ck_l 67 = true := by decide +kernel
theorem ckr_67_0 : ck_r 67 0 7 = true := by decide +kernel
theorem ckm_67 : CkM 67 := ckM_of (n := 7) ckl_67 ckr_67_0 (by decide +kernel)
theorem ckl_68 : ck_l 68 = true := by decide +kernel
theorem ckr_68_0 : ck_r 68 0 10 = true := by decide +kernel
theorem ckm_68 : CkM 68 := ckM_of (n := 10) ckl_68 ckr_68_0 (by decide +kernel)
theorem ckl_69 : ck_l 69 = true := by decide +kernel
theorem ckr_69_0 : ck_r 69 0 13 = true := by decide +kernel
theorem ckm_69 : CkM 69 := ckM_of (n := 13) ckl_69 ckr_69_0 (by decide +kernel)
theorem ckl_70 : ck_l 70 = true := by decide +kernel
theorem ckr_70_0 : ck_r 70 0 3 = true := by decide +kernel
theorem ckm_70 : CkM 70 := ckM_of (n := 3) ckl_70 ckr_70_0 (by decide +kernel)
theorem ckl_71 : ck_l 71 = true := by decide +kernel
theorem ckr_71_0 : ck_r 71 0 50 = true := by decide +kernel
theorem ckm_71 : CkM 71 := ckM_of (n := 50) ckl_71 ckr_71_0 (by decide +kernel)
theorem ckl_72 : ck_l 72 = true := by decide +kernel
theorem ckr_72_0 : ck_r 72 0 42 = true := by decide +kernel
theorem ckm_72 : CkM 72 := ckM_of (n := 42) ckl_72 ckr_72_0 (by decide +kernel)
theorem ckl_73 : ck_l 73 = true := by decide +kernel
theorem ckr_73_0 : ck_r 73 0 34 = true := by decide +kernel
theorem ckm_73 : CkM 73 := ckM_of (n := 34) ckl_73 ckr_73_0 (by decide +kernel)
theorem ckl_74 : ck_l 74 = true := by decide +kernel
theorem ckr_74_0 : ck_r 74 0 13 = true := by decide +kernel
theorem ckm_74 : CkM 74 := ckM_of (n := 13) ckl_74 ckr_74_0 (by decide +kernel)
theorem ckl_75 : ck_l 75 = true := by decide +kernel
theorem ckr_75_0 : ck_r 75 0 13 = true := by decide +kernel
theorem ckm_75 : CkM 75 := ckM_of (n := 13) ckl_75 ckr_75_0 (by decide +kernel)
theorem ckl_76 : ck_l 76 = true := by decide +kernel
theorem ckr_76_0 : ck_r 76 0 21 = true := by decide +kernel
theorem ckm_76 : CkM 76 := ckM_of (n := 21) ckl_76 ckr_76_0 (by decide +kernel)
theorem ckl_77 : ck_l 77 = true := by decide +kernel
theorem ckr_77_0 : ck_r 77 0 35 = true := by decide +kernel
theorem ckm_77 : CkM 77 := ckM_of (n := 35) ckl_77 ckr_77_0 (by decide +kernel)
theorem ckl_78 : ck_l 78 = true := by decide +kernel
theorem ckr_78_0 : ck_r 78 0 12 = true := by decide +kernel
theorem ckm_78 : CkM 78 := ckM_of (n := 12) ckl_78 ckr_78_0 (by decide +kernel)
theorem ckl_79 : ck_l 79 = true := by decide +kernel
theorem ckr_79_0 : ck_r 79 0 12 = true := by decide +kernel
theorem ckm_79 : CkM 79 := ckM_of (n := 12) ckl_79 ckr_79_0 (by decide +kernel)
theorem ckl_80 : ck_l 80 = true := by decide +kernel
theorem ckr_80_0 : ck_r 80 0 10 = true := by decide +kernel
theorem ckm_80 : CkM 80 := ckM_of (n := 10) ckl_80 ckr_80_0 (by decide +kernel)
theorem ckl_81 : ck_l 81 = true := by decide +kernel
theorem ckr_81_0 : ck_r 81 0 25 = true := by decide +kernel
theorem ckm_81 : CkM 81 := ckM_of (n := 25) ckl_81 ckr_81_0 (by decide +kernel)
theorem ckl_82 : ck_l 82 = true := by decide +kernel
theorem ckr_82_0 : ck_r 82 0 9 = true := by decide +kernel
theorem ckm_82 : CkM 82 := ckM_of (n := 9) ckl_82 ckr_82_0 (by decide +kernel)
theorem ckl_83 : ck_l 83 = true := by decide +kernel
theorem ckr_83_0 : ck_r 83 0 20 = true := by decide +kernel
theorem ckm_83 : CkM 83 := ckM_of (n := 20) ckl_83 ckr_83_0 (by decide +kernel)
theorem ckA_42 : ∀ j, j < 42 → CkM (42 + j) := by
  intro j hj
  match j, hj with
  | 0, _ => exact ckm_42
  | 1, _ => exact ckm_43
  | 2, _ => exact ckm_44
  | 3, _ => exact ckm_45
  | 4, _ => exact ckm_46
  | 5, _ => exact ckm_47
  | 6, _ => exact ckm_48
  | 7, _ => exact ckm_49
  | 8, _ => exact ckm_50
  | 9, _ => exact ckm_51
  | 10, _ => exact ckm_52
  | 11, _ => exact ckm_53
  | 12, _ => exact ckm_54
  | 13, _ => exact ckm_55
  | 14, _ => exact ckm_56
  | 15, _ => exact ckm_57
  | 16, _ => exact ckm_58
  | 17, _ => exact ckm_59
  | 18, _ => exact ckm_60
  | 19, _ => exact ckm_61
  | 20, _ => exact ckm_62
  | 21, _ => exact ckm_63
  | 22, _ => exact ckm_64
  | 23, _ => exact ckm_65
  | 24, _ => exact ckm_66
  | 25, _ => exact ckm_67
  | 26, _ => exact ckm_68
  | 27, _ => exact ckm_69
  | 28, _ => exact ckm_70
  | 29, _ => exact ckm_71
  | 30, _ => exact ckm_72
  | 31, _ => exact ckm_73
  | 32, _ => exact ckm_74
  | 33, _ => exact ckm_75
  | 34, _ => exact ckm_76
  | 35, _ => exact ckm_77
  | 36, _ => exact ckm_78
  | 37, _ => exact ckm_79
  | 38, _ => exact ckm_80
  | 39, _ => exact ckm_81
  | 40, _ => exact ckm_82
  | 41, _ => exact ckm_83
  | k + 42, hj => exact absurd hj (by omega)
end
section
/-! printed: the checks of methods 84 .. -/
theorem ckl_84 : ck_l 84 = true := by decide +kernel
theorem ckr_84_0 : ck_r 84 0 14 = true := by decide +kernel
theorem ckm_84 : CkM 84 := ckM_of (n := 14) ckl_84 ckr_84_0 (by decide +kernel)
theorem ckl_85 : ck_l 85 = true := by decide +kernel
theorem ckr_85_0 : ck_r 85 0 12 = true := by decide +kernel
theorem ckm_85 : CkM 85 := ckM_of (n := 12) ckl_85 ckr_85_0 (by decide +kernel)
theorem ckl_86 : ck_l 86 = true := by decide +kernel
theorem ckr_86_0 : ck_r 86 0 50 = true := by decide +kernel
theorem ckm_86 : CkM 86 := ckM_of (n := 50) ckl_86 ckr_86_0 (by decide +kernel)
theorem ckl_87 : ck_l 87 = true := by decide +kernel
theorem ckr_87_0 : ck_r 87 0 40 = true := by decide +kernel
theorem ckm_87 : CkM 87 := ckM_of (n := 40) ckl_87 ckr_87_0 (by decide +kernel)
theorem ckl_88 : ck_l 88 = true := by decide +kernel
theorem ckr_88_0 : ck_r 88 0 14 = true := by decide +kernel
theorem ckm_88 : CkM 88 := ckM_of (n := 14) ckl_88 ckr_88_0 (by decide +kernel)
theorem ckl_89 : ck_l 89 = true := by decide +kernel
theorem ckr_89_0 : ck_r 89 0 33 = true := by decide +kernel
theorem ckm_89 : CkM 89 := ckM_of (n := 33) ckl_89 ckr_89_0 (by decide +kernel)
theorem ckl_90 : ck_l 90 = true := by decide +kernel
theorem ckr_90_0 : ck_r 90 0 20 = true := by decide +kernel
theorem ckm_90 : CkM 90 := ckM_of (n := 20) ckl_90 ckr_90_0 (by decide +kernel)
theorem ckl_91 : ck_l 91 = true := by decide +kernel
theorem ckr_91_0 : ck_r 91 0 50 = true := by decide +kernel
theorem ckr_91_50 : ck_r 91 50 1 = true := by decide +kernel
theorem ckm_91 : CkM 91 := ckM_of (n := 51) ckl_91 (ck_r_app (n1 := 50) (n2 := 1) ckr_91_0 ckr_91_50) (by decide +kernel)
theorem ckl_92 : ck_l 92 = true := by decide +kernel
theorem ckr_92_0 : ck_r 92 0 27 = true := by decide +kernel
theorem ckm_92 : CkM 92 := ckM_of (n := 27) ckl_92 ckr_92_0 (by decide +kernel)
theorem ckl_93 : ck_l 93 = true := by decide +kernel
theorem ckr_93_0 : ck_r 93 0 50 = true := by decide +kernel
theorem ckr_93_50 : ck_r 93 50 23 = true := by decide +kernel
theorem ckm_93 : CkM 93 := ckM_of (n := 73) ckl_93 (ck_r_app (n1 := 50) (n2 := 23) ckr_93_0 ckr_93_50) (by decide +kernel)
theorem ckl_94 : ck_l 94 = true := by decide +kernel
theorem ckr_94_0 : ck_r 94 0 26 = true := by decide +kernel
theorem ckm_94 : CkM 94 := ckM_of (n := 26) ckl_94 ckr_94_0 (by decide +kernel)
theorem ckl_95 : ck_l 95 = true := by decide +kernel
theorem ckr_95_0 : ck_r 95 0 16 = true := by decide +kernel
theorem ckm_95 : CkM 95 := ckM_of (n := 16) ckl_95 ckr_95_0 (by decide +kernel)
theorem ckl_96 : ck_l 96 = true := by decide +kernel
theorem ckr_96_0 : ck_r 96 0 7 = true := by decide +kernel
theorem ckm_96 : CkM 96 := ckM_of (n := 7) ckl_96 ckr_96_0 (by decide +kernel)
theorem ckl_97 : ck_l 97 = true := by decide +kernel
theorem ckr_97_0 : ck_r 97 0 20 = true := by decide +kernel
theorem ckm_97 : CkM 97 := ckM_of (n := 20) ckl_97 ckr_97_0 (by decide +kernel)
theorem ckl_98 : ck_l 98 = true := by decide +kernel
theorem ckr_98_0 : ck_r 98 0 23 = true := by decide +kernel
theorem ckm_98 : CkM 98 := ckM_of (n := 23) ckl_98 ckr_98_0 (by decide +kernel)
theorem ckl_99 : ck_l 99 = true := by decide +kernel
theorem ckr_99_0 : ck_r 99 0 40 = true := by decide +kernel
theorem ckm_99 : CkM 99 := ckM_of (n := 40) ckl_99 ckr_99_0 (by decide +kernel)
theorem ckl_100 : ck_l 100 = true := by decide +kernel
theorem ckr_100_0 : ck_r 100 0 33 = true := by decide +kernel
theorem ckm_100 : CkM 100 := ckM_of (n := 33) ckl_100 ckr_100_0 (by decide +kernel)
theorem ckl_101 : ck_l 101 = true := by decide +kernel
theorem ckr_101_0 : ck_r 101 0 50 = true := by decide +kernel
theorem ckr_101_50 : ck_r 101 50 50 = true := by decide +kernel
theorem ckr_101_100 : ck_r 101 100 25 = true := by decide +kernel
theorem ckm_101 : CkM 101 := ckM_of (n := 125) ckl_101 (ck_r_app (n1 := 100) (n2 := 25) (ck_r_app (n1 := 50) (n2 := 50) ckr_101_0 ckr_101_50) ckr_101_100) (by decide +kernel)
theorem ckl_102 : ck_l 102 = true := by decide +kernel
theorem ckr_102_0 : ck_r 102 0 22 = true := by decide +kernel
theorem ckm_102 : CkM 102 := ckM_of (n := 22) ckl_102 ckr_102_0 (by decide +kernel)
theorem ckl_103 : ck_l 103 = true := by decide +kernel
theorem ckr_103_0 : ck_r 103 0 38 = true := by decide +kernel
theorem ckm_103 : CkM 103 := ckM_of (n := 38) ckl_103 ckr_103_0 (by decide +kernel)
theorem ckl_104 : ck_l 104 = true := by decide +kernel
theorem ckr_104_0 : ck_r 104 0 5 = true := by decide +kernel
theorem ckm_104 : CkM 104 := ckM_of (n := 5) ckl_104 ckr_104_0 (by decide +kernel)
theorem ckl_105 : ck_l 105 = true := by decide +kernel
theorem ckr_105_0 : ck_r 105 0 23 = true := by decide +kernel
theorem ckm_105 : CkM 105 := ckM_of (n := 23) ckl_105 ckr_105_0 (by decide +kernel)
theorem ckl_106 : ck_l 106 = true := by decide +kernel
theorem ckr_106_0 : ck_r 106 0 10 = true := by decide +kernel
theorem ckm_106 : CkM 106 := ckM_of (n := 10) ckl_106 ckr_106_0 (by decide +kernel)
theorem ckl_107 : ck_l 107 = true := by decide +kernel
theorem ckr_107_0 : ck_r 107 0 12 = true := by decide +kernel
theorem ckm_107 : CkM 107 := ckM_of (n := 12) ckl_107 ckr_107_0 (by decide +kernel)
theorem ckl_108 : ck_l 108 = true := by decide +kernel
theorem ckr_108_0 : ck_r 108 0 36 = true := by decide +kernel
theorem ckm_108 : CkM 108 := ckM_of (n := 36) ckl_108 ckr_108_0 (by decide +kernel)
theorem ckl_109 : ck_l 109 = true := by decide +kernel
theorem ckr_109_0 : ck_r 109 0 28 = true := by decide +kernel
theorem ckm_109 : CkM 109 := ckM_of (n := 28) ckl_109 ckr_109_0 (by decide +kernel)
theorem ckl_110 : ck_l 110 = true := by decide +kernel
theorem ckr_110_0 : ck_r 110 0 42 = true := by decide +kernel
theorem ckm_110 : CkM 110 := ckM_of (n := 42) ckl_110 ckr_110_0 (by decide +kernel)
theorem ckl_111 : ck_l 111 = true := by decide +kernel
theorem ckr_111_0 : ck_r 111 0 31 = true := by decide +kernel
theorem ckm_111 : CkM 111 := ckM_of (n := 31) ckl_111 ckr_111_0 (by decide +kernel)
theorem ckl_112 : ck_l 112 = true := by decide +kernel
theorem ckr_112_0 : ck_r 112 0 21 = true := by decide +kernel
theorem ckm_112 : CkM 112 := ckM_of (n := 21) ckl_112 ckr_112_0 (by decide +kernel)
theorem ckl_113 : ck_l 113 = true := by decide +kernel
theorem ckr_113_0 : ck_r 113 0 50 = true := by decide +kernel
theorem ckr_113_50 : ck_r 113 50 9 = true := by decide +kernel
theorem ckm_113 : CkM 113 := ckM_of (n := 59) ckl_113 (ck_r_app (n1 := 50) (n2 := 9) ckr_113_0 ckr_113_50) (by decide +kernel)
theorem ckl_114 : ck_l 114 = true := by decide +kernel
theorem ckr_114_0 : ck_r 114 0 10 = true := by decide +kernel
theorem ckm_114 : CkM 114 := ckM_of (n := 10) ckl_114 ckr_114_0 (by decide +kernel)
theorem ckl_115 : ck_l 115 = true := by decide +kernel
theorem ckr_115_0 : ck_r 115 0 22 = true := by decide +kernel
theorem ckm_115 : CkM 115 := ckM_of (n := 22) ckl_115 ckr_115_0 (by decide +kernel)
theorem ckl_116 : ck_l 116 = true := by decide +kernel
theorem ckr_116_0 : ck_r 116 0 40 = true := by decide +kernel
theorem ckm_116 : CkM 116 := ckM_of (n := 40) ckl_116 ckr_116_0 (by decide +kernel)
theorem ckl_117 : ck_l 117 = true := by decide +kernel
theorem ckr_117_0 : ck_r 117 0 27 = true := by decide +kernel
theorem ckm_117 : CkM 117 := ckM_of (n := 27) ckl_117 ckr_117_0 (by decide +kernel)
theorem ckl_118 : ck_l 118 = true := by decide +kernel
theorem ckr_118_0 : ck_r 118 0 33 = true := by decide +kernel
theorem ckm_118 : CkM 118 := ckM_of (n := 33) ckl_118 ckr_118_0 (by decide +kernel)
theorem ckl_119 : ck_l 119 = true := by decide +kernel
theorem ckr_119_0 : ck_r 119 0 47 = true := by decide +kernel
theorem ckm_119 : CkM 119 := ckM_of (n := 47) ckl_119 ckr_119_0 (by decide +kernel)
theorem ckl_120 : ck_l 120 = true := by decide +kernel
theorem ckr_120_0 : ck_r 120 0 32 = true := by decide +kernel
theorem ckm_120 : CkM 120 := ckM_of (n := 32) ckl_120 ckr_120_0 (by decide +kernel)
theorem ckl_121 : ck_l 121 = true := by decide +kernel
theorem ckr_121_0 : ck_r 121 0 50 = true := by decide +kernel
theorem ckr_121_50 : ck_r 121 50 1 = true := by decide +kernel
theorem ckm_121 : CkM 121 := ckM_of (n := 51) ckl_121 (ck_r_app (n1 := 50) (n2 := 1) ckr_121_0 ckr_121_50) (by decide +kernel)
theorem ckl_122 : ck_l 122 = true := by decide +kernel
theorem ckr_122_0 : ck_r 122 0 15 = true := by decide +kernel
theorem ckm_122 : CkM 122 := ckM_of (n := 15) ckl_122 ckr_122_0 (by decide +kernel)
theorem ckl_123 : ck_l 123 = true := by decide +kernel
theorem ckr_123_0 : ck_r 123 0 50 = true := by decide +kernel
theorem ckr_123_50 : ck_r 123 50 5 = true := by decide +kernel
theorem ckm_123 : CkM 123 := ckM_of (n := 55) ckl_123 (ck_r_app (n1 := 50) (n2 := 5) ckr_123_0 ckr_123_50) (by decide +kernel)
theorem ckl_124 : ck_l 124 = true := by decide +kernel
theorem ckr_124_0 : ck_r 124 0 40 = true := by decide +kernel
theorem ckm_124 : CkM 124 := ckM_of (n := 40) ckl_124 ckr_124_0 (by decide +kernel)
theorem ckl_125 : ck_l 125 = true := by decide +kernel
theorem ckr_125_0 : ck_r 125 0 50 = true := by decide +kernel
theorem ckr_125_50 : ck_r 125 50 8 = true := by decide +kernel
theorem ckm_125 : CkM 125 := ckM_of (n := 58) ckl_125 (ck_r_app (n1 := 50) (n2 := 8) ckr_125_0 ckr_125_50) (by decide +kernel)
theorem ckA_84 : ∀ j, j < 42 → CkM (84 + j) := by
  intro j hj
  match j, hj with
  | 0, _ => exact ckm_84
  | 1, _ => exact ckm_85
  | 2, _ => exact ckm_86
  | 3, _ => exact ckm_87
  | 4, _ => exact ckm_88
  | 5, _ => exact ckm_89
  | 6, _ => exact ckm_90
  | 7, _ => exact ckm_91
  | 8, _ => exact ckm_92
  | 9, _ => exact ckm_93
  | 10, _ => exact ckm_94
  | 11, _ => exact ckm_95
  | 12, _ => exact ckm_96
  | 13, _ => exact ckm_97
  | 14, _ => exact ckm_98
  | 15, _ => exact ckm_99
  | 16, _ => exact ckm_100
  | 17, _ => exact ckm_101
  | 18, _ => exact ckm_102
  | 19, _ => exact ckm_103
  | 20, _ => exact ckm_104
  | 21, _ => exact ckm_105
  | 22, _ => exact ckm_106
  | 23, _ => exact ckm_107
  | 24, _ => exact ckm_108
  | 25, _ => exact ckm_109
  | 26, _ => exact ckm_110
  | 27, _ => exact ckm_111
  | 28, _ => exact ckm_112
  | 29, _ => exact ckm_113
  | 30, _ => exact ckm_114
  | 31, _ => exact ckm_115
  | 32, _ => exact ckm_116
  | 33, _ => exact ckm_117
  | 34, _ => exact ckm_118
  | 35, _ => exact ckm_119
  | 36, _ => exact ckm_120
  | 37, _ => exact ckm_121
  | 38, _ => exact ckm_122
  | 39, _ => exact ckm_123
  | 40, _ => exact ckm_124
  | 41, _ => exact ckm_125
  | k + 42, hj => exact absurd hj (by omega)
end
section
/-! printed: the checks of methods 126 .. -/
theorem ckl_126 : ck_l 126 = true := by decide +kernel
theorem ckr_126_0 : ck_r 126 0 15 = true := by decide +kernel
theorem ckm_126 : CkM 126 := ckM_of (n := 15) ckl_126 ckr_126_0 (by decide +kernel)
theorem ckl_127 : ck_l 127 = true := by decide +kernel
theorem ckr_127_0 : ck_r 127 0 26 = true := by decide +kernel
theorem ckm_127 : CkM 127 := ckM_of (n := 26) ckl_127 ckr_127_0 (by decide +kernel)
theorem ckl_128 : ck_l 128 = true := by decide +kernel
theorem ckr_128_0 : ck_r 128 0 26 = true := by decide +kernel
theorem ckm_128 : CkM 128 := ckM_of (n := 26) ckl_128 ckr_128_0 (by decide +kernel)
theorem ckl_129 : ck_l 129 = true := by decide +kernel
theorem ckr_129_0 : ck_r 129 0 42 = true := by decide +kernel
theorem ckm_129 : CkM 129 := ckM_of (n := 42) ckl_129 ckr_129_0 (by decide +kernel)
theorem ckl_130 : ck_l 130 = true := by decide +kernel
theorem ckr_130_0 : ck_r 130 0 44 = true := by decide +kernel
theorem ckm_130 : CkM 130 := ckM_of (n := 44) ckl_130 ckr_130_0 (by decide +kernel)
theorem ckl_131 : ck_l 131 = true := by decide +kernel
theorem ckr_131_0 : ck_r 131 0 29 = true := by decide +kernel
theorem ckm_131 : CkM 131 := ckM_of (n := 29) ckl_131 ckr_131_0 (by decide +kernel)
theorem ckl_132 : ck_l 132 = true := by decide +kernel
theorem ckr_132_0 : ck_r 132 0 50 = true := by decide +kernel
theorem ckr_132_50 : ck_r 132 50 6 = true := by decide +kernel
theorem ckm_132 : CkM 132 := ckM_of (n := 56) ckl_132 (ck_r_app (n1 := 50) (n2 := 6) ckr_132_0 ckr_132_50) (by decide +kernel)
theorem ckl_133 : ck_l 133 = true := by decide +kernel
theorem ckr_133_0 : ck_r 133 0 17 = true := by decide +kernel
theorem ckm_133 : CkM 133 := ckM_of (n := 17) ckl_133 ckr_133_0 (by decide +kernel)
theorem ckl_134 : ck_l 134 = true := by decide +kernel
theorem ckr_134_0 : ck_r 134 0 43 = true := by decide +kernel
theorem ckm_134 : CkM 134 := ckM_of (n := 43) ckl_134 ckr_134_0 (by decide +kernel)
theorem ckl_135 : ck_l 135 = true := by decide +kernel
theorem ckr_135_0 : ck_r 135 0 40 = true := by decide +kernel
theorem ckm_135 : CkM 135 := ckM_of (n := 40) ckl_135 ckr_135_0 (by decide +kernel)
theorem ckl_136 : ck_l 136 = true := by decide +kernel
theorem ckr_136_0 : ck_r 136 0 23 = true := by decide +kernel
theorem ckm_136 : CkM 136 := ckM_of (n := 23) ckl_136 ckr_136_0 (by decide +kernel)
theorem ckl_137 : ck_l 137 = true := by decide +kernel
theorem ckr_137_0 : ck_r 137 0 36 = true := by decide +kernel
theorem ckm_137 : CkM 137 := ckM_of (n := 36) ckl_137 ckr_137_0 (by decide +kernel)
theorem ckl_138 : ck_l 138 = true := by decide +kernel
theorem ckr_138_0 : ck_r 138 0 29 = true := by decide +kernel
theorem ckm_138 : CkM 138 := ckM_of (n := 29) ckl_138 ckr_138_0 (by decide +kernel)
theorem ckl_139 : ck_l 139 = true := by decide +kernel
theorem ckr_139_0 : ck_r 139 0 48 = true := by decide +kernel
theorem ckm_139 : CkM 139 := ckM_of (n := 48) ckl_139 ckr_139_0 (by decide +kernel)
theorem ckl_140 : ck_l 140 = true := by decide +kernel
theorem ckr_140_0 : ck_r 140 0 16 = true := by decide +kernel
theorem ckm_140 : CkM 140 := ckM_of (n := 16) ckl_140 ckr_140_0 (by decide +kernel)
theorem ckl_141 : ck_l 141 = true := by decide +kernel
theorem ckr_141_0 : ck_r 141 0 50 = true := by decide +kernel
theorem ckr_141_50 : ck_r 141 50 12 = true := by decide +kernel
theorem ckm_141 : CkM 141 := ckM_of (n := 62) ckl_141 (ck_r_app (n1 := 50) (n2 := 12) ckr_141_0 ckr_141_50) (by decide +kernel)
theorem ckl_142 : ck_l 142 = true := by decide +kernel
theorem ckr_142_0 : ck_r 142 0 23 = true := by decide +kernel
theorem ckm_142 : CkM 142 := ckM_of (n := 23) ckl_142 ckr_142_0 (by decide +kernel)
theorem ckl_143 : ck_l 143 = true := by decide +kernel
theorem ckr_143_0 : ck_r 143 0 17 = true := by decide +kernel
theorem ckm_143 : CkM 143 := ckM_of (n := 17) ckl_143 ckr_143_0 (by decide +kernel)
theorem ckl_144 : ck_l 144 = true := by decide +kernel
theorem ckr_144_0 : ck_r 144 0 28 = true := by decide +kernel
theorem ckm_144 : CkM 144 := ckM_of (n := 28) ckl_144 ckr_144_0 (by decide +kernel)
theorem ckl_145 : ck_l 145 = true := by decide +kernel
theorem ckr_145_0 : ck_r 145 0 50 = true := by decide +kernel
theorem ckr_145_50 : ck_r 145 50 50 = true := by decide +kernel
theorem ckr_145_100 : ck_r 145 100 50 = true := by decide +kernel
theorem ckr_145_150 : ck_r 145 150 50 = true := by decide +kernel
theorem ckr_145_200 : ck_r 145 200 14 = true := by decide +kernel
theorem ckm_145 : CkM 145 := ckM_of (n := 214) ckl_145 (ck_r_app (n1 := 200) (n2 := 14) (ck_r_app (n1 := 150) (n2 := 50) (ck_r_app (n1 := 100) (n2 := 50) (ck_r_app (n1 := 50) (n2 := 50) ckr_145_0 ckr_145_50) ckr_145_100) ckr_145_150) ckr_145_200) (by decide +kernel)
theorem ckl_146 : ck_l 146 = true := by decide +kernel
theorem ckr_146_0 : ck_r 146 0 16 = true := by decide +kernel
theorem ckm_146 : CkM 146 := ckM_of (n := 16) ckl_146 ckr_146_0 (by decide +kernel)
theorem ckl_147 : ck_l 147 = true := by decide +kernel
theorem ckr_147_0 : ck_r 147 0 15 = true := by decide +kernel
theorem ckm_147 : CkM 147 := ckM_of (n := 15) ckl_147 ckr_147_0 (by decide +kernel)
theorem ckl_148 : ck_l 148 = true := by decide +kernel
theorem ckr_148_0 : ck_r 148 0 11 = true := by decide +kernel
theorem ckm_148 : CkM 148 := ckM_of (n := 11) ckl_148 ckr_148_0 (by decide +kernel)
theorem ckl_149 : ck_l 149 = true := by decide +kernel
theorem ckr_149_0 : ck_r 149 0 22 = true := by decide +kernel
theorem ckm_149 : CkM 149 := ckM_of (n := 22) ckl_149 ckr_149_0 (by decide +kernel)
theorem ckl_150 : ck_l 150 = true := by decide +kernel
theorem ckr_150_0 : ck_r 150 0 11 = true := by decide +kernel
theorem ckm_150 : CkM 150 := ckM_of (n := 11) ckl_150 ckr_150_0 (by decide +kernel)
theorem ckl_151 : ck_l 151 = true := by decide +kernel
theorem ckr_151_0 : ck_r 151 0 13 = true := by decide +kernel
theorem ckm_151 : CkM 151 := ckM_of (n := 13) ckl_151 ckr_151_0 (by decide +kernel)
theorem ckl_152 : ck_l 152 = true := by decide +kernel
theorem ckr_152_0 : ck_r 152 0 39 = true := by decide +kernel
theorem ckm_152 : CkM 152 := ckM_of (n := 39) ckl_152 ckr_152_0 (by decide +kernel)
theorem ckl_153 : ck_l 153 = true := by decide +kernel
theorem ckr_153_0 : ck_r 153 0 27 = true := by decide +kernel
theorem ckm_153 : CkM 153 := ckM_of (n := 27) ckl_153 ckr_153_0 (by decide +kernel)
theorem ckl_154 : ck_l 154 = true := by decide +kernel
theorem ckr_154_0 : ck_r 154 0 50 = true := by decide +kernel
theorem ckr_154_50 : ck_r 154 50 9 = true := by decide +kernel
theorem ckm_154 : CkM 154 := ckM_of (n := 59) ckl_154 (ck_r_app (n1 := 50) (n2 := 9) ckr_154_0 ckr_154_50) (by decide +kernel)
theorem ckl_155 : ck_l 155 = true := by decide +kernel
theorem ckr_155_0 : ck_r 155 0 33 = true := by decide +kernel
theorem ckm_155 : CkM 155 := ckM_of (n := 33) ckl_155 ckr_155_0 (by decide +kernel)
theorem ckl_156 : ck_l 156 = true := by decide +kernel
theorem ckr_156_0 : ck_r 156 0 36 = true := by decide +kernel
theorem ckm_156 : CkM 156 := ckM_of (n := 36) ckl_156 ckr_156_0 (by decide +kernel)
theorem ckl_157 : ck_l 157 = true := by decide +kernel
theorem ckr_157_0 : ck_r 157 0 50 = true := by decide +kernel
theorem ckr_157_50 : ck_r 157 50 20 = true := by decide +kernel
theorem ckm_157 : CkM 157 := ckM_of (n := 70) ckl_157 (ck_r_app (n1 := 50) (n2 := 20) ckr_157_0 ckr_157_50) (by decide +kernel)
theorem ckl_158 : ck_l 158 = true := by decide +kernel
theorem ckr_158_0 : ck_r 158 0 25 = true := by decide +kernel
theorem ckm_158 : CkM 158 := ckM_of (n := 25) ckl_158 ckr_158_0 (by decide +kernel)
theorem ckl_159 : ck_l 159 = true := by decide +kernel
theorem ckr_159_0 : ck_r 159 0 17 = true := by decide +kernel
theorem ckm_159 : CkM 159 := ckM_of (n := 17) ckl_159 ckr_159_0 (by decide +kernel)
theorem ckl_160 : ck_l 160 = true := by decide +kernel
theorem ckr_160_0 : ck_r 160 0 26 = true := by decide +kernel
theorem ckm_160 : CkM 160 := ckM_of (n := 26) ckl_160 ckr_160_0 (by decide +kernel)
theorem ckl_161 : ck_l 161 = true := by decide +kernel
theorem ckr_161_0 : ck_r 161 0 22 = true := by decide +kernel
theorem ckm_161 : CkM 161 := ckM_of (n := 22) ckl_161 ckr_161_0 (by decide +kernel)
theorem ckl_162 : ck_l 162 = true := by decide +kernel
theorem ckr_162_0 : ck_r 162 0 17 = true := by decide +kernel
theorem ckm_162 : CkM 162 := ckM_of (n := 17) ckl_162 ckr_162_0 (by decide +kernel)
theorem ckl_163 : ck_l 163 = true := by decide +kernel
theorem ckr_163_0 : ck_r 163 0 50 = true := by decide +kernel
theorem ckr_163_50 : ck_r 163 50 50 = true := by decide +kernel
theorem ckr_163_100 : ck_r 163 100 26 = true := by decide +kernel
theorem ckm_163 : CkM 163 := ckM_of (n := 126) ckl_163 (ck_r_app (n1 := 100) (n2 := 26) (ck_r_app (n1 := 50) (n2 := 50) ckr_163_0 ckr_163_50) ckr_163_100) (by decide +kernel)
theorem ckl_164 : ck_l 164 = true := by decide +kernel
theorem ckr_164_0 : ck_r 164 0 50 = true := by decide +kernel
theorem ckr_164_50 : ck_r 164 50 50 = true := by decide +kernel
theorem ckr_164_100 : ck_r 164 100 50 = true := by decide +kernel
theorem ckr_164_150 : ck_r 164 150 11 = true := by decide +kernel
theorem ckm_164 : CkM 164 := ckM_of (n := 161) ckl_164 (ck_r_app (n1 := 150) (n2 := 11) (ck_r_app (n1 := 100) (n2 := 50) (ck_r_app (n1 := 50) (n2 := 50) ckr_164_0 ckr_164_50) ckr_164_100) ckr_164_150) (by decide +kernel)
theorem ckl_165 : ck_l 165 = true := by decide +kernel
theorem ckr_165_0 : ck_r 165 0 13 = true := by decide +kernel
theorem ckm_165 : CkM 165 := ckM_of (n := 13) ckl_165 ckr_165_0 (by decide +kernel)
theorem ckl_166 : ck_l 166 = true := by decide +kernel
theorem ckr_166_0 : ck_r 166 0 31 = true := by decide +kernel
theorem ckm_166 : CkM 166 := ckM_of (n := 31) ckl_166 ckr_166_0 (by decide +kernel)
theorem ckl_167 : ck_l 167 = true := by decide +kernel
theorem ckr_167_0 : ck_r 167 0 10 = true := by decide +kernel
theorem ckm_167 : CkM 167 := ckM_of (n := 10) ckl_167 ckr_167_0 (by decide +kernel)
theorem ckA_126 : ∀ j, j < 42 → CkM (126 + j) := by
  intro j hj
  match j, hj with
  | 0, _ => exact ckm_126
  | 1, _ => exact ckm_127
  | 2, _ => exact ckm_128
  | 3, _ => exact ckm_129
  | 4, _ => exact ckm_130
  | 5, _ => exact ckm_131
  | 6, _ => exact ckm_132
  | 7, _ => exact ckm_133
  | 8, _ => exact ckm_134
  | 9, _ => exact ckm_135
  | 10, _ => exact ckm_136
  | 11, _ => exact ckm_137
  | 12, _ => exact ckm_138
  | 13, _ => exact ckm_139
  | 14, _ => exact ckm_140
  | 15, _ => exact ckm_141
  | 16, _ => exact ckm_142
  | 17, _ => exact ckm_143
  | 18, _ => exact ckm_144
  | 19, _ => exact ckm_145
  | 20, _ => exact ckm_146
  | 21, _ => exact ckm_147
  | 22, _ => exact ckm_148
  | 23, _ => exact ckm_149
  | 24, _ => exact ckm_150
  | 25, _ => exact ckm_151
  | 26, _ => exact ckm_152
  | 27, _ => exact ckm_153
  | 28, _ => exact ckm_154
  | 29, _ => exact ckm_155
  | 30, _ => exact ckm_156
  | 31, _ => exact ckm_157
  | 32, _ => exact ckm_158
  | 33, _ => exact ckm_159
  | 34, _ => exact ckm_160
  | 35, _ => exact ckm_161
  | 36, _ => exact ckm_162
  | 37, _ => exact ckm_163
  | 38, _ => exact ckm_164
  | 39, _ => exact ckm_165
  | 40, _ => exact ckm_166
  | 41, _ => exact ckm_167
  | k + 42, hj => exact absurd hj (by omega)
end
section
/-! printed: the checks of methods 168 .. -/
theorem ckl_168 : ck_l 168 = true := by decide +kernel
theorem ckr_168_0 : ck_r 168 0 10 = true := by decide +kernel
theorem ckm_168 : CkM 168 := ckM_of (n := 10) ckl_168 ckr_168_0 (by decide +kernel)
theorem ckl_169 : ck_l 169 = true := by decide +kernel
theorem ckr_169_0 : ck_r 169 0 43 = true := by decide +kernel
theorem ckm_169 : CkM 169 := ckM_of (n := 43) ckl_169 ckr_169_0 (by decide +kernel)
theorem ckl_170 : ck_l 170 = true := by decide +kernel
theorem ckr_170_0 : ck_r 170 0 14 = true := by decide +kernel
theorem ckm_170 : CkM 170 := ckM_of (n := 14) ckl_170 ckr_170_0 (by decide +kernel)
theorem ckl_171 : ck_l 171 = true := by decide +kernel
theorem ckr_171_0 : ck_r 171 0 50 = true := by decide +kernel
theorem ckr_171_50 : ck_r 171 50 7 = true := by decide +kernel
theorem ckm_171 : CkM 171 := ckM_of (n := 57) ckl_171 (ck_r_app (n1 := 50) (n2 := 7) ckr_171_0 ckr_171_50) (by decide +kernel)
theorem ckl_172 : ck_l 172 = true := by decide +kernel
theorem ckr_172_0 : ck_r 172 0 15 = true := by decide +kernel
theorem ckm_172 : CkM 172 := ckM_of (n := 15) ckl_172 ckr_172_0 (by decide +kernel)
theorem ckl_173 : ck_l 173 = true := by decide +kernel
theorem ckr_173_0 : ck_r 173 0 15 = true := by decide +kernel
theorem ckm_173 : CkM 173 := ckM_of (n := 15) ckl_173 ckr_173_0 (by decide +kernel)
theorem ckl_174 : ck_l 174 = true := by decide +kernel
theorem ckr_174_0 : ck_r 174 0 11 = true := by decide +kernel
theorem ckm_174 : CkM 174 := ckM_of (n := 11) ckl_174 ckr_174_0 (by decide +kernel)
theorem ckl_175 : ck_l 175 = true := by decide +kernel
theorem ckr_175_0 : ck_r 175 0 50 = true := by decide +kernel
theorem ckr_175_50 : ck_r 175 50 27 = true := by decide +kernel
theorem ckm_175 : CkM 175 := ckM_of (n := 77) ckl_175 (ck_r_app (n1 := 50) (n2 := 27) ckr_175_0 ckr_175_50) (by decide +kernel)
theorem ckl_176 : ck_l 176 = true := by decide +kernel
theorem ckr_176_0 : ck_r 176 0 11 = true := by decide +kernel
theorem ckm_176 : CkM 176 := ckM_of (n := 11) ckl_176 ckr_176_0 (by decide +kernel)
theorem ckl_177 : ck_l 177 = true := by decide +kernel
theorem ckr_177_0 : ck_r 177 0 50 = true := by decide +kernel
theorem ckr_177_50 : ck_r 177 50 50 = true := by decide +kernel
theorem ckr_177_100 : ck_r 177 100 1 = true := by decide +kernel
theorem ckm_177 : CkM 177 := ckM_of (n := 101) ckl_177 (ck_r_app (n1 := 100) (n2 := 1) (ck_r_app (n1 := 50) (n2 := 50) ckr_177_0 ckr_177_50) ckr_177_100) (by decide +kernel)
theorem ckl_178 : ck_l 178 = true := by decide +kernel
theorem ckr_178_0 : ck_r 178 0 50 = true := by decide +kernel
theorem ckr_178_50 : ck_r 178 50 8 = true := by decide +kernel
theorem ckm_178 : CkM 178 := ckM_of (n := 58) ckl_178 (ck_r_app (n1 := 50) (n2 := 8) ckr_178_0 ckr_178_50) (by decide +kernel)
theorem ckl_179 : ck_l 179 = true := by decide +kernel
theorem ckr_179_0 : ck_r 179 0 44 = true := by decide +kernel
theorem ckm_179 : CkM 179 := ckM_of (n := 44) ckl_179 ckr_179_0 (by decide +kernel)
theorem ckl_180 : ck_l 180 = true := by decide +kernel
theorem ckr_180_0 : ck_r 180 0 5 = true := by decide +kernel
theorem ckm_180 : CkM 180 := ckM_of (n := 5) ckl_180 ckr_180_0 (by decide +kernel)
theorem ckl_181 : ck_l 181 = true := by decide +kernel
theorem ckr_181_0 : ck_r 181 0 10 = true := by decide +kernel
theorem ckm_181 : CkM 181 := ckM_of (n := 10) ckl_181 ckr_181_0 (by decide +kernel)
theorem ckl_182 : ck_l 182 = true := by decide +kernel
theorem ckr_182_0 : ck_r 182 0 31 = true := by decide +kernel
theorem ckm_182 : CkM 182 := ckM_of (n := 31) ckl_182 ckr_182_0 (by decide +kernel)
theorem ckl_183 : ck_l 183 = true := by decide +kernel
theorem ckr_183_0 : ck_r 183 0 33 = true := by decide +kernel
theorem ckm_183 : CkM 183 := ckM_of (n := 33) ckl_183 ckr_183_0 (by decide +kernel)
theorem ckl_184 : ck_l 184 = true := by decide +kernel
theorem ckr_184_0 : ck_r 184 0 14 = true := by decide +kernel
theorem ckm_184 : CkM 184 := ckM_of (n := 14) ckl_184 ckr_184_0 (by decide +kernel)
theorem ckl_185 : ck_l 185 = true := by decide +kernel
theorem ckr_185_0 : ck_r 185 0 50 = true := by decide +kernel
theorem ckr_185_50 : ck_r 185 50 41 = true := by decide +kernel
theorem ckm_185 : CkM 185 := ckM_of (n := 91) ckl_185 (ck_r_app (n1 := 50) (n2 := 41) ckr_185_0 ckr_185_50) (by decide +kernel)
theorem ckl_186 : ck_l 186 = true := by decide +kernel
theorem ckr_186_0 : ck_r 186 0 19 = true := by decide +kernel
theorem ckm_186 : CkM 186 := ckM_of (n := 19) ckl_186 ckr_186_0 (by decide +kernel)
theorem ckl_187 : ck_l 187 = true := by decide +kernel
theorem ckr_187_0 : ck_r 187 0 50 = true := by decide +kernel
theorem ckr_187_50 : ck_r 187 50 50 = true := by decide +kernel
theorem ckr_187_100 : ck_r 187 100 38 = true := by decide +kernel
theorem ckm_187 : CkM 187 := ckM_of (n := 138) ckl_187 (ck_r_app (n1 := 100) (n2 := 38) (ck_r_app (n1 := 50) (n2 := 50) ckr_187_0 ckr_187_50) ckr_187_100) (by decide +kernel)
theorem ckl_188 : ck_l 188 = true := by decide +kernel
theorem ckr_188_0 : ck_r 188 0 25 = true := by decide +kernel
theorem ckm_188 : CkM 188 := ckM_of (n := 25) ckl_188 ckr_188_0 (by decide +kernel)
theorem ckl_189 : ck_l 189 = true := by decide +kernel
theorem ckr_189_0 : ck_r 189 0 50 = true := by decide +kernel
theorem ckr_189_50 : ck_r 189 50 5 = true := by decide +kernel
theorem ckm_189 : CkM 189 := ckM_of (n := 55) ckl_189 (ck_r_app (n1 := 50) (n2 := 5) ckr_189_0 ckr_189_50) (by decide +kernel)
theorem ckl_190 : ck_l 190 = true := by decide +kernel
theorem ckr_190_0 : ck_r 190 0 15 = true := by decide +kernel
theorem ckm_190 : CkM 190 := ckM_of (n := 15) ckl_190 ckr_190_0 (by decide +kernel)
theorem ckl_191 : ck_l 191 = true := by decide +kernel
theorem ckr_191_0 : ck_r 191 0 18 = true := by decide +kernel
theorem ckm_191 : CkM 191 := ckM_of (n := 18) ckl_191 ckr_191_0 (by decide +kernel)
theorem ckl_192 : ck_l 192 = true := by decide +kernel
theorem ckr_192_0 : ck_r 192 0 50 = true := by decide +kernel
theorem ckr_192_50 : ck_r 192 50 50 = true := by decide +kernel
theorem ckr_192_100 : ck_r 192 100 50 = true := by decide +kernel
theorem ckr_192_150 : ck_r 192 150 12 = true := by decide +kernel
theorem ckm_192 : CkM 192 := ckM_of (n := 162) ckl_192 (ck_r_app (n1 := 150) (n2 := 12) (ck_r_app (n1 := 100) (n2 := 50) (ck_r_app (n1 := 50) (n2 := 50) ckr_192_0 ckr_192_50) ckr_192_100) ckr_192_150) (by decide +kernel)
theorem ckl_193 : ck_l 193 = true := by decide +kernel
theorem ckr_193_0 : ck_r 193 0 31 = true := by decide +kernel
theorem ckm_193 : CkM 193 := ckM_of (n := 31) ckl_193 ckr_193_0 (by decide +kernel)
theorem ckl_194 : ck_l 194 = true := by decide +kernel
theorem ckr_194_0 : ck_r 194 0 10 = true := by decide +kernel
theorem ckm_194 : CkM 194 := ckM_of (n := 10) ckl_194 ckr_194_0 (by decide +kernel)
theorem ckl_195 : ck_l 195 = true := by decide +kernel
theorem ckr_195_0 : ck_r 195 0 50 = true := by decide +kernel
theorem ckr_195_50 : ck_r 195 50 50 = true := by decide +kernel
theorem ckr_195_100 : ck_r 195 100 3 = true := by decide +kernel
theorem ckm_195 : CkM 195 := ckM_of (n := 103) ckl_195 (ck_r_app (n1 := 100) (n2 := 3) (ck_r_app (n1 := 50) (n2 := 50) ckr_195_0 ckr_195_50) ckr_195_100) (by decide +kernel)
theorem ckl_196 : ck_l 196 = true := by decide +kernel
theorem ckr_196_0 : ck_r 196 0 3 = true := by decide +kernel
theorem ckm_196 : CkM 196 := ckM_of (n := 3) ckl_196 ckr_196_0 (by decide +kernel)
theorem ckl_197 : ck_l 197 = true := by decide +kernel
theorem ckr_197_0 : ck_r 197 0 50 = true := by decide +kernel
theorem ckr_197_50 : ck_r 197 50 50 = true := by decide +kernel
theorem ckr_197_100 : ck_r 197 100 4 = true := by decide +kernel
theorem ckm_197 : CkM 197 := ckM_of (n := 104) ckl_197 (ck_r_app (n1 := 100) (n2 := 4) (ck_r_app (n1 := 50) (n2 := 50) ckr_197_0 ckr_197_50) ckr_197_100) (by decide +kernel)
theorem ckl_198 : ck_l 198 = true := by decide +kernel
theorem ckr_198_0 : ck_r 198 0 26 = true := by decide +kernel
theorem ckm_198 : CkM 198 := ckM_of (n := 26) ckl_198 ckr_198_0 (by decide +kernel)
theorem ckl_199 : ck_l 199 = true := by decide +kernel
theorem ckr_199_0 : ck_r 199 0 22 = true := by decide +kernel
theorem ckm_199 : CkM 199 := ckM_of (n := 22) ckl_199 ckr_199_0 (by decide +kernel)
theorem ckl_200 : ck_l 200 = true := by decide +kernel
theorem ckr_200_0 : ck_r 200 0 33 = true := by decide +kernel
theorem ckm_200 : CkM 200 := ckM_of (n := 33) ckl_200 ckr_200_0 (by decide +kernel)
theorem ckl_201 : ck_l 201 = true := by decide +kernel
theorem ckr_201_0 : ck_r 201 0 24 = true := by decide +kernel
theorem ckm_201 : CkM 201 := ckM_of (n := 24) ckl_201 ckr_201_0 (by decide +kernel)
theorem ckl_202 : ck_l 202 = true := by decide +kernel
theorem ckr_202_0 : ck_r 202 0 10 = true := by decide +kernel
theorem ckm_202 : CkM 202 := ckM_of (n := 10) ckl_202 ckr_202_0 (by decide +kernel)
theorem ckl_203 : ck_l 203 = true := by decide +kernel
theorem ckr_203_0 : ck_r 203 0 16 = true := by decide +kernel
theorem ckm_203 : CkM 203 := ckM_of (n := 16) ckl_203 ckr_203_0 (by decide +kernel)
theorem ckl_204 : ck_l 204 = true := by decide +kernel
theorem ckr_204_0 : ck_r 204 0 24 = true := by decide +kernel
theorem ckm_204 : CkM 204 := ckM_of (n := 24) ckl_204 ckr_204_0 (by decide +kernel)
theorem ckl_205 : ck_l 205 = true := by decide +kernel
theorem ckr_205_0 : ck_r 205 0 26 = true := by decide +kernel
theorem ckm_205 : CkM 205 := ckM_of (n := 26) ckl_205 ckr_205_0 (by decide +kernel)
theorem ckl_206 : ck_l 206 = true := by decide +kernel
theorem ckr_206_0 : ck_r 206 0 50 = true := by decide +kernel
theorem ckr_206_50 : ck_r 206 50 2 = true := by decide +kernel
theorem ckm_206 : CkM 206 := ckM_of (n := 52) ckl_206 (ck_r_app (n1 := 50) (n2 := 2) ckr_206_0 ckr_206_50) (by decide +kernel)
theorem ckl_207 : ck_l 207 = true := by decide +kernel
theorem ckr_207_0 : ck_r 207 0 38 = true := by decide +kernel
theorem ckm_207 : CkM 207 := ckM_of (n := 38) ckl_207 ckr_207_0 (by decide +kernel)
theorem ckl_208 : ck_l 208 = true := by decide +kernel
theorem ckr_208_0 : ck_r 208 0 32 = true := by decide +kernel
theorem ckm_208 : CkM 208 := ckM_of (n := 32) ckl_208 ckr_208_0 (by decide +kernel)
theorem ckl_209 : ck_l 209 = true := by decide +kernel
theorem ckr_209_0 : ck_r 209 0 50 = true := by decide +kernel
theorem ckr_209_50 : ck_r 209 50 20 = true := by decide +kernel
theorem ckm_209 : CkM 209 := ckM_of (n := 70) ckl_209 (ck_r_app (n1 := 50) (n2 := 20) ckr_209_0 ckr_209_50) (by decide +kernel)
theorem ckA_168 : ∀ j, j < 42 → CkM (168 + j) := by
  intro j hj
  match j, hj with
  | 0, _ => exact ckm_168
  | 1, _ => exact ckm_169
  | 2, _ => exact ckm_170
  | 3, _ => exact ckm_171
  | 4, _ => exact ckm_172
  | 5, _ => exact ckm_173
  | 6, _ => exact ckm_174
  | 7, _ => exact ckm_175
  | 8, _ => exact ckm_176
  | 9, _ => exact ckm_177
  | 10, _ => exact ckm_178
  | 11, _ => exact ckm_179
  | 12, _ => exact ckm_180
  | 13, _ => exact ckm_181
  | 14, _ => exact ckm_182
  | 15, _ => exact ckm_183
  | 16, _ => exact ckm_184
  | 17, _ => exact ckm_185
  | 18, _ => exact ckm_186
  | 19, _ => exact ckm_187
  | 20, _ => exact ckm_188
  | 21, _ => exact ckm_189
  | 22, _ => exact ckm_190
  | 23, _ => exact ckm_191
  | 24, _ => exact ckm_192
  | 25, _ => exact ckm_193
  | 26, _ => exact ckm_194
  | 27, _ => exact ckm_195
  | 28, _ => exact ckm_196
  | 29, _ => exact ckm_197
  | 30, _ => exact ckm_198
  | 31, _ => exact ckm_199
  | 32, _ => exact ckm_200
  | 33, _ => exact ckm_201
  | 34, _ => exact ckm_202
  | 35, _ => exact ckm_203
  | 36, _ => exact ckm_204
  | 37, _ => exact ckm_205
  | 38, _ => exact ckm_206
  | 39, _ => exact ckm_207
  | 40, _ => exact ckm_208
  | 41, _ => exact ckm_209
  | k + 42, hj => exact absurd hj (by omega)
end
section
/-! printed: the checks of methods 210 .. -/
theorem ckl_210 : ck_l 210 = true := by decide +kernel
theorem ckr_210_0 : ck_r 210 0 43 = true := by decide +kernel
theorem ckm_210 : CkM 210 := ckM_of (n := 43) ckl_210 ckr_210_0 (by decide +kernel)
theorem ckl_211 : ck_l 211 = true := by decide +kernel
theorem ckr_211_0 : ck_r 211 0 16 = true := by decide +kernel
theorem ckm_211 : CkM 211 := ckM_of (n := 16) ckl_211 ckr_211_0 (by decide +kernel)
theorem ckl_212 : ck_l 212 = true := by decide +kernel
theorem ckr_212_0 : ck_r 212 0 40 = true := by decide +kernel
theorem ckm_212 : CkM 212 := ckM_of (n := 40) ckl_212 ckr_212_0 (by decide +kernel)
theorem ckl_213 : ck_l 213 = true := by decide +kernel
theorem ckr_213_0 : ck_r 213 0 50 = true := by decide +kernel
theorem ckr_213_50 : ck_r 213 50 33 = true := by decide +kernel
theorem ckm_213 : CkM 213 := ckM_of (n := 83) ckl_213 (ck_r_app (n1 := 50) (n2 := 33) ckr_213_0 ckr_213_50) (by decide +kernel)
theorem ckl_214 : ck_l 214 = true := by decide +kernel
theorem ckr_214_0 : ck_r 214 0 17 = true := by decide +kernel
theorem ckm_214 : CkM 214 := ckM_of (n := 17) ckl_214 ckr_214_0 (by decide +kernel)
theorem ckl_215 : ck_l 215 = true := by decide +kernel
theorem ckr_215_0 : ck_r 215 0 17 = true := by decide +kernel
theorem ckm_215 : CkM 215 := ckM_of (n := 17) ckl_215 ckr_215_0 (by decide +kernel)
theorem ckl_216 : ck_l 216 = true := by decide +kernel
theorem ckr_216_0 : ck_r 216 0 21 = true := by decide +kernel
theorem ckm_216 : CkM 216 := ckM_of (n := 21) ckl_216 ckr_216_0 (by decide +kernel)
theorem ckl_217 : ck_l 217 = true := by decide +kernel
theorem ckr_217_0 : ck_r 217 0 11 = true := by decide +kernel
theorem ckm_217 : CkM 217 := ckM_of (n := 11) ckl_217 ckr_217_0 (by decide +kernel)
theorem ckl_218 : ck_l 218 = true := by decide +kernel
theorem ckr_218_0 : ck_r 218 0 16 = true := by decide +kernel
theorem ckm_218 : CkM 218 := ckM_of (n := 16) ckl_218 ckr_218_0 (by decide +kernel)
theorem ckl_219 : ck_l 219 = true := by decide +kernel
theorem ckr_219_0 : ck_r 219 0 17 = true := by decide +kernel
theorem ckm_219 : CkM 219 := ckM_of (n := 17) ckl_219 ckr_219_0 (by decide +kernel)
theorem ckl_220 : ck_l 220 = true := by decide +kernel
theorem ckr_220_0 : ck_r 220 0 26 = true := by decide +kernel
theorem ckm_220 : CkM 220 := ckM_of (n := 26) ckl_220 ckr_220_0 (by decide +kernel)
theorem ckl_221 : ck_l 221 = true := by decide +kernel
theorem ckr_221_0 : ck_r 221 0 50 = true := by decide +kernel
theorem ckr_221_50 : ck_r 221 50 17 = true := by decide +kernel
theorem ckm_221 : CkM 221 := ckM_of (n := 67) ckl_221 (ck_r_app (n1 := 50) (n2 := 17) ckr_221_0 ckr_221_50) (by decide +kernel)
theorem ckl_222 : ck_l 222 = true := by decide +kernel
theorem ckr_222_0 : ck_r 222 0 50 = true := by decide +kernel
theorem ckr_222_50 : ck_r 222 50 6 = true := by decide +kernel
theorem ckm_222 : CkM 222 := ckM_of (n := 56) ckl_222 (ck_r_app (n1 := 50) (n2 := 6) ckr_222_0 ckr_222_50) (by decide +kernel)
theorem ckl_223 : ck_l 223 = true := by decide +kernel
theorem ckr_223_0 : ck_r 223 0 11 = true := by decide +kernel
theorem ckm_223 : CkM 223 := ckM_of (n := 11) ckl_223 ckr_223_0 (by decide +kernel)
theorem ckl_224 : ck_l 224 = true := by decide +kernel
theorem ckr_224_0 : ck_r 224 0 19 = true := by decide +kernel
theorem ckm_224 : CkM 224 := ckM_of (n := 19) ckl_224 ckr_224_0 (by decide +kernel)
theorem ckl_225 : ck_l 225 = true := by decide +kernel
theorem ckr_225_0 : ck_r 225 0 33 = true := by decide +kernel
theorem ckm_225 : CkM 225 := ckM_of (n := 33) ckl_225 ckr_225_0 (by decide +kernel)
theorem ckl_226 : ck_l 226 = true := by decide +kernel
theorem ckr_226_0 : ck_r 226 0 23 = true := by decide +kernel
theorem ckm_226 : CkM 226 := ckM_of (n := 23) ckl_226 ckr_226_0 (by decide +kernel)
theorem ckl_227 : ck_l 227 = true := by decide +kernel
theorem ckr_227_0 : ck_r 227 0 21 = true := by decide +kernel
theorem ckm_227 : CkM 227 := ckM_of (n := 21) ckl_227 ckr_227_0 (by decide +kernel)
theorem ckl_228 : ck_l 228 = true := by decide +kernel
theorem ckr_228_0 : ck_r 228 0 27 = true := by decide +kernel
theorem ckm_228 : CkM 228 := ckM_of (n := 27) ckl_228 ckr_228_0 (by decide +kernel)
theorem ckl_229 : ck_l 229 = true := by decide +kernel
theorem ckr_229_0 : ck_r 229 0 29 = true := by decide +kernel
theorem ckm_229 : CkM 229 := ckM_of (n := 29) ckl_229 ckr_229_0 (by decide +kernel)
theorem ckl_230 : ck_l 230 = true := by decide +kernel
theorem ckr_230_0 : ck_r 230 0 50 = true := by decide +kernel
theorem ckr_230_50 : ck_r 230 50 6 = true := by decide +kernel
theorem ckm_230 : CkM 230 := ckM_of (n := 56) ckl_230 (ck_r_app (n1 := 50) (n2 := 6) ckr_230_0 ckr_230_50) (by decide +kernel)
theorem ckl_231 : ck_l 231 = true := by decide +kernel
theorem ckr_231_0 : ck_r 231 0 47 = true := by decide +kernel
theorem ckm_231 : CkM 231 := ckM_of (n := 47) ckl_231 ckr_231_0 (by decide +kernel)
theorem ckl_232 : ck_l 232 = true := by decide +kernel
theorem ckr_232_0 : ck_r 232 0 50 = true := by decide +kernel
theorem ckr_232_50 : ck_r 232 50 22 = true := by decide +kernel
theorem ckm_232 : CkM 232 := ckM_of (n := 72) ckl_232 (ck_r_app (n1 := 50) (n2 := 22) ckr_232_0 ckr_232_50) (by decide +kernel)
theorem ckl_233 : ck_l 233 = true := by decide +kernel
theorem ckr_233_0 : ck_r 233 0 50 = true := by decide +kernel
theorem ckr_233_50 : ck_r 233 50 3 = true := by decide +kernel
theorem ckm_233 : CkM 233 := ckM_of (n := 53) ckl_233 (ck_r_app (n1 := 50) (n2 := 3) ckr_233_0 ckr_233_50) (by decide +kernel)
theorem ckl_234 : ck_l 234 = true := by decide +kernel
theorem ckr_234_0 : ck_r 234 0 17 = true := by decide +kernel
theorem ckm_234 : CkM 234 := ckM_of (n := 17) ckl_234 ckr_234_0 (by decide +kernel)
theorem ckl_235 : ck_l 235 = true := by decide +kernel
theorem ckr_235_0 : ck_r 235 0 48 = true := by decide +kernel
theorem ckm_235 : CkM 235 := ckM_of (n := 48) ckl_235 ckr_235_0 (by decide +kernel)
theorem ckl_236 : ck_l 236 = true := by decide +kernel
theorem ckr_236_0 : ck_r 236 0 50 = true := by decide +kernel
theorem ckr_236_50 : ck_r 236 50 39 = true := by decide +kernel
theorem ckm_236 : CkM 236 := ckM_of (n := 89) ckl_236 (ck_r_app (n1 := 50) (n2 := 39) ckr_236_0 ckr_236_50) (by decide +kernel)
theorem ckl_237 : ck_l 237 = true := by decide +kernel
theorem ckr_237_0 : ck_r 237 0 35 = true := by decide +kernel
theorem ckm_237 : CkM 237 := ckM_of (n := 35) ckl_237 ckr_237_0 (by decide +kernel)
theorem ckl_238 : ck_l 238 = true := by decide +kernel
theorem ckr_238_0 : ck_r 238 0 23 = true := by decide +kernel
theorem ckm_238 : CkM 238 := ckM_of (n := 23) ckl_238 ckr_238_0 (by decide +kernel)
theorem ckl_239 : ck_l 239 = true := by decide +kernel
theorem ckr_239_0 : ck_r 239 0 21 = true := by decide +kernel
theorem ckm_239 : CkM 239 := ckM_of (n := 21) ckl_239 ckr_239_0 (by decide +kernel)
theorem ckl_240 : ck_l 240 = true := by decide +kernel
theorem ckr_240_0 : ck_r 240 0 23 = true := by decide +kernel
theorem ckm_240 : CkM 240 := ckM_of (n := 23) ckl_240 ckr_240_0 (by decide +kernel)
theorem ckl_241 : ck_l 241 = true := by decide +kernel
theorem ckr_241_0 : ck_r 241 0 50 = true := by decide +kernel
theorem ckr_241_50 : ck_r 241 50 6 = true := by decide +kernel
theorem ckm_241 : CkM 241 := ckM_of (n := 56) ckl_241 (ck_r_app (n1 := 50) (n2 := 6) ckr_241_0 ckr_241_50) (by decide +kernel)
theorem ckl_242 : ck_l 242 = true := by decide +kernel
theorem ckr_242_0 : ck_r 242 0 38 = true := by decide +kernel
theorem ckm_242 : CkM 242 := ckM_of (n := 38) ckl_242 ckr_242_0 (by decide +kernel)
theorem ckl_243 : ck_l 243 = true := by decide +kernel
theorem ckr_243_0 : ck_r 243 0 13 = true := by decide +kernel
theorem ckm_243 : CkM 243 := ckM_of (n := 13) ckl_243 ckr_243_0 (by decide +kernel)
theorem ckl_244 : ck_l 244 = true := by decide +kernel
theorem ckr_244_0 : ck_r 244 0 45 = true := by decide +kernel
theorem ckm_244 : CkM 244 := ckM_of (n := 45) ckl_244 ckr_244_0 (by decide +kernel)
theorem ckl_245 : ck_l 245 = true := by decide +kernel
theorem ckr_245_0 : ck_r 245 0 43 = true := by decide +kernel
theorem ckm_245 : CkM 245 := ckM_of (n := 43) ckl_245 ckr_245_0 (by decide +kernel)
theorem ckl_246 : ck_l 246 = true := by decide +kernel
theorem ckr_246_0 : ck_r 246 0 27 = true := by decide +kernel
theorem ckm_246 : CkM 246 := ckM_of (n := 27) ckl_246 ckr_246_0 (by decide +kernel)
theorem ckA_210 : ∀ j, j < 37 → CkM (210 + j) := by
  intro j hj
  match j, hj with
  | 0, _ => exact ckm_210
  | 1, _ => exact ckm_211
  | 2, _ => exact ckm_212
  | 3, _ => exact ckm_213
  | 4, _ => exact ckm_214
  | 5, _ => exact ckm_215
  | 6, _ => exact ckm_216
  | 7, _ => exact ckm_217
  | 8, _ => exact ckm_218
  | 9, _ => exact ckm_219
  | 10, _ => exact ckm_220
  | 11, _ => exact ckm_221
  | 12, _ => exact ckm_222
  | 13, _ => exact ckm_223
  | 14, _ => exact ckm_224
  | 15, _ => exact ckm_225
  | 16, _ => exact ckm_226
  | 17, _ => exact ckm_227
  | 18, _ => exact ckm_228
  | 19, _ => exact ckm_229
  | 20, _ => exact ckm_230
  | 21, _ => exact ckm_231
  | 22, _ => exact ckm_232
  | 23, _ => exact ckm_233
  | 24, _ => exact ckm_234
  | 25, _ => exact ckm_235
  | 26, _ => exact ckm_236
  | 27, _ => exact ckm_237
  | 28, _ => exact ckm_238
  | 29, _ => exact ckm_239
  | 30, _ => exact ckm_240
  | 31, _ => exact ckm_241
  | 32, _ => exact ckm_242
  | 33, _ => exact ckm_243
  | 34, _ => exact ckm_244
  | 35, _ => exact ckm_245
  | 36, _ => exact ckm_246
  | k + 37, hj => exact absurd hj (by omega)
end
section
/-! printed: the law's own checks -/
theorem ckr_247_0 : ck_r 247 0 12 = true := by decide +kernel
end
section
/-! printed: the law's own checks -/
theorem ckr_247_12 : ck_r 247 12 25 = true := by decide +kernel
theorem ckr_247_37 : ck_r 247 37 25 = true := by decide +kernel
theorem ckr_247_62 : ck_r 247 62 25 = true := by decide +kernel
theorem ckr_247_87 : ck_r 247 87 25 = true := by decide +kernel
end
section
/-! printed: the law's own checks -/
theorem ckr_247_112 : ck_r 247 112 25 = true := by decide +kernel
theorem ckr_247_137 : ck_r 247 137 25 = true := by decide +kernel
theorem ckr_247_162 : ck_r 247 162 25 = true := by decide +kernel
theorem ckr_247_187 : ck_r 247 187 25 = true := by decide +kernel
end
section
/-! printed: the law's own checks -/
theorem ckr_247_212 : ck_r 247 212 25 = true := by decide +kernel
theorem ckr_247_237 : ck_r 247 237 25 = true := by decide +kernel
theorem ckr_247_262 : ck_r 247 262 25 = true := by decide +kernel
theorem ckr_247_287 : ck_r 247 287 25 = true := by decide +kernel
end
section
/-! printed: the law's own checks -/
theorem ckr_247_312 : ck_r 247 312 25 = true := by decide +kernel
theorem ckr_247_337 : ck_r 247 337 25 = true := by decide +kernel
theorem ckr_247_362 : ck_r 247 362 25 = true := by decide +kernel
theorem ckr_247_387 : ck_r 247 387 25 = true := by decide +kernel
end
section
/-! printed: the law's own checks -/
theorem ckr_247_412 : ck_r 247 412 25 = true := by decide +kernel
theorem ckr_247_437 : ck_r 247 437 25 = true := by decide +kernel
theorem ckr_247_462 : ck_r 247 462 25 = true := by decide +kernel
theorem ckr_247_487 : ck_r 247 487 25 = true := by decide +kernel
end
section
/-! printed: the law's own checks -/
theorem ckr_247_512 : ck_r 247 512 25 = true := by decide +kernel
theorem ckr_247_537 : ck_r 247 537 25 = true := by decide +kernel
theorem ckr_247_562 : ck_r 247 562 25 = true := by decide +kernel
theorem ckr_247_587 : ck_r 247 587 25 = true := by decide +kernel
end
section
/-! printed: the law's own checks -/
theorem ckr_247_612 : ck_r 247 612 25 = true := by decide +kernel
theorem ckr_247_637 : ck_r 247 637 25 = true := by decide +kernel
theorem ckr_247_662 : ck_r 247 662 25 = true := by decide +kernel
theorem ckr_247_687 : ck_r 247 687 25 = true := by decide +kernel
end
section
/-! printed: the law's own checks -/
theorem ckr_247_712 : ck_r 247 712 25 = true := by decide +kernel
theorem ckr_247_737 : ck_r 247 737 25 = true := by decide +kernel
theorem ckr_247_762 : ck_r 247 762 25 = true := by decide +kernel
theorem ckr_247_787 : ck_r 247 787 25 = true := by decide +kernel
end
section
/-! printed: the law's own checks -/
theorem ckr_247_812 : ck_r 247 812 25 = true := by decide +kernel
theorem ckr_247_837 : ck_r 247 837 25 = true := by decide +kernel
theorem ckr_247_862 : ck_r 247 862 25 = true := by decide +kernel
theorem ckr_247_887 : ck_r 247 887 18 = true := by decide +kernel
end
section
/-! all methods are checked; the machine is a semantics -/
theorem ckl_247 : ck_l 247 = true := by decide +kernel
theorem ckm_247 : CkM 247 := ckM_of (n := 905) ckl_247 (ck_r_app (n1 := 887) (n2 := 18) (ck_r_app (n1 := 862) (n2 := 25) (ck_r_app (n1 := 837) (n2 := 25) (ck_r_app (n1 := 812) (n2 := 25) (ck_r_app (n1 := 787) (n2 := 25) (ck_r_app (n1 := 762) (n2 := 25) (ck_r_app (n1 := 737) (n2 := 25) (ck_r_app (n1 := 712) (n2 := 25) (ck_r_app (n1 := 687) (n2 := 25) (ck_r_app (n1 := 662) (n2 := 25) (ck_r_app (n1 := 637) (n2 := 25) (ck_r_app (n1 := 612) (n2 := 25) (ck_r_app (n1 := 587) (n2 := 25) (ck_r_app (n1 := 562) (n2 := 25) (ck_r_app (n1 := 537) (n2 := 25) (ck_r_app (n1 := 512) (n2 := 25) (ck_r_app (n1 := 487) (n2 := 25) (ck_r_app (n1 := 462) (n2 := 25) (ck_r_app (n1 := 437) (n2 := 25) (ck_r_app (n1 := 412) (n2 := 25) (ck_r_app (n1 := 387) (n2 := 25) (ck_r_app (n1 := 362) (n2 := 25) (ck_r_app (n1 := 337) (n2 := 25) (ck_r_app (n1 := 312) (n2 := 25) (ck_r_app (n1 := 287) (n2 := 25) (ck_r_app (n1 := 262) (n2 := 25) (ck_r_app (n1 := 237) (n2 := 25) (ck_r_app (n1 := 212) (n2 := 25) (ck_r_app (n1 := 187) (n2 := 25) (ck_r_app (n1 := 162) (n2 := 25) (ck_r_app (n1 := 137) (n2 := 25) (ck_r_app (n1 := 112) (n2 := 25) (ck_r_app (n1 := 87) (n2 := 25) (ck_r_app (n1 := 62) (n2 := 25) (ck_r_app (n1 := 37) (n2 := 25) (ck_r_app (n1 := 12) (n2 := 25) ckr_247_0 ckr_247_12) ckr_247_37) ckr_247_62) ckr_247_87) ckr_247_112) ckr_247_137) ckr_247_162) ckr_247_187) ckr_247_212) ckr_247_237) ckr_247_262) ckr_247_287) ckr_247_312) ckr_247_337) ckr_247_362) ckr_247_387) ckr_247_412) ckr_247_437) ckr_247_462) ckr_247_487) ckr_247_512) ckr_247_537) ckr_247_562) ckr_247_587) ckr_247_612) ckr_247_637) ckr_247_662) ckr_247_687) ckr_247_712) ckr_247_737) ckr_247_762) ckr_247_787) ckr_247_812) ckr_247_837) ckr_247_862) ckr_247_887) (by decide +kernel)
theorem ck_all : ∀ i, CkM i := by
  intro i
  rcases Nat.lt_or_ge i 42 with h42 | h42
  · have := ckA_0 (i - 0) (by omega)
    rwa [show 0 + (i - 0) = i by omega] at this
  rcases Nat.lt_or_ge i 84 with h84 | h84
  · have := ckA_42 (i - 42) (by omega)
    rwa [show 42 + (i - 42) = i by omega] at this
  rcases Nat.lt_or_ge i 126 with h126 | h126
  · have := ckA_84 (i - 84) (by omega)
    rwa [show 84 + (i - 84) = i by omega] at this
  rcases Nat.lt_or_ge i 168 with h168 | h168
  · have := ckA_126 (i - 126) (by omega)
    rwa [show 126 + (i - 126) = i by omega] at this
  rcases Nat.lt_or_ge i 210 with h210 | h210
  · have := ckA_168 (i - 168) (by omega)
    rwa [show 168 + (i - 168) = i by omega] at this
  rcases Nat.lt_or_ge i 247 with h247 | h247
  · have := ckA_210 (i - 210) (by omega)
    rwa [show 210 + (i - 210) = i by omega] at this
  rcases Nat.lt_or_ge i 248 with h248 | h248
  · have : i = 247 := by omega
    subst this
    exact ckm_247
  intro mi q hm hq
  have h1 := (List.getElem?_eq_some_iff.mp hm).1
  have hl : mis.length = 248 := by decide +kernel
  omega
theorem mxl_ok : mis.map (fun m => m.2.2.1) = mxl := by decide +kernel
theorem sys_PSd : SysOK PSd := by
  refine sys_ok ck_all (fun i n mi hn hm => ?_)
  rw [← mxl_ok, List.getElem?_map, hm] at hn
  exact Option.some.inj hn
end
section
/-! POLYNOMIALS OF NOUGHTS AND ONES over Nat: the carry-less product, division -/
def clN (a b : Nat) : Nat → Nat
  | 0 => 0
  | k + 1 => clN a b k ^^^ (if b.testBit k then a <<< k else 0)
/-- the product -/
def cl (a b : Nat) : Nat := clN a b b
theorem xor4 (a b c d : Nat) : (a ^^^ b) ^^^ (c ^^^ d) = (a ^^^ c) ^^^ (b ^^^ d) := by
  rw [Nat.xor_assoc, Nat.xor_assoc, ← Nat.xor_assoc b c d, Nat.xor_comm b c, Nat.xor_assoc c b d]
theorem xor_xc (a b : Nat) : (a ^^^ b) ^^^ b = a := by rw [Nat.xor_assoc, Nat.xor_self, Nat.xor_zero]
theorem xor_cx (a b : Nat) : a ^^^ (a ^^^ b) = b := by rw [← Nat.xor_assoc, Nat.xor_self, Nat.zero_xor]
theorem xor_eq0 {a b : Nat} (h : a ^^^ b = 0) : a = b := by
  have := congrArg (fun z => z ^^^ b) h
  simp only [xor_xc, Nat.zero_xor] at this
  exact this
theorem shl_xor (a b k : Nat) : (a ^^^ b) <<< k = a <<< k ^^^ b <<< k := by
  apply Nat.eq_of_testBit_eq
  intro i
  simp only [Nat.testBit_shiftLeft, Nat.testBit_xor]
  by_cases h : k ≤ i <;> simp [h]
theorem tb_lt {a k i : Nat} (h : a < 2 ^ k) (hi : k ≤ i) : a.testBit i = false := by
  apply Nat.testBit_lt_two_pow
  exact Nat.lt_of_lt_of_le h (Nat.pow_le_pow_right (by decide) hi)
theorem lt_self (a : Nat) : a < 2 ^ a := Nat.lt_two_pow_self
theorem clN_st {a b k j : Nat} (h : b < 2 ^ k) : clN a b (k + j) = clN a b k := by
  induction j with
  | zero => rfl
  | succ j ih =>
    rw [← Nat.add_assoc]
    show clN a b (k + j) ^^^ _ = _
    rw [tb_lt h (Nat.le_add_right k j), ih]
    simp
theorem clN_eq {a b k : Nat} (h : b < 2 ^ k) : clN a b k = cl a b := by
  unfold cl
  rcases Nat.le_total k b with q | q
  · obtain ⟨j, rfl⟩ := Nat.le.dest q
    rw [clN_st (k := k) h]
  · obtain ⟨j, rfl⟩ := Nat.le.dest q
    rw [clN_st (k := b) (lt_self b)]
theorem clN_al (a a' b k : Nat) : clN (a ^^^ a') b k = clN a b k ^^^ clN a' b k := by
  induction k with
  | zero => simp [clN]
  | succ k ih =>
    show clN (a ^^^ a') b k ^^^ _ = (clN a b k ^^^ _) ^^^ (clN a' b k ^^^ _)
    rw [ih, xor4 (clN a b k)]
    congr 1
    split
    · exact shl_xor a a' k
    · rfl
theorem clN_ar (a b b' k : Nat) : clN a (b ^^^ b') k = clN a b k ^^^ clN a b' k := by
  induction k with
  | zero => simp [clN]
  | succ k ih =>
    show clN a (b ^^^ b') k ^^^ _ = (clN a b k ^^^ _) ^^^ (clN a b' k ^^^ _)
    rw [ih, xor4 (clN a b k)]
    congr 1
    rw [Nat.testBit_xor]
    cases b.testBit k <;> cases b'.testBit k <;> simp
theorem cl_al (a a' b : Nat) : cl (a ^^^ a') b = cl a b ^^^ cl a' b := clN_al a a' b b
theorem xor_lt {a b k : Nat} (h1 : a < 2 ^ k) (h2 : b < 2 ^ k) : a ^^^ b < 2 ^ k := Nat.xor_lt_two_pow h1 h2
theorem pow_le {i j : Nat} (h : i ≤ j) : 2 ^ i ≤ 2 ^ j := Nat.pow_le_pow_right (by decide) h
theorem cl_ar (a b b' : Nat) : cl a (b ^^^ b') = cl a b ^^^ cl a b' := by
  have h1 : b < 2 ^ (b + b') := Nat.lt_of_lt_of_le (lt_self b) (pow_le (Nat.le_add_right _ _))
  have h2 : b' < 2 ^ (b + b') := Nat.lt_of_lt_of_le (lt_self b') (pow_le (Nat.le_add_left _ _))
  rw [← clN_eq h1, ← clN_eq h2, ← clN_eq (xor_lt h1 h2)]
  exact clN_ar a b b' _
theorem cl_0r (a : Nat) : cl a 0 = 0 := rfl
theorem clN_0l (b k : Nat) : clN 0 b k = 0 := by
  induction k with
  | zero => rfl
  | succ k ih =>
    show clN 0 b k ^^^ _ = 0
    rw [ih]
    simp
theorem cl_0l (b : Nat) : cl 0 b = 0 := clN_0l b b
theorem cl_1r (a : Nat) : cl a 1 = a := by
  show 0 ^^^ (if Nat.testBit 1 0 then a <<< 0 else 0) = a
  simp
theorem mod_succ (a k : Nat) : a % 2 ^ (k + 1) = a % 2 ^ k ^^^ (if a.testBit k then 2 ^ k else 0) := by
  apply Nat.eq_of_testBit_eq
  intro i
  rw [Nat.testBit_xor, Nat.testBit_mod_two_pow, Nat.testBit_mod_two_pow]
  by_cases h : a.testBit k
  · rw [if_pos h, Nat.testBit_two_pow]
    by_cases hik : k = i
    · subst hik
      simp [h]
    · by_cases hlt : i < k
      · simp [hlt, Nat.lt_succ_of_lt hlt, hik]
      · have : ¬ i < k + 1 := by omega
        simp [hlt, this, hik]
  · rw [if_neg h, Nat.zero_testBit, Bool.xor_false]
    by_cases hik : k = i
    · subst hik
      simp [h]
    · by_cases hlt : i < k
      · simp [hlt, Nat.lt_succ_of_lt hlt]
      · have : ¬ i < k + 1 := by omega
        simp [hlt, this]
theorem clN_2l (a k j : Nat) : clN (2 ^ k) a j = (a % 2 ^ j) <<< k := by
  induction j with
  | zero => simp [clN, Nat.mod_one]
  | succ j ih =>
    show clN (2 ^ k) a j ^^^ _ = _
    rw [ih, mod_succ, shl_xor]
    congr 1
    split
    · rw [Nat.shiftLeft_eq, Nat.shiftLeft_eq, ← Nat.pow_add, ← Nat.pow_add, Nat.add_comm]
    · simp
theorem cl_2l (a k : Nat) : cl (2 ^ k) a = a <<< k := by
  unfold cl
  rw [clN_2l, Nat.mod_eq_of_lt (lt_self a)]
theorem cl_comm (a b : Nat) : cl a b = cl b a := by
  have key : ∀ k, clN a b k = cl (b % 2 ^ k) a := by
    intro k
    induction k with
    | zero => rw [Nat.pow_zero, Nat.mod_one, cl_0l]; rfl
    | succ k ih =>
      show clN a b k ^^^ _ = _
      rw [mod_succ, cl_al, ih]
      congr 1
      split
      · exact (cl_2l a k).symm
      · exact (cl_0l a).symm
  have := key b
  rwa [Nat.mod_eq_of_lt (lt_self b)] at this
theorem cl_1l (a : Nat) : cl 1 a = a := by rw [cl_comm, cl_1r]
theorem clN_shl (a b i k : Nat) : clN (a <<< i) b k = (clN a b k) <<< i := by
  induction k with
  | zero => simp [clN]
  | succ k ih =>
    show clN (a <<< i) b k ^^^ _ = (clN a b k ^^^ _) <<< i
    rw [ih, shl_xor]
    congr 1
    split
    · rw [← Nat.shiftLeft_add, ← Nat.shiftLeft_add, Nat.add_comm]
    · simp
theorem cl_shl (a b i : Nat) : cl (a <<< i) b = (cl a b) <<< i := clN_shl a b i b
theorem cl_shr (a b i : Nat) : cl a (b <<< i) = (cl a b) <<< i := by rw [cl_comm, cl_shl, cl_comm]
theorem cl_assoc (a b c : Nat) : cl (cl a b) c = cl a (cl b c) := by
  have key : ∀ k, clN (cl a b) c k = cl a (clN b c k) := by
    intro k
    induction k with
    | zero => exact (cl_0r a).symm
    | succ k ih =>
      show clN (cl a b) c k ^^^ _ = cl a (clN b c k ^^^ _)
      rw [ih, cl_ar]
      congr 1
      split
      · exact (cl_shr a b k).symm
      · exact (cl_0r a).symm
  exact key c
/-! degrees -/
theorem xor_top {x y k : Nat} (hx : x < 2 ^ k) (h1 : 2 ^ k ≤ y) (h2 : y < 2 ^ (k + 1)) : 2 ^ k ≤ x ^^^ y ∧ x ^^^ y < 2 ^ (k + 1) := by
  have hy : y.testBit k = true := by
    rcases hb : y.testBit k with _ | _
    · exfalso
      have : y < 2 ^ k := by
        apply Nat.lt_pow_two_of_testBit
        intro i hi
        rcases Nat.eq_or_lt_of_le hi with rfl | hlt
        · exact hb
        · exact tb_lt h2 hlt
      omega
    · rfl
  have hxy : (x ^^^ y).testBit k = true := by rw [Nat.testBit_xor, tb_lt hx (Nat.le_refl k), hy]; rfl
  refine ⟨Nat.ge_two_pow_of_testBit hxy, xor_lt (Nat.lt_trans hx (Nat.pow_lt_pow_right (by decide) (by omega))) h2⟩
theorem tb_top {y k : Nat} (h1 : 2 ^ k ≤ y) (h2 : y < 2 ^ (k + 1)) : y.testBit k = true := by
  rcases hb : y.testBit k with _ | _
  · exfalso
    have : y < 2 ^ k := by
      apply Nat.lt_pow_two_of_testBit
      intro i hi
      rcases Nat.eq_or_lt_of_le hi with rfl | hlt
      · exact hb
      · exact tb_lt h2 hlt
    omega
  · rfl
theorem shl_lt {a i k : Nat} (h : a < 2 ^ k) : a <<< i < 2 ^ (k + i) := by
  rw [Nat.shiftLeft_eq, Nat.pow_add]
  exact Nat.mul_lt_mul_of_pos_right h (Nat.two_pow_pos i)
theorem clN_lt {a b d k : Nat} (h : a < 2 ^ (d + 1)) : clN a b k < 2 ^ (d + k) := by
  induction k with
  | zero => exact Nat.two_pow_pos _
  | succ k ih =>
    refine xor_lt (Nat.lt_trans ih (Nat.pow_lt_pow_right (by decide) (by omega))) ?_
    split
    · have := shl_lt (i := k) h
      rwa [show d + 1 + k = d + (k + 1) by omega] at this
    · exact Nat.two_pow_pos _
/-- the degree of a product -/
theorem cl_deg {a b i j : Nat} (h1 : 2 ^ i ≤ a) (h2 : a < 2 ^ (i + 1)) (h3 : 2 ^ j ≤ b) (h4 : b < 2 ^ (j + 1)) : 2 ^ (i + j) ≤ cl a b ∧ cl a b < 2 ^ (i + j + 1) := by
  rw [← clN_eq h4]
  show 2 ^ (i + j) ≤ clN a b j ^^^ _ ∧ clN a b j ^^^ _ < _
  rw [if_pos (tb_top h3 h4)]
  refine xor_top (clN_lt h2) ?_ ?_
  · rw [Nat.shiftLeft_eq, Nat.pow_add]
    exact Nat.mul_le_mul_right _ h1
  · have := shl_lt (i := j) h2
    rwa [show i + 1 + j = i + j + 1 by omega] at this
theorem dg_ex {a : Nat} (h : a ≠ 0) : ∃ i, 2 ^ i ≤ a ∧ a < 2 ^ (i + 1) := ⟨a.log2, Nat.log2_self_le h, Nat.lt_log2_self⟩
theorem dg_uq {a i j : Nat} (h1 : 2 ^ i ≤ a) (h2 : a < 2 ^ (i + 1)) (h3 : 2 ^ j ≤ a) (h4 : a < 2 ^ (j + 1)) : i = j := by
  rcases Nat.lt_trichotomy i j with h | h | h
  · have := pow_le (show i + 1 ≤ j from h)
    omega
  · exact h
  · have := pow_le (show j + 1 ≤ i from h)
    omega
theorem cl_ne0 {a b : Nat} (ha : a ≠ 0) (hb : b ≠ 0) : cl a b ≠ 0 := by
  obtain ⟨i, h1, h2⟩ := dg_ex ha
  obtain ⟨j, h3, h4⟩ := dg_ex hb
  have := (cl_deg h1 h2 h3 h4).1
  have := Nat.two_pow_pos (i + j)
  omega
theorem cl_cancel {a b c : Nat} (hc : c ≠ 0) (h : cl a c = cl b c) : a = b := by
  rcases Nat.eq_zero_or_pos (a ^^^ b) with q | q
  · exact xor_eq0 q
  · have : cl (a ^^^ b) c = 0 := by rw [cl_al, h, Nat.xor_self]
    exact absurd this (cl_ne0 (by omega) hc)
/-! the remainder -/
def prd (m n : Nat) : Nat → Nat → Nat
  | 0, a => a
  | j + 1, a => prd m n j (if a.testBit (n + j) then a ^^^ (m <<< j) else a)
def pdv (m n : Nat) : Nat → Nat → Nat
  | 0, _ => 0
  | j + 1, a => if a.testBit (n + j) then 2 ^ j ^^^ pdv m n j (a ^^^ (m <<< j)) else pdv m n j a
theorem prd_ok {m n : Nat} (h1 : 2 ^ n ≤ m) (h2 : m < 2 ^ (n + 1)) : ∀ (j a : Nat), a < 2 ^ (n + j) → prd m n j a < 2 ^ n ∧ a = cl (pdv m n j a) m ^^^ prd m n j a ∧ pdv m n j a < 2 ^ j
  | 0, a, h => ⟨h, by show a = cl 0 m ^^^ a; rw [cl_0l, Nat.zero_xor], Nat.one_pos⟩
  | j + 1, a, h => by
    by_cases hb : a.testBit (n + j)
    · have hm1 : 2 ^ (n + j) ≤ m <<< j := by
        rw [Nat.shiftLeft_eq, Nat.pow_add]
        exact Nat.mul_le_mul_right _ h1
      have hm2 : m <<< j < 2 ^ (n + j + 1) := by
        have := shl_lt (i := j) h2
        rwa [show n + 1 + j = n + j + 1 by omega] at this
      have hlt : a ^^^ (m <<< j) < 2 ^ (n + j) := by
        apply Nat.lt_pow_two_of_testBit
        intro i hi
        rw [Nat.testBit_xor]
        rcases Nat.eq_or_lt_of_le hi with rfl | hgt
        · rw [hb, tb_top hm1 hm2]; rfl
        · rw [tb_lt h (by omega : n + (j + 1) ≤ i), tb_lt hm2 (by omega)]; rfl
      obtain ⟨g1, g2, g3⟩ := prd_ok h1 h2 j (a ^^^ (m <<< j)) hlt
      have e1 : prd m n (j + 1) a = prd m n j (a ^^^ (m <<< j)) := by show prd m n j (if _ then _ else _) = _; rw [if_pos hb]
      have e2 : pdv m n (j + 1) a = 2 ^ j ^^^ pdv m n j (a ^^^ (m <<< j)) := by show (if _ then _ else _) = _; rw [if_pos hb]
      rw [e1, e2]
      refine ⟨g1, ?_, xor_lt (Nat.pow_lt_pow_right (by decide) (by omega)) (Nat.lt_trans g3 (Nat.pow_lt_pow_right (by decide) (by omega)))⟩
      rw [cl_al, cl_2l, Nat.xor_assoc, ← g2, Nat.xor_comm, xor_xc]
    · have hlt : a < 2 ^ (n + j) := by
        apply Nat.lt_pow_two_of_testBit
        intro i hi
        rcases Nat.eq_or_lt_of_le hi with rfl | hgt
        · simpa using hb
        · exact tb_lt h (by omega)
      obtain ⟨g1, g2, g3⟩ := prd_ok h1 h2 j a hlt
      have e1 : prd m n (j + 1) a = prd m n j a := by show prd m n j (if _ then _ else _) = _; rw [if_neg hb]
      have e2 : pdv m n (j + 1) a = pdv m n j a := by show (if _ then _ else _) = _; rw [if_neg hb]
      rw [e1, e2]
      exact ⟨g1, g2, Nat.lt_trans g3 (Nat.pow_lt_pow_right (by decide) (by omega))⟩
/-- it divides -/
def pdvd (m a : Nat) : Prop := ∃ q, a = cl q m
def cg (m a b : Nat) : Prop := pdvd m (a ^^^ b)
theorem cg_rf (m a : Nat) : cg m a a := ⟨0, by rw [Nat.xor_self, cl_0l]⟩
theorem cg_sy {m a b : Nat} (h : cg m a b) : cg m b a := by
  obtain ⟨q, hq⟩ := h
  exact ⟨q, by rw [Nat.xor_comm]; exact hq⟩
theorem cg_tr {m a b c : Nat} (h1 : cg m a b) (h2 : cg m b c) : cg m a c := by
  obtain ⟨q, hq⟩ := h1
  obtain ⟨r, hr⟩ := h2
  refine ⟨q ^^^ r, ?_⟩
  rw [cl_al, ← hq, ← hr, Nat.xor_assoc, xor_cx b c]
theorem cg_add {m a b c d : Nat} (h1 : cg m a b) (h2 : cg m c d) : cg m (a ^^^ c) (b ^^^ d) := by
  obtain ⟨q, hq⟩ := h1
  obtain ⟨r, hr⟩ := h2
  exact ⟨q ^^^ r, by rw [cl_al, ← hq, ← hr, xor4]⟩
theorem cg_mul {m a b c d : Nat} (h1 : cg m a b) (h2 : cg m c d) : cg m (cl a c) (cl b d) := by
  obtain ⟨q, hq⟩ := h1
  obtain ⟨r, hr⟩ := h2
  refine ⟨cl q c ^^^ cl b r, ?_⟩
  have e1 : cl a c ^^^ cl b c = cl (cl q c) m := by rw [← cl_al, hq, cl_assoc, cl_comm m c, ← cl_assoc]
  have e2 : cl b c ^^^ cl b d = cl (cl b r) m := by rw [← cl_ar, hr, cl_assoc]
  rw [cl_al, ← e1, ← e2, Nat.xor_assoc, xor_cx]
theorem cg_small {m n a b : Nat} (h1 : 2 ^ n ≤ m) (ha : a < 2 ^ n) (hb : b < 2 ^ n) (h : cg m a b) : a = b := by
  obtain ⟨q, hq⟩ := h
  rcases Nat.eq_zero_or_pos q with z | z
  · rw [z, cl_0l] at hq
    exact xor_eq0 hq
  · exfalso
    have hm0 : m ≠ 0 := by have := Nat.two_pow_pos n; omega
    obtain ⟨i, g1, g2⟩ := dg_ex (a := q) (by omega)
    obtain ⟨j, g3, g4⟩ := dg_ex hm0
    have := (cl_deg g1 g2 g3 g4).1
    have hlt := xor_lt ha hb
    rw [hq] at hlt
    have hj : n ≤ j := by
      rcases Nat.lt_or_ge j n with w | w
      · have := pow_le (show j + 1 ≤ n from w)
        omega
      · exact w
    have := pow_le (show n ≤ i + j by omega)
    omega
theorem cg_prd {m n j a : Nat} (h1 : 2 ^ n ≤ m) (h2 : m < 2 ^ (n + 1)) (h : a < 2 ^ (n + j)) : cg m a (prd m n j a) := by
  obtain ⟨-, g, -⟩ := prd_ok h1 h2 j a h
  refine ⟨pdv m n j a, ?_⟩
  have := congrArg (fun z => z ^^^ prd m n j a) g
  simp only [xor_xc] at this
  exact this
end
section
/-! THE FIELD of degree n by a modulus m -/
def fmx (n m a : Nat) : Nat := if (a <<< 1).testBit n then (a <<< 1) ^^^ m else a <<< 1
def fmL (n m b : Nat) : Nat → Nat → Nat → Nat → Nat
  | 0, _, s, _ => s
  | j + 1, k, s, o => fmL n m b j (k + 1) (if b.testBit k then s ^^^ o else s) (fmx n m o)
/-- the product in the field -/
def fm (n m a b : Nat) : Nat := fmL n m b n 0 0 a
/-- a polynomial of degree n -/
def MDg (n m : Nat) : Prop := 1 ≤ n ∧ 2 ^ n ≤ m ∧ m < 2 ^ (n + 1)
theorem fmx_ok {n m a : Nat} (hm : MDg n m) (ha : a < 2 ^ n) : fmx n m a < 2 ^ n ∧ cg m (fmx n m a) (a <<< 1) := by
  obtain ⟨h0, h1, h2⟩ := hm
  have h3 : a <<< 1 < 2 ^ (n + 1) := shl_lt ha
  unfold fmx
  by_cases hb : (a <<< 1).testBit n
  · rw [if_pos hb]
    refine ⟨?_, 1, ?_⟩
    · apply Nat.lt_pow_two_of_testBit
      intro i hi
      rw [Nat.testBit_xor]
      rcases Nat.eq_or_lt_of_le hi with rfl | hgt
      · rw [hb, tb_top h1 h2]; rfl
      · rw [tb_lt h3 hgt, tb_lt h2 hgt]; rfl
    · rw [Nat.xor_comm (a <<< 1), xor_xc, cl_1l]
  · rw [if_neg hb]
    refine ⟨?_, cg_rf _ _⟩
    apply Nat.lt_pow_two_of_testBit
    intro i hi
    rcases Nat.eq_or_lt_of_le hi with rfl | hgt
    · simpa using hb
    · exact tb_lt h3 hgt
theorem fmL_ok {n m a b : Nat} (hm : MDg n m) : ∀ (j k s o : Nat), o < 2 ^ n → s < 2 ^ n → cg m o (a <<< k) → cg m s (clN a b k) → fmL n m b j k s o < 2 ^ n ∧ cg m (fmL n m b j k s o) (clN a b (k + j))
  | 0, k, s, o, _, hs, _, h => ⟨hs, h⟩
  | j + 1, k, s, o, ho, hs, h1, h2 => by
    obtain ⟨g1, g2⟩ := fmx_ok hm ho
    have h3 : cg m (fmx n m o) (a <<< (k + 1)) := by
      refine cg_tr g2 ?_
      obtain ⟨q, hq⟩ := h1
      refine ⟨q <<< 1, ?_⟩
      rw [cl_shl, ← hq, shl_xor, ← Nat.shiftLeft_add]
    have hs' : (if b.testBit k then s ^^^ o else s) < 2 ^ n := by
      split
      · exact xor_lt hs ho
      · exact hs
    have h4 : cg m (if b.testBit k then s ^^^ o else s) (clN a b (k + 1)) := by
      show cg m _ (clN a b k ^^^ _)
      split
      · exact cg_add h2 h1
      · rw [Nat.xor_zero]; exact h2
    have := fmL_ok hm j (k + 1) _ _ g1 hs' h3 h4
    rwa [show k + 1 + j = k + (j + 1) by omega] at this
theorem fm_ok {n m a b : Nat} (hm : MDg n m) (ha : a < 2 ^ n) (hb : b < 2 ^ n) : fm n m a b < 2 ^ n ∧ cg m (fm n m a b) (cl a b) := by
  have := fmL_ok (a := a) (b := b) hm n 0 0 a ha (Nat.two_pow_pos n) (by rw [Nat.shiftLeft_zero]; exact cg_rf _ _) (cg_rf _ _)
  rw [Nat.zero_add, clN_eq hb] at this
  exact this
theorem fm_lt {n m a b : Nat} (hm : MDg n m) (ha : a < 2 ^ n) (hb : b < 2 ^ n) : fm n m a b < 2 ^ n := (fm_ok hm ha hb).1
theorem fm_eq {n m a b r : Nat} (hm : MDg n m) (ha : a < 2 ^ n) (hb : b < 2 ^ n) (hr : r < 2 ^ n) (h : cg m r (cl a b)) : fm n m a b = r :=
  cg_small hm.2.1 (fm_lt hm ha hb) hr (cg_tr (fm_ok hm ha hb).2 (cg_sy h))
theorem fm_comm {n m a b : Nat} (hm : MDg n m) (ha : a < 2 ^ n) (hb : b < 2 ^ n) : fm n m a b = fm n m b a :=
  fm_eq hm ha hb (fm_lt hm hb ha) (by rw [cl_comm a b]; exact (fm_ok hm hb ha).2)
theorem fm_assoc {n m a b c : Nat} (hm : MDg n m) (ha : a < 2 ^ n) (hb : b < 2 ^ n) (hc : c < 2 ^ n) : fm n m (fm n m a b) c = fm n m a (fm n m b c) := by
  refine fm_eq hm (fm_lt hm ha hb) hc (fm_lt hm ha (fm_lt hm hb hc)) ?_
  refine cg_tr (fm_ok hm ha (fm_lt hm hb hc)).2 ?_
  refine cg_tr (cg_mul (cg_rf m a) (fm_ok hm hb hc).2) ?_
  rw [← cl_assoc]
  exact cg_mul (cg_sy (fm_ok hm ha hb).2) (cg_rf m c)
theorem fm_addl {n m a b c : Nat} (hm : MDg n m) (ha : a < 2 ^ n) (hb : b < 2 ^ n) (hc : c < 2 ^ n) : fm n m (a ^^^ b) c = fm n m a c ^^^ fm n m b c :=
  fm_eq hm (xor_lt ha hb) hc (xor_lt (fm_lt hm ha hc) (fm_lt hm hb hc)) (by rw [cl_al]; exact cg_add (fm_ok hm ha hc).2 (fm_ok hm hb hc).2)
theorem fm_addr {n m a b c : Nat} (hm : MDg n m) (ha : a < 2 ^ n) (hb : b < 2 ^ n) (hc : c < 2 ^ n) : fm n m c (a ^^^ b) = fm n m c a ^^^ fm n m c b :=
  fm_eq hm hc (xor_lt ha hb) (xor_lt (fm_lt hm hc ha) (fm_lt hm hc hb)) (by rw [cl_ar]; exact cg_add (fm_ok hm hc ha).2 (fm_ok hm hc hb).2)
theorem one_lt {n m : Nat} (hm : MDg n m) : 1 < 2 ^ n := Nat.one_lt_two_pow (by have := hm.1; omega)
theorem zero_lt2 (n : Nat) : 0 < 2 ^ n := Nat.two_pow_pos n
theorem fm_1r {n m a : Nat} (hm : MDg n m) (ha : a < 2 ^ n) : fm n m a 1 = a := fm_eq hm ha (one_lt hm) ha (by rw [cl_1r]; exact cg_rf _ _)
theorem fm_1l {n m a : Nat} (hm : MDg n m) (ha : a < 2 ^ n) : fm n m 1 a = a := fm_eq hm (one_lt hm) ha ha (by rw [cl_1l]; exact cg_rf _ _)
theorem fm_0r {n m a : Nat} (hm : MDg n m) (ha : a < 2 ^ n) : fm n m a 0 = 0 := fm_eq hm ha (zero_lt2 n) (zero_lt2 n) (by rw [cl_0r]; exact cg_rf _ _)
theorem fm_0l {n m a : Nat} (hm : MDg n m) (ha : a < 2 ^ n) : fm n m 0 a = 0 := fm_eq hm (zero_lt2 n) ha (zero_lt2 n) (by rw [cl_0l]; exact cg_rf _ _)
/-! what cannot be split -/
def irr (m : Nat) : Prop := ∀ a b, cl a b = m → a = 1 ∨ b = 1
/-- a modulus of the field n -/
def MOD (n m : Nat) : Prop := MDg n m ∧ irr m
theorem pdvd_rf (a : Nat) : pdvd a a := ⟨1, by rw [cl_1l]⟩
theorem pdvd_mul {g a : Nat} (q : Nat) (h : pdvd g a) : pdvd g (cl q a) := by
  obtain ⟨r, hr⟩ := h
  exact ⟨cl q r, by rw [hr, cl_assoc]⟩
theorem pdvd_add {g a b : Nat} (h1 : pdvd g a) (h2 : pdvd g b) : pdvd g (a ^^^ b) := by
  obtain ⟨q, hq⟩ := h1
  obtain ⟨r, hr⟩ := h2
  exact ⟨q ^^^ r, by rw [cl_al, hq, hr]⟩
theorem divis {a m : Nat} (ha : a ≠ 0) : ∃ q r, m = cl q a ^^^ r ∧ r < a := by
  obtain ⟨i, h1, h2⟩ := dg_ex ha
  obtain ⟨g1, g2, -⟩ := prd_ok h1 h2 m m (Nat.lt_of_lt_of_le (lt_self m) (pow_le (Nat.le_add_left _ _)))
  exact ⟨_, _, g2, Nat.lt_of_lt_of_le g1 h1⟩
theorem bez : ∀ (N a m : Nat), a ≤ N → ∃ g u v, g = cl u a ^^^ cl v m ∧ pdvd g a ∧ pdvd g m := by
  intro N
  induction N with
  | zero =>
    intro a m ha
    have : a = 0 := by omega
    subst this
    exact ⟨m, 0, 1, by rw [cl_0l, cl_1l, Nat.zero_xor], ⟨0, (cl_0l m).symm⟩, pdvd_rf m⟩
  | succ N ih =>
    intro a m ha
    rcases Nat.eq_zero_or_pos a with z | z
    · subst z
      exact ⟨m, 0, 1, by rw [cl_0l, cl_1l, Nat.zero_xor], ⟨0, (cl_0l m).symm⟩, pdvd_rf m⟩
    · obtain ⟨q, r, hqr, hlt⟩ := divis (a := a) (m := m) (by omega)
      obtain ⟨g, u, v, h1, h2, h3⟩ := ih r a (by omega)
      refine ⟨g, cl u q ^^^ v, u, ?_, h3, ?_⟩
      · have hr : r = m ^^^ cl q a := by rw [hqr, Nat.xor_comm (cl q a), xor_xc]
        rw [h1, hr, cl_ar, cl_al, cl_assoc, Nat.xor_comm (cl u m), Nat.xor_assoc, Nat.xor_assoc, Nat.xor_comm (cl u m)]
      · rw [hqr]
        exact pdvd_add (pdvd_mul q h3) h2
theorem not_dvd_small {n m a : Nat} (hm : MDg n m) (ha : a < 2 ^ n) (h0 : a ≠ 0) : ¬ pdvd m a := fun h => h0 (cg_small hm.2.1 ha (zero_lt2 n) (by unfold cg; rw [Nat.xor_zero]; exact h))
theorem inv_ex {n m a : Nat} (hM : MOD n m) (ha : a < 2 ^ n) (h0 : a ≠ 0) : ∃ b, b < 2 ^ n ∧ fm n m a b = 1 := by
  obtain ⟨hm, hi⟩ := hM
  obtain ⟨g, u, v, h1, h2, q, hq⟩ := bez a a m (Nat.le_refl a)
  rcases hi q g hq.symm with w | w
  · exfalso
    rw [w, cl_1l] at hq
    rw [← hq] at h2
    exact not_dvd_small hm ha h0 h2
  · subst w
    have hu : u < 2 ^ (n + u) := Nat.lt_of_lt_of_le (lt_self u) (pow_le (Nat.le_add_left _ _))
    obtain ⟨g1, -, -⟩ := prd_ok hm.2.1 hm.2.2 u u hu
    refine ⟨prd m n u u, g1, fm_eq hm ha g1 (one_lt hm) ?_⟩
    have e1 : cg m 1 (cl u a) := ⟨v, by rw [h1, Nat.xor_comm (cl u a), xor_xc]⟩
    refine cg_tr e1 ?_
    rw [cl_comm u a]
    exact cg_mul (cg_rf m a) (cg_prd hm.2.1 hm.2.2 hu)
theorem fm_dom {n m a b : Nat} (hM : MOD n m) (ha : a < 2 ^ n) (hb : b < 2 ^ n) (h : fm n m a b = 0) : a = 0 ∨ b = 0 := by
  rcases Nat.eq_zero_or_pos a with z | z
  · exact Or.inl z
  · right
    obtain ⟨c, hc, he⟩ := inv_ex hM ha (by omega)
    have hm := hM.1
    have : fm n m c (fm n m a b) = b := by rw [← fm_assoc hm hc ha hb, fm_comm hm hc ha, he, fm_1l hm hb]
    rw [← this, h, fm_0r hm hc]
theorem fm_cancel {n m a b c : Nat} (hM : MOD n m) (ha : a < 2 ^ n) (hb : b < 2 ^ n) (hc : c < 2 ^ n) (h0 : c ≠ 0) (h : fm n m a c = fm n m b c) : a = b := by
  have h1 : fm n m (a ^^^ b) c = 0 := by rw [fm_addl hM.1 ha hb hc, h, Nat.xor_self]
  rcases fm_dom hM (xor_lt ha hb) hc h1 with w | w
  · exact xor_eq0 w
  · exact absurd w h0
/-! powers -/
def fpw (n m a : Nat) : Nat → Nat
  | 0 => 1
  | k + 1 => fm n m (fpw n m a k) a
theorem fpw_lt {n m a : Nat} (hm : MDg n m) (ha : a < 2 ^ n) : ∀ k, fpw n m a k < 2 ^ n
  | 0 => one_lt hm
  | k + 1 => fm_lt hm (fpw_lt hm ha k) ha
theorem fpw_1 {n m a : Nat} (hm : MDg n m) (ha : a < 2 ^ n) : fpw n m a 1 = a := fm_1l hm ha
theorem fpw_add {n m a : Nat} (hm : MDg n m) (ha : a < 2 ^ n) (i : Nat) : ∀ j, fpw n m a (i + j) = fm n m (fpw n m a i) (fpw n m a j)
  | 0 => (fm_1r hm (fpw_lt hm ha i)).symm
  | j + 1 => by
    show fm n m (fpw n m a (i + j)) a = fm n m _ (fm n m (fpw n m a j) a)
    rw [fpw_add hm ha i j, fm_assoc hm (fpw_lt hm ha i) (fpw_lt hm ha j) ha]
theorem fpw_mul {n m a : Nat} (hm : MDg n m) (ha : a < 2 ^ n) (i : Nat) : ∀ j, fpw n m a (i * j) = fpw n m (fpw n m a i) j
  | 0 => rfl
  | j + 1 => by
    rw [Nat.mul_succ, fpw_add hm ha, fpw_mul hm ha i j]
    rfl
theorem fm_4 {n m a b c d : Nat} (hm : MDg n m) (ha : a < 2 ^ n) (hb : b < 2 ^ n) (hc : c < 2 ^ n) (hd : d < 2 ^ n) : fm n m (fm n m a b) (fm n m c d) = fm n m (fm n m a c) (fm n m b d) := by
  rw [fm_assoc hm ha hb (fm_lt hm hc hd), ← fm_assoc hm hb hc hd, fm_comm hm hb hc, fm_assoc hm hc hb hd, ← fm_assoc hm ha hc (fm_lt hm hb hd)]
theorem fpw_fm {n m a b : Nat} (hm : MDg n m) (ha : a < 2 ^ n) (hb : b < 2 ^ n) : ∀ k, fpw n m (fm n m a b) k = fm n m (fpw n m a k) (fpw n m b k)
  | 0 => (fm_1r hm (one_lt hm)).symm
  | k + 1 => by
    show fm n m (fpw n m (fm n m a b) k) (fm n m a b) = fm n m (fm n m _ a) (fm n m _ b)
    rw [fpw_fm hm ha hb k, fm_4 hm (fpw_lt hm ha k) (fpw_lt hm hb k) ha hb]
theorem fpw_one {n m : Nat} (hm : MDg n m) : ∀ k, fpw n m 1 k = 1
  | 0 => rfl
  | k + 1 => by show fm n m (fpw n m 1 k) 1 = 1; rw [fpw_one hm k, fm_1r hm (one_lt hm)]
theorem fpw_ne0 {n m a : Nat} (hM : MOD n m) (ha : a < 2 ^ n) (h0 : a ≠ 0) : ∀ k, fpw n m a k ≠ 0
  | 0 => by show (1 : Nat) ≠ 0; decide
  | k + 1 => fun h => by
    rcases fm_dom hM (fpw_lt hM.1 ha k) ha h with w | w
    · exact fpw_ne0 hM ha h0 k w
    · exact h0 w
theorem fpw_0 {n m : Nat} (hm : MDg n m) {k : Nat} (hk : k ≠ 0) : fpw n m 0 k = 0 := by
  cases k with
  | zero => exact absurd rfl hk
  | succ k => exact fm_0r hm (fpw_lt hm (zero_lt2 n) k)
/-! squares -/
def sqn (n m : Nat) : Nat → Nat → Nat
  | 0, a => a
  | k + 1, a => sqn n m k (fm n m a a)
theorem sqn_lt {n m : Nat} (hm : MDg n m) : ∀ (k a : Nat), a < 2 ^ n → sqn n m k a < 2 ^ n
  | 0, _, ha => ha
  | k + 1, _, ha => sqn_lt hm k _ (fm_lt hm ha ha)
theorem sqn_succ {n m : Nat} : ∀ (k a : Nat), sqn n m (k + 1) a = fm n m (sqn n m k a) (sqn n m k a)
  | 0, _ => rfl
  | k + 1, a => sqn_succ k (fm n m a a)
theorem sqn_add {n m : Nat} : ∀ (i j a : Nat), sqn n m (i + j) a = sqn n m j (sqn n m i a)
  | 0, j, a => by rw [Nat.zero_add]; rfl
  | i + 1, j, a => by rw [show i + 1 + j = (i + j) + 1 by omega]; exact sqn_add i j (fm n m a a)
theorem sqn_pw {n m : Nat} (hm : MDg n m) : ∀ (k a : Nat), a < 2 ^ n → sqn n m k a = fpw n m a (2 ^ k)
  | 0, a, ha => (fpw_1 hm ha).symm
  | k + 1, a, ha => by
    rw [sqn_succ, sqn_pw hm k a ha, ← fpw_add hm ha]
    congr 1
    rw [Nat.pow_succ]
    omega
theorem sq_add {n m a b : Nat} (hm : MDg n m) (ha : a < 2 ^ n) (hb : b < 2 ^ n) : fm n m (a ^^^ b) (a ^^^ b) = fm n m a a ^^^ fm n m b b := by
  rw [fm_addl hm ha hb (xor_lt ha hb), fm_addr hm ha hb ha, fm_addr hm ha hb hb, fm_comm hm hb ha, Nat.xor_assoc, xor_cx]
theorem sqn_xor {n m : Nat} (hm : MDg n m) : ∀ (k a b : Nat), a < 2 ^ n → b < 2 ^ n → sqn n m k (a ^^^ b) = sqn n m k a ^^^ sqn n m k b
  | 0, _, _, _, _ => rfl
  | k + 1, a, b, ha, hb => by
    show sqn n m k (fm n m (a ^^^ b) (a ^^^ b)) = _
    rw [sq_add hm ha hb, sqn_xor hm k _ _ (fm_lt hm ha ha) (fm_lt hm hb hb)]
    rfl
theorem sqn_fm {n m : Nat} (hm : MDg n m) : ∀ (k a b : Nat), a < 2 ^ n → b < 2 ^ n → sqn n m k (fm n m a b) = fm n m (sqn n m k a) (sqn n m k b)
  | 0, _, _, _, _ => rfl
  | k + 1, a, b, ha, hb => by
    show sqn n m k (fm n m (fm n m a b) (fm n m a b)) = _
    rw [fm_4 hm ha hb ha hb, sqn_fm hm k _ _ (fm_lt hm ha ha) (fm_lt hm hb hb)]
    rfl
theorem sqn_1 {n m : Nat} (hm : MDg n m) (k : Nat) : sqn n m k 1 = 1 := by rw [sqn_pw hm k 1 (one_lt hm), fpw_one hm]
theorem sqn_0 {n m : Nat} (hm : MDg n m) (k : Nat) : sqn n m k 0 = 0 := by rw [sqn_pw hm k 0 (zero_lt2 n), fpw_0 hm (Nat.ne_of_gt (Nat.two_pow_pos k))]
end
section
/-! NUMBERS: Int32 as Nat -/
theorem zz_sl : ∀ n, n < 32 → ((nI n &&& 31).toBitVec.smod 32).toNat = n := by decide +kernel
theorem zn_and (a b : Nat) : nI a &&& nI b = nI (a &&& b) := by
  apply Int32.toBitVec_inj.1
  show BitVec.ofNat 32 a &&& BitVec.ofNat 32 b = BitVec.ofNat 32 (a &&& b)
  apply BitVec.eq_of_getLsbD_eq
  intro i hi
  simp [hi]
theorem zn_or (a b : Nat) : nI a ||| nI b = nI (a ||| b) := by
  apply Int32.toBitVec_inj.1
  show BitVec.ofNat 32 a ||| BitVec.ofNat 32 b = BitVec.ofNat 32 (a ||| b)
  apply BitVec.eq_of_getLsbD_eq
  intro i hi
  simp [hi]
theorem zn_xor (a b : Nat) : nI a ^^^ nI b = nI (a ^^^ b) := by
  apply Int32.toBitVec_inj.1
  show BitVec.ofNat 32 a ^^^ BitVec.ofNat 32 b = BitVec.ofNat 32 (a ^^^ b)
  apply BitVec.eq_of_getLsbD_eq
  intro i hi
  simp [hi]
theorem zn_shl {a k : Nat} (hk : k < 32) (h : a <<< k < 2 ^ 32) : i_shl (nI a) (nI k) = nI (a <<< k) := by
  rw [Nat.shiftLeft_eq] at h ⊢
  exact pk_shlN (nI k &&& 31) k (zz_sl k hk) h
theorem zn_shr {a k : Nat} (ha : a < 2 ^ 31) (hk : k < 32) : i_shr (nI a) (nI k) = nI (a >>> k) := by
  rw [Nat.shiftRight_eq_div_pow]
  exact pk_shrN ha (nI k &&& 31) k (zz_sl k hk)
theorem tb_div (a k : Nat) : (a >>> k) % 2 = (a.testBit k).toNat := by
  rw [Nat.toNat_testBit, Nat.shiftRight_eq_div_pow]
theorem zn_bit {a k : Nat} (ha : a < 2 ^ 31) (hk : k < 32) : i_shr (nI a) (nI k) &&& 1 = nI (a.testBit k).toNat := by
  rw [zn_shr ha hk, ← tb_div]
  show nI (a >>> k) &&& nI 1 = _
  rw [zn_and, show (1 : Nat) = 2 ^ 1 - 1 from rfl, Nat.and_two_pow_sub_one_eq_mod]
theorem zn_bit1 {a k : Nat} (ha : a < 2 ^ 31) (hk : k < 32) : (i_shr (nI a) (nI k) &&& 1 = 1) ↔ a.testBit k = true := by
  rw [zn_bit ha hk]
  cases a.testBit k
  · exact ⟨fun h => absurd h (by decide), fun h => by cases h⟩
  · exact ⟨fun _ => rfl, fun _ => rfl⟩
theorem zn_bit0 {a k : Nat} (ha : a < 2 ^ 31) (hk : k < 32) : (i_shr (nI a) (nI k) &&& 1 = 0) ↔ a.testBit k = false := by
  rw [zn_bit ha hk]
  cases a.testBit k
  · exact ⟨fun _ => rfl, fun _ => rfl⟩
  · exact ⟨fun h => absurd h (by decide), fun h => by cases h⟩
theorem zn_lt {a b : Nat} (ha : a < 2 ^ 31) (hb : b < 2 ^ 31) : nI a < nI b ↔ a < b := nI_ltI ha hb
theorem zn_le {a b : Nat} (ha : a < 2 ^ 31) (hb : b < 2 ^ 31) : nI a ≤ nI b ↔ a ≤ b := nI_leI ha hb
theorem zn_eq {a b : Nat} (ha : a < 2 ^ 31) (hb : b < 2 ^ 31) : nI a = nI b ↔ a = b := nI_eq ha hb
/-- a method by its entry -/
theorem SysOK.go {P : PSem} (S : SysOK P) {i n : Nat} {q : List Ent × Nat × Nat} {as : List Value} {h : PH} {K : PK} (f : Nat) (hq : progs[i]? = some q) (hn : mxl[i]? = some n) (hc : Nat.ble (ctg as) n = true) (hw : wp P i q.2.1 q.2.2 q.1 [] K f (q.1.drop 0) (entL as n) [] h 0 0) : P.1 i as h K :=
  S.2.1 i n as h K hn hc (S.1 i 0 q [] f _ _ _ _ _ _ hq hw)
/-- a place -/
theorem SysOK.at {P : PSem} (S : SysOK P) {i ix : Nat} {q : List Ent × Nat × Nat} {pl : PL} {st : List Value} {h : PH} {ca sl : Nat} {K : PK} (f : Nat) (stops : List Nat) (hq : progs[i]? = some q) (hw : wp P i q.2.1 q.2.2 q.1 stops K f (q.1.drop ix) pl st h ca sl) : P.2 i ix pl st h ca sl K :=
  S.1 i ix q stops f _ _ _ _ _ _ hq hw
/-! branches over numbers -/
theorem bk_le {a b : Nat} {J N : Prop} (ha : a < 2 ^ 31) (hb : b < 2 ^ 31) (h1 : a ≤ b → J) (h2 : b < a → N) : (nI a ≤ nI b → J) ∧ (¬ nI a ≤ nI b → N) :=
  ⟨fun c => h1 ((zn_le ha hb).mp c), fun c => h2 (Nat.lt_of_not_le (fun q => c ((zn_le ha hb).mpr q)))⟩
theorem bk_lt {a b : Nat} {J N : Prop} (ha : a < 2 ^ 31) (hb : b < 2 ^ 31) (h1 : a < b → J) (h2 : b ≤ a → N) : (nI a < nI b → J) ∧ (¬ nI a < nI b → N) :=
  ⟨fun c => h1 ((zn_lt ha hb).mp c), fun c => h2 (Nat.le_of_not_lt (fun q => c ((zn_lt ha hb).mpr q)))⟩
theorem bk_eq {a b : Nat} {J N : Prop} (ha : a < 2 ^ 31) (hb : b < 2 ^ 31) (h1 : a = b → J) (h2 : a ≠ b → N) : (nI a = nI b → J) ∧ (¬ nI a = nI b → N) :=
  ⟨fun c => h1 ((zn_eq ha hb).mp c), fun c => h2 (fun q => c ((zn_eq ha hb).mpr q))⟩
theorem bk_ne {a b : Nat} {J N : Prop} (ha : a < 2 ^ 31) (hb : b < 2 ^ 31) (h1 : a ≠ b → J) (h2 : a = b → N) : (¬ nI a = nI b → J) ∧ (nI a = nI b → N) :=
  ⟨fun c => h1 (fun q => c ((zn_eq ha hb).mpr q)), fun c => h2 ((zn_eq ha hb).mp c)⟩
theorem bk_t {c J N : Prop} (hc : c) (h : J) : (c → J) ∧ (¬ c → N) := ⟨fun _ => h, fun q => absurd hc q⟩
theorem bk_f {c J N : Prop} (hc : ¬ c) (h : N) : (c → J) ∧ (¬ c → N) := ⟨fun q => absurd q hc, fun _ => h⟩
theorem bk_nt {c J N : Prop} (hc : ¬ c) (h : J) : (¬ c → J) ∧ (c → N) := ⟨fun _ => h, fun q => absurd q hc⟩
theorem bk_nf {c J N : Prop} (hc : c) (h : N) : (¬ c → J) ∧ (c → N) := ⟨fun q => absurd hc q, fun _ => h⟩
def bI (b : Bool) : Int32 := nI b.toNat
theorem bI_01 (b : Bool) : bI b = 0 ∨ bI b = 1 := by cases b; exact Or.inl rfl; exact Or.inr rfl
theorem bI_eq0 (b : Bool) : bI b = 0 ↔ b = false := by cases b <;> decide
theorem bI_ne0 (b : Bool) : ¬ bI b = 0 ↔ b = true := by cases b <;> decide
theorem bk_b0 {b : Bool} {J N : Prop} (h1 : b = false → J) (h2 : b = true → N) : (bI b = 0 → J) ∧ (¬ bI b = 0 → N) := ⟨fun c => h1 ((bI_eq0 b).mp c), fun c => h2 ((bI_ne0 b).mp c)⟩
theorem bk_b1 {b : Bool} {J N : Prop} (h1 : b = true → J) (h2 : b = false → N) : (¬ bI b = 0 → J) ∧ (bI b = 0 → N) := ⟨fun c => h1 ((bI_ne0 b).mp c), fun c => h2 ((bI_eq0 b).mp c)⟩
end
section
/-! FERMAT, orders, the powers of a primitive element -/
theorem sqn_fpw {n m a : Nat} (hm : MDg n m) (ha : a < 2 ^ n) (j : Nat) : ∀ k, sqn n m j (fpw n m a k) = fpw n m (sqn n m j a) k
  | 0 => sqn_1 hm j
  | k + 1 => by
    show sqn n m j (fm n m (fpw n m a k) a) = fm n m (fpw n m _ k) _
    rw [sqn_fm hm j _ _ (fpw_lt hm ha k) ha, sqn_fpw hm ha j k]
theorem pw_two {n m : Nat} (hm : MDg n m) (h2 : 2 ≤ n) : ∀ i, i < n → fpw n m 2 i = 2 ^ i
  | 0, _ => rfl
  | i + 1, hi => by
    show fm n m (fpw n m 2 i) 2 = _
    rw [pw_two hm h2 i (by omega)]
    have e2 : 2 < 2 ^ n := Nat.lt_of_lt_of_le (by decide : 2 < 2 ^ 2) (pow_le h2)
    refine fm_eq hm (Nat.pow_lt_pow_right (by decide) (by omega)) e2 (Nat.pow_lt_pow_right (by decide) hi) ?_
    rw [cl_2l, Nat.shiftLeft_eq, Nat.pow_succ, Nat.mul_comm]
    exact cg_rf _ _
/-- a field in which all are their own 2^n-th powers -/
def GF (n m : Nat) : Prop := MOD n m ∧ ∀ a, a < 2 ^ n → sqn n m n a = a
theorem GF_of {n m : Nat} (hM : MOD n m) (h2 : 2 ≤ n) (hx : sqn n m n 2 = 2) : GF n m := by
  refine ⟨hM, ?_⟩
  have hm := hM.1
  have e2 : 2 < 2 ^ n := Nat.lt_of_lt_of_le (by decide : 2 < 2 ^ 2) (pow_le h2)
  have key : ∀ (a k : Nat), k ≤ n → sqn n m n (a % 2 ^ k) = a % 2 ^ k := by
    intro a k
    induction k with
    | zero => intro _; rw [Nat.pow_zero, Nat.mod_one]; exact sqn_0 hm n
    | succ k ih =>
      intro hk
      have hlt : a % 2 ^ k < 2 ^ n := Nat.lt_of_lt_of_le (Nat.mod_lt _ (Nat.two_pow_pos k)) (pow_le (by omega))
      have hlk : 2 ^ k < 2 ^ n := Nat.pow_lt_pow_right (by decide) (by omega)
      rw [mod_succ]
      split
      · rw [sqn_xor hm n _ _ hlt hlk, ih (by omega)]
        congr 1
        rw [← pw_two hm h2 k (by omega), sqn_fpw hm e2, hx]
      · rw [Nat.xor_zero]
        exact ih (by omega)
  intro a ha
  have := key a n (Nat.le_refl n)
  rwa [Nat.mod_eq_of_lt ha] at this
theorem GF_1 {m : Nat} (hM : MOD 1 m) : GF 1 m := by
  refine ⟨hM, fun a ha => ?_⟩
  show fm 1 m a a = a
  rcases (show a = 0 ∨ a = 1 by have : a < 2 := ha; omega) with rfl | rfl
  · exact fm_0r hM.1 ha
  · exact fm_1r hM.1 ha
theorem fermat {n m a : Nat} (hG : GF n m) (ha : a < 2 ^ n) (h0 : a ≠ 0) : fpw n m a (2 ^ n - 1) = 1 := by
  have hm := hG.1.1
  have h1 : fpw n m a (2 ^ n - 1 + 1) = a := by
    rw [Nat.sub_add_cancel (Nat.two_pow_pos n), ← sqn_pw hm n a ha]
    exact hG.2 a ha
  refine fm_cancel hG.1 (fpw_lt hm ha _) (one_lt hm) ha h0 ?_
  rw [fm_1l hm ha]
  exact h1
/-- the order -/
def isOrd (n m a k : Nat) : Prop := 0 < k ∧ fpw n m a k = 1 ∧ ∀ j, 0 < j → j < k → fpw n m a j ≠ 1
theorem least_ex {p : Nat → Prop} : ∀ (N : Nat), p N → ∃ k, k ≤ N ∧ p k ∧ ∀ j, j < k → ¬ p j := by
  intro N
  induction N using Nat.strongRecOn with
  | _ N ih =>
    intro hN
    by_cases h : ∃ j, j < N ∧ p j
    · obtain ⟨j, hj, hp⟩ := h
      obtain ⟨k, h1, h2, h3⟩ := ih j hj hp
      exact ⟨k, by omega, h2, h3⟩
    · exact ⟨N, Nat.le_refl N, hN, fun j hj hp => h ⟨j, hj, hp⟩⟩
theorem two_pow_ge2 {n : Nat} (h : 1 ≤ n) : 2 ≤ 2 ^ n := by
  have := pow_le h
  omega
theorem ord_ex {n m a : Nat} (hG : GF n m) (ha : a < 2 ^ n) (h0 : a ≠ 0) : ∃ k, k ≤ 2 ^ n - 1 ∧ isOrd n m a k := by
  have hn := two_pow_ge2 hG.1.1.1
  obtain ⟨k, h1, h2, h3⟩ := least_ex (p := fun k => 0 < k ∧ fpw n m a k = 1) (2 ^ n - 1) ⟨by omega, fermat hG ha h0⟩
  exact ⟨k, h1, h2.1, h2.2, fun j hj hk he => h3 j hk ⟨hj, he⟩⟩
theorem ord_dvd {n m a k j : Nat} (hm : MDg n m) (ha : a < 2 ^ n) (ho : isOrd n m a k) (h : fpw n m a j = 1) : k ∣ j := by
  obtain ⟨h1, h2, h3⟩ := ho
  have e : j = k * (j / k) + j % k := (Nat.div_add_mod j k).symm
  have h4 : fpw n m a (j % k) = 1 := by
    have h5 : fpw n m a (k * (j / k) + j % k) = 1 := by rw [← e]; exact h
    rw [fpw_add hm ha, fpw_mul hm ha, h2, fpw_one hm, fm_1l hm (fpw_lt hm ha _)] at h5
    exact h5
  rcases Nat.eq_zero_or_pos (j % k) with z | z
  · exact Nat.dvd_of_mod_eq_zero z
  · exact absurd h4 (h3 _ z (Nat.mod_lt _ h1))
theorem ord_uq {n m a k j : Nat} (h1 : isOrd n m a k) (h2 : isOrd n m a j) : k = j := by
  rcases Nat.lt_trichotomy k j with h | h | h
  · exact absurd h1.2.1 (h2.2.2 k h1.1 h)
  · exact h
  · exact absurd h2.2.1 (h1.2.2 j h2.1 h)
theorem pow_of_dvd {n m a k j : Nat} (hm : MDg n m) (ha : a < 2 ^ n) (h : fpw n m a k = 1) (hd : k ∣ j) : fpw n m a j = 1 := by
  obtain ⟨c, rfl⟩ := hd
  rw [fpw_mul hm ha, h, fpw_one hm]
theorem php : ∀ (N : Nat) (f : Nat → Nat), (∀ i, i < N → f i < N) → (∀ i j, i < N → j < N → f i = f j → i = j) → ∀ y, y < N → ∃ i, i < N ∧ f i = y := by
  intro N
  induction N with
  | zero => intro f _ _ y hy; omega
  | succ N ih =>
    intro f h1 h2 y hy
    by_cases hyv : f N = y
    · exact ⟨N, by omega, hyv⟩
    have fne : ∀ i, i < N → f i ≠ f N := fun i hi e => by
      have := h2 i N (by omega) (by omega) e
      omega
    have hv := h1 N (by omega)
    have g1 : ∀ i, i < N → (if f i = N then f N else f i) < N := by
      intro i hi
      have a1 := h1 i (by omega)
      have a2 := fne i hi
      split
      · omega
      · omega
    have g2 : ∀ i j, i < N → j < N → (if f i = N then f N else f i) = (if f j = N then f N else f j) → i = j := by
      intro i j hi hj e
      have a1 := fne i hi
      have a2 := fne j hj
      by_cases e1 : f i = N <;> by_cases e2 : f j = N
      · exact h2 i j (by omega) (by omega) (by omega)
      · rw [if_pos e1, if_neg e2] at e
        exact absurd e.symm a2
      · rw [if_neg e1, if_pos e2] at e
        exact absurd e a1
      · rw [if_neg e1, if_neg e2] at e
        exact h2 i j (by omega) (by omega) e
    by_cases hyN : y = N
    · by_cases hvN : f N = N
      · exact absurd (by omega) hyv
      · obtain ⟨i, hi, he⟩ := ih _ g1 g2 (f N) (by omega)
        by_cases e1 : f i = N
        · exact ⟨i, by omega, by omega⟩
        · rw [if_neg e1] at he
          exact absurd he (fne i hi)
    · obtain ⟨i, hi, he⟩ := ih _ g1 g2 y (by omega)
      by_cases e1 : f i = N
      · rw [if_pos e1] at he
        exact absurd he hyv
      · rw [if_neg e1] at he
        exact ⟨i, by omega, he⟩
/-- a primitive element -/
def prim (n m g : Nat) : Prop := g < 2 ^ n ∧ g ≠ 0 ∧ isOrd n m g (2 ^ n - 1)
theorem pw_inj {n m g k i j : Nat} (hM : MOD n m) (hg : g < 2 ^ n) (h0 : g ≠ 0) (ho : isOrd n m g k) (hi : i < k) (hj : j < k) (h : fpw n m g i = fpw n m g j) : i = j := by
  have hm := hM.1
  have key : ∀ i j, i < k → j < k → i ≤ j → fpw n m g i = fpw n m g j → i = j := by
    intro i j hi hj hij h
    obtain ⟨d, rfl⟩ := Nat.le.dest hij
    rw [fpw_add hm hg] at h
    have h1 : fpw n m g d = 1 := by
      refine (fm_cancel hM (one_lt hm) (fpw_lt hm hg d) (fpw_lt hm hg i) (fpw_ne0 hM hg h0 i) ?_).symm
      rw [fm_1l hm (fpw_lt hm hg i), fm_comm hm (fpw_lt hm hg d) (fpw_lt hm hg i)]
      exact h
    rcases Nat.eq_zero_or_pos d with z | z
    · omega
    · exact absurd h1 (ho.2.2 d z (by omega))
  rcases Nat.le_total i j with w | w
  · exact key i j hi hj w h
  · exact (key j i hj hi w h.symm).symm
/-- every element above 0 is a power of a primitive one -/
theorem cyc {n m g a : Nat} (hM : MOD n m) (hp : prim n m g) (ha : a < 2 ^ n) (h0 : a ≠ 0) : ∃ i, i < 2 ^ n - 1 ∧ fpw n m g i = a := by
  obtain ⟨hg, hg0, ho⟩ := hp
  have hm := hM.1
  have nz := fun i => fpw_ne0 hM hg hg0 i
  have lt := fun i => fpw_lt hm hg i
  obtain ⟨i, hi, he⟩ := php (2 ^ n - 1) (fun i => fpw n m g i - 1) (fun i hi => by have := nz i; have := lt i; omega) (fun i j hi hj e => pw_inj hM hg hg0 ho hi hj (by have := nz i; have := nz j; omega)) (a - 1) (by omega)
  refine ⟨i, hi, ?_⟩
  have := nz i
  omega
theorem pw_mod {n m a N : Nat} (hm : MDg n m) (ha : a < 2 ^ n) (h : fpw n m a N = 1) (k : Nat) : fpw n m a (k % N) = fpw n m a k := by
  have e : k = N * (k / N) + k % N := (Nat.div_add_mod k N).symm
  have : fpw n m a k = fpw n m a (N * (k / N) + k % N) := congrArg _ e
  rw [this, fpw_add hm ha, fpw_mul hm ha, h, fpw_one hm, fm_1l hm (fpw_lt hm ha _)]
/-- equal powers of a primitive element -/
theorem pw_eq {n m g i j : Nat} (hG : GF n m) (hp : prim n m g) : fpw n m g i = fpw n m g j ↔ i % (2 ^ n - 1) = j % (2 ^ n - 1) := by
  have hm := hG.1.1
  have hN := two_pow_ge2 hm.1
  have hf := fermat hG hp.1 hp.2.1
  constructor
  · intro h
    rw [← pw_mod hm hp.1 hf i, ← pw_mod hm hp.1 hf j] at h
    exact pw_inj hG.1 hp.1 hp.2.1 hp.2.2 (Nat.mod_lt _ (by omega)) (Nat.mod_lt _ (by omega)) h
  · intro h
    rw [← pw_mod hm hp.1 hf i, ← pw_mod hm hp.1 hf j, h]
end
section
/-! WHAT CANNOT BE SPLIT, by trial -/
/-- the remainder of p (below 2^13) by a part of degree i -/
def rem13 (p by_ : Nat) : Nat := prd by_ by_.log2 (13 - by_.log2) p
def tryD (p : Nat) : Nat → Nat → Bool
  | 0, _ => true
  | j + 1, part => if rem13 p part = 0 then false else tryD p j (part + 1)
def isIrrB (p : Nat) : Bool := tryD p (2 ^ (p.log2 / 2 + 1) - 2) 2
theorem tryD_iff (p : Nat) : ∀ (j s : Nat), tryD p j s = true ↔ ∀ d, s ≤ d → d < s + j → rem13 p d ≠ 0
  | 0, s => ⟨fun _ d h1 h2 => by omega, fun _ => rfl⟩
  | j + 1, s => by
    have ih := tryD_iff p j (s + 1)
    show (if rem13 p s = 0 then false else tryD p j (s + 1)) = true ↔ _
    by_cases h : rem13 p s = 0
    · rw [if_pos h]
      exact ⟨fun q => (by cases q), fun q => absurd h (q s (Nat.le_refl s) (by omega))⟩
    · rw [if_neg h, ih]
      refine ⟨fun q d h1 h2 => ?_, fun q d h1 h2 => q d (by omega) (by omega)⟩
      rcases Nat.eq_or_lt_of_le h1 with rfl | w
      · exact h
      · exact q d w (by omega)
theorem log2_lt13 {p : Nat} (h : p < 8192) : p.log2 < 13 := by
  rcases Nat.eq_zero_or_pos p with z | z
  · subst z; decide
  · rcases Nat.lt_or_ge p.log2 13 with w | w
    · exact w
    · have h1 := Nat.log2_self_le (n := p) (by omega)
      have h2 := pow_le w
      have : (2 : Nat) ^ 13 = 8192 := rfl
      omega
/-- nothing is left: it divides -/
theorem rem13_dvd {p d : Nat} (hp : p < 8192) (hd0 : d ≠ 0) (hd : d < 8192) : rem13 p d = 0 ↔ pdvd d p := by
  have h1 := Nat.log2_self_le hd0
  have h2 := Nat.lt_log2_self (n := d)
  have h13 := log2_lt13 hd
  have hlt : p < 2 ^ (d.log2 + (13 - d.log2)) := by
    rw [show d.log2 + (13 - d.log2) = 13 by omega]
    exact hp
  obtain ⟨g1, g2, -⟩ := prd_ok h1 h2 (13 - d.log2) p hlt
  constructor
  · intro h
    refine ⟨pdv d d.log2 (13 - d.log2) p, ?_⟩
    have h' : prd d d.log2 (13 - d.log2) p = 0 := h
    rw [h', Nat.xor_zero] at g2
    exact g2
  · intro h
    have hc := cg_prd h1 h2 hlt
    have h0 : cg d (prd d d.log2 (13 - d.log2) p) 0 := cg_tr (cg_sy hc) (by unfold cg; rw [Nat.xor_zero]; exact h)
    exact cg_small h1 g1 (Nat.two_pow_pos _) h0
theorem isIrrB_iff {p : Nat} (h2 : 2 ≤ p) (hp : p < 8192) : isIrrB p = true ↔ irr p := by
  have hp0 : p ≠ 0 := by omega
  have d1 := Nat.log2_self_le hp0
  have d2 := Nat.lt_log2_self (n := p)
  have h13 := log2_lt13 hp
  have hl1 : 1 ≤ p.log2 := by
    rcases Nat.eq_zero_or_pos p.log2 with z | z
    · rw [z] at d2
      omega
    · exact z
  have h22 : 2 ≤ 2 ^ (p.log2 / 2 + 1) := two_pow_ge2 (by omega)
  unfold isIrrB
  rw [tryD_iff]
  constructor
  · intro h a b hab
    rcases Nat.eq_zero_or_pos a with za | za
    · rw [za, cl_0l] at hab; omega
    rcases Nat.eq_zero_or_pos b with zb | zb
    · rw [zb, cl_0r] at hab; omega
    rcases Nat.eq_or_lt_of_le za with ea | ga
    · exact Or.inl ea.symm
    rcases Nat.eq_or_lt_of_le zb with eb | gb
    · exact Or.inr eb.symm
    exfalso
    have a1 := Nat.log2_self_le (n := a) (by omega)
    have a2 := Nat.lt_log2_self (n := a)
    have b1 := Nat.log2_self_le (n := b) (by omega)
    have b2 := Nat.lt_log2_self (n := b)
    have hd := cl_deg a1 a2 b1 b2
    rw [hab] at hd
    have hsum : a.log2 + b.log2 = p.log2 := dg_uq hd.1 hd.2 d1 d2
    have small : ∀ c : Nat, 2 ≤ c → c.log2 ≤ p.log2 / 2 → c < 8192 → ¬ pdvd c p := by
      intro c hc hcl hc8 hdv
      have c2 := Nat.lt_log2_self (n := c)
      have := pow_le (show c.log2 + 1 ≤ p.log2 / 2 + 1 by omega)
      exact h c hc (by omega) ((rem13_dvd hp (by omega) hc8).mpr hdv)
    have big : ∀ c : Nat, c.log2 ≤ p.log2 → c < 8192 := by
      intro c hc
      have c2 := Nat.lt_log2_self (n := c)
      have := pow_le (show c.log2 + 1 ≤ 13 by omega)
      have : (2 : Nat) ^ 13 = 8192 := rfl
      omega
    rcases Nat.le_total a.log2 b.log2 with w | w
    · exact small a (by omega) (by omega) (big a (by omega)) ⟨b, by rw [cl_comm]; exact hab.symm⟩
    · exact small b (by omega) (by omega) (big b (by omega)) ⟨a, hab.symm⟩
  · intro h d hd1 hd2 hr
    have hd3 : d < 2 ^ (p.log2 / 2 + 1) := by omega
    have hd8 : d < 8192 := by
      have := pow_le (show p.log2 / 2 + 1 ≤ 13 by omega)
      have : (2 : Nat) ^ 13 = 8192 := rfl
      omega
    obtain ⟨q, hq⟩ := (rem13_dvd hp (by omega) hd8).mp hr
    rcases h q d hq.symm with w | w
    · rw [w, cl_1l] at hq
      subst hq
      rcases Nat.lt_or_ge p.log2 2 with z | z
      · have : p.log2 = 1 := by omega
        rw [this] at hd3 d1
        have e1 : (2 : Nat) ^ (1 / 2 + 1) = 2 := rfl
        omega
      · have := pow_le (show p.log2 / 2 + 1 ≤ p.log2 by omega)
        omega
    · omega
end
section
/-! printed by wip/gen/world.py: what never changes of the law's world: shapes and references -/
def shpL : List (Nat × Nat) := [(99, 0), (20, 0), (20, 13), (20, 13), (20, 13), (9, 12), (0, 6), (21, 2000), (5, 7), (24, 13), (25, 13), (26, 13), (1, 3), (20, 12), (20, 12), (27, 13), (20, 13), (20, 13), (20, 13), (20, 13), (20, 13), (20, 13), (20, 13), (20, 13), (20, 13), (20, 13), (20, 13), (20, 13), (20, 13), (22, 13), (20, 5), (2, 4), (20, 13), (3, 5), (4, 4), (2, 4), (20, 13), (3, 5), (4, 4), (2, 4), (20, 13), (3, 5), (4, 4), (2, 4), (20, 13), (3, 5), (4, 4), (2, 4), (20, 13), (3, 5), (4, 4), (2, 4), (20, 13), (3, 5), (4, 4), (2, 4), (20, 13), (3, 5), (4, 4), (2, 4), (20, 13), (3, 5), (4, 4), (2, 4), (20, 13), (3, 5), (4, 4), (2, 4), (20, 13), (3, 5), (4, 4), (2, 4), (20, 13), (3, 5), (4, 4), (2, 4), (20, 13), (3, 5), (4, 4), (6, 7), (20, 8), (20, 9), (20, 9), (20, 9), (20, 9), (7, 3), (20, 30), (20, 30), (20, 8), (20, 13), (27, 3), (20, 13), (20, 13), (20, 13), (22, 3), (20, 64), (8, 13), (20, 400), (20, 400), (20, 400), (23, 400), (20, 13), (23, 8), (20, 8), (20, 8), (22, 8), (8, 13), (20, 400), (20, 400), (20, 400), (23, 400), (20, 13), (23, 8), (20, 8), (20, 8), (22, 8), (10, 50), (21, 2000), (21, 2000), (20, 403), (20, 403), (20, 403), (23, 403), (23, 3), (22, 8192), (20, 13), (20, 13), (20, 410), (20, 410), (20, 410), (20, 9), (20, 8), (20, 8), (23, 8), (20, 410), (20, 410), (20, 410), (20, 26), (20, 13), (20, 400), (20, 410), (20, 390), (20, 39), (22, 3), (20, 169), (20, 12), (20, 12), (20, 14), (20, 80)]
def refL : List (Nat × Nat × Nat) := [(5, 0, 6), (5, 1, 8), (5, 2, 79), (5, 3, 85), (5, 4, 88), (5, 5, 89), (5, 6, 90), (5, 7, 94), (5, 8, 95), (6, 0, 7), (8, 0, 9), (8, 1, 10), (8, 2, 11), (8, 3, 12), (8, 4, 15), (8, 5, 29), (8, 6, 30), (9, 1, 31), (9, 2, 35), (9, 3, 39), (9, 4, 43), (9, 5, 47), (9, 6, 51), (9, 7, 55), (9, 8, 59), (9, 9, 63), (9, 10, 67), (9, 11, 71), (9, 12, 75), (10, 1, 33), (10, 2, 37), (10, 3, 41), (10, 4, 45), (10, 5, 49), (10, 6, 53), (10, 7, 57), (10, 8, 61), (10, 9, 65), (10, 10, 69), (10, 11, 73), (10, 12, 77), (11, 1, 34), (11, 2, 38), (11, 3, 42), (11, 4, 46), (11, 5, 50), (11, 6, 54), (11, 7, 58), (11, 8, 62), (11, 9, 66), (11, 10, 70), (11, 11, 74), (11, 12, 78), (12, 0, 13), (12, 1, 14), (15, 0, 16), (15, 1, 17), (15, 2, 18), (15, 3, 19), (15, 4, 20), (15, 5, 21), (15, 6, 22), (15, 7, 23), (15, 8, 24), (15, 9, 25), (15, 10, 26), (15, 11, 27), (15, 12, 28), (31, 3, 32), (33, 0, 31), (34, 0, 31), (34, 1, 12), (35, 3, 36), (37, 0, 35), (38, 0, 35), (38, 1, 12), (39, 3, 40), (41, 0, 39), (42, 0, 39), (42, 1, 12), (43, 3, 44), (45, 0, 43), (46, 0, 43), (46, 1, 12), (47, 3, 48), (49, 0, 47), (50, 0, 47), (50, 1, 12), (51, 3, 52), (53, 0, 51), (54, 0, 51), (54, 1, 12), (55, 3, 56), (57, 0, 55), (58, 0, 55), (58, 1, 12), (59, 3, 60), (61, 0, 59), (62, 0, 59), (62, 1, 12), (63, 3, 64), (65, 0, 63), (66, 0, 63), (66, 1, 12), (67, 3, 68), (69, 0, 67), (70, 0, 67), (70, 1, 12), (71, 3, 72), (73, 0, 71), (74, 0, 71), (74, 1, 12), (75, 3, 76), (77, 0, 75), (78, 0, 75), (78, 1, 12), (79, 0, 80), (79, 2, 81), (79, 3, 82), (79, 4, 83), (79, 5, 84), (85, 0, 86), (85, 1, 87), (90, 0, 91), (90, 1, 92), (90, 2, 93), (96, 1, 97), (96, 2, 98), (96, 3, 99), (96, 4, 100), (96, 5, 101), (96, 7, 102), (96, 8, 103), (96, 9, 104), (96, 10, 105), (106, 1, 107), (106, 2, 108), (106, 3, 109), (106, 4, 110), (106, 5, 111), (106, 7, 112), (106, 8, 113), (106, 9, 114), (106, 10, 115), (116, 1, 117), (116, 3, 118), (116, 5, 119), (116, 6, 120), (116, 7, 121), (116, 8, 122), (116, 9, 123), (116, 17, 124), (116, 18, 125), (116, 19, 126), (116, 21, 127), (116, 22, 128), (116, 23, 129), (116, 25, 130), (116, 26, 131), (116, 27, 132), (116, 28, 133), (116, 30, 134), (116, 31, 135), (116, 32, 136), (116, 33, 137), (116, 34, 138), (116, 36, 139), (116, 38, 140), (116, 39, 141), (116, 42, 142), (116, 43, 143), (116, 44, 144), (116, 45, 145), (116, 46, 146), (116, 47, 147), (116, 48, 148)]
/-- the static part of the world: cells 2 .. 148 have their shapes, the references that never change lead where they do -/
def WS (h : PH) : Prop := (∀ k, 2 ≤ k → k < 149 → h.1 k = (shpL[k]?).getD (99, 0)) ∧ (∀ q ∈ refL, hR h q.1 q.2.1 = q.2.2) ∧ hT h 1 = 20 ∧ 149 ≤ hE h
theorem ws_sI {h : PH} {k j : Nat} {v : Int32} (hw : WS h) : WS (sI h k j v) := hw
theorem ws_sL {h : PH} {k j : Nat} {v : Int64} (hw : WS h) : WS (sL h k j v) := hw
theorem ws_sCp {h : PH} {a b c d e : Nat} (hw : WS h) : WS (sCp h a b c d e) := hw
theorem ws_t {h : PH} (hw : WS h) (k t n : Nat) (hk : 2 ≤ k) (h2 : k < 149) (hs : (shpL[k]?).getD (99, 0) = (t, n)) : hT h k = t ∧ hN h k = n := by
  have := hw.1 k hk h2
  unfold hT hN
  rw [this, hs]
  exact ⟨rfl, rfl⟩
theorem wt_2 {h : PH} (hw : WS h) : hT h 2 = 20 := (ws_t hw 2 20 13 (by decide) (by decide) (by decide +kernel)).1
theorem wn_2 {h : PH} (hw : WS h) : hN h 2 = 13 := (ws_t hw 2 20 13 (by decide) (by decide) (by decide +kernel)).2
theorem wt_3 {h : PH} (hw : WS h) : hT h 3 = 20 := (ws_t hw 3 20 13 (by decide) (by decide) (by decide +kernel)).1
theorem wn_3 {h : PH} (hw : WS h) : hN h 3 = 13 := (ws_t hw 3 20 13 (by decide) (by decide) (by decide +kernel)).2
theorem wt_4 {h : PH} (hw : WS h) : hT h 4 = 20 := (ws_t hw 4 20 13 (by decide) (by decide) (by decide +kernel)).1
theorem wn_4 {h : PH} (hw : WS h) : hN h 4 = 13 := (ws_t hw 4 20 13 (by decide) (by decide) (by decide +kernel)).2
theorem wt_5 {h : PH} (hw : WS h) : hT h 5 = 9 := (ws_t hw 5 9 12 (by decide) (by decide) (by decide +kernel)).1
theorem wt_6 {h : PH} (hw : WS h) : hT h 6 = 0 := (ws_t hw 6 0 6 (by decide) (by decide) (by decide +kernel)).1
theorem wt_7 {h : PH} (hw : WS h) : hT h 7 = 21 := (ws_t hw 7 21 2000 (by decide) (by decide) (by decide +kernel)).1
theorem wn_7 {h : PH} (hw : WS h) : hN h 7 = 2000 := (ws_t hw 7 21 2000 (by decide) (by decide) (by decide +kernel)).2
theorem wt_8 {h : PH} (hw : WS h) : hT h 8 = 5 := (ws_t hw 8 5 7 (by decide) (by decide) (by decide +kernel)).1
theorem wt_9 {h : PH} (hw : WS h) : hT h 9 = 24 := (ws_t hw 9 24 13 (by decide) (by decide) (by decide +kernel)).1
theorem wn_9 {h : PH} (hw : WS h) : hN h 9 = 13 := (ws_t hw 9 24 13 (by decide) (by decide) (by decide +kernel)).2
theorem wt_10 {h : PH} (hw : WS h) : hT h 10 = 25 := (ws_t hw 10 25 13 (by decide) (by decide) (by decide +kernel)).1
theorem wn_10 {h : PH} (hw : WS h) : hN h 10 = 13 := (ws_t hw 10 25 13 (by decide) (by decide) (by decide +kernel)).2
theorem wt_11 {h : PH} (hw : WS h) : hT h 11 = 26 := (ws_t hw 11 26 13 (by decide) (by decide) (by decide +kernel)).1
theorem wn_11 {h : PH} (hw : WS h) : hN h 11 = 13 := (ws_t hw 11 26 13 (by decide) (by decide) (by decide +kernel)).2
theorem wt_12 {h : PH} (hw : WS h) : hT h 12 = 1 := (ws_t hw 12 1 3 (by decide) (by decide) (by decide +kernel)).1
theorem wt_13 {h : PH} (hw : WS h) : hT h 13 = 20 := (ws_t hw 13 20 12 (by decide) (by decide) (by decide +kernel)).1
theorem wn_13 {h : PH} (hw : WS h) : hN h 13 = 12 := (ws_t hw 13 20 12 (by decide) (by decide) (by decide +kernel)).2
theorem wt_14 {h : PH} (hw : WS h) : hT h 14 = 20 := (ws_t hw 14 20 12 (by decide) (by decide) (by decide +kernel)).1
theorem wn_14 {h : PH} (hw : WS h) : hN h 14 = 12 := (ws_t hw 14 20 12 (by decide) (by decide) (by decide +kernel)).2
theorem wt_15 {h : PH} (hw : WS h) : hT h 15 = 27 := (ws_t hw 15 27 13 (by decide) (by decide) (by decide +kernel)).1
theorem wn_15 {h : PH} (hw : WS h) : hN h 15 = 13 := (ws_t hw 15 27 13 (by decide) (by decide) (by decide +kernel)).2
theorem wt_16 {h : PH} (hw : WS h) : hT h 16 = 20 := (ws_t hw 16 20 13 (by decide) (by decide) (by decide +kernel)).1
theorem wn_16 {h : PH} (hw : WS h) : hN h 16 = 13 := (ws_t hw 16 20 13 (by decide) (by decide) (by decide +kernel)).2
theorem wt_17 {h : PH} (hw : WS h) : hT h 17 = 20 := (ws_t hw 17 20 13 (by decide) (by decide) (by decide +kernel)).1
theorem wn_17 {h : PH} (hw : WS h) : hN h 17 = 13 := (ws_t hw 17 20 13 (by decide) (by decide) (by decide +kernel)).2
theorem wt_18 {h : PH} (hw : WS h) : hT h 18 = 20 := (ws_t hw 18 20 13 (by decide) (by decide) (by decide +kernel)).1
theorem wn_18 {h : PH} (hw : WS h) : hN h 18 = 13 := (ws_t hw 18 20 13 (by decide) (by decide) (by decide +kernel)).2
theorem wt_19 {h : PH} (hw : WS h) : hT h 19 = 20 := (ws_t hw 19 20 13 (by decide) (by decide) (by decide +kernel)).1
theorem wn_19 {h : PH} (hw : WS h) : hN h 19 = 13 := (ws_t hw 19 20 13 (by decide) (by decide) (by decide +kernel)).2
theorem wt_20 {h : PH} (hw : WS h) : hT h 20 = 20 := (ws_t hw 20 20 13 (by decide) (by decide) (by decide +kernel)).1
theorem wn_20 {h : PH} (hw : WS h) : hN h 20 = 13 := (ws_t hw 20 20 13 (by decide) (by decide) (by decide +kernel)).2
theorem wt_21 {h : PH} (hw : WS h) : hT h 21 = 20 := (ws_t hw 21 20 13 (by decide) (by decide) (by decide +kernel)).1
theorem wn_21 {h : PH} (hw : WS h) : hN h 21 = 13 := (ws_t hw 21 20 13 (by decide) (by decide) (by decide +kernel)).2
theorem wt_22 {h : PH} (hw : WS h) : hT h 22 = 20 := (ws_t hw 22 20 13 (by decide) (by decide) (by decide +kernel)).1
theorem wn_22 {h : PH} (hw : WS h) : hN h 22 = 13 := (ws_t hw 22 20 13 (by decide) (by decide) (by decide +kernel)).2
theorem wt_23 {h : PH} (hw : WS h) : hT h 23 = 20 := (ws_t hw 23 20 13 (by decide) (by decide) (by decide +kernel)).1
theorem wn_23 {h : PH} (hw : WS h) : hN h 23 = 13 := (ws_t hw 23 20 13 (by decide) (by decide) (by decide +kernel)).2
theorem wt_24 {h : PH} (hw : WS h) : hT h 24 = 20 := (ws_t hw 24 20 13 (by decide) (by decide) (by decide +kernel)).1
theorem wn_24 {h : PH} (hw : WS h) : hN h 24 = 13 := (ws_t hw 24 20 13 (by decide) (by decide) (by decide +kernel)).2
theorem wt_25 {h : PH} (hw : WS h) : hT h 25 = 20 := (ws_t hw 25 20 13 (by decide) (by decide) (by decide +kernel)).1
theorem wn_25 {h : PH} (hw : WS h) : hN h 25 = 13 := (ws_t hw 25 20 13 (by decide) (by decide) (by decide +kernel)).2
theorem wt_26 {h : PH} (hw : WS h) : hT h 26 = 20 := (ws_t hw 26 20 13 (by decide) (by decide) (by decide +kernel)).1
theorem wn_26 {h : PH} (hw : WS h) : hN h 26 = 13 := (ws_t hw 26 20 13 (by decide) (by decide) (by decide +kernel)).2
theorem wt_27 {h : PH} (hw : WS h) : hT h 27 = 20 := (ws_t hw 27 20 13 (by decide) (by decide) (by decide +kernel)).1
theorem wn_27 {h : PH} (hw : WS h) : hN h 27 = 13 := (ws_t hw 27 20 13 (by decide) (by decide) (by decide +kernel)).2
theorem wt_28 {h : PH} (hw : WS h) : hT h 28 = 20 := (ws_t hw 28 20 13 (by decide) (by decide) (by decide +kernel)).1
theorem wn_28 {h : PH} (hw : WS h) : hN h 28 = 13 := (ws_t hw 28 20 13 (by decide) (by decide) (by decide +kernel)).2
theorem wt_29 {h : PH} (hw : WS h) : hT h 29 = 22 := (ws_t hw 29 22 13 (by decide) (by decide) (by decide +kernel)).1
theorem wn_29 {h : PH} (hw : WS h) : hN h 29 = 13 := (ws_t hw 29 22 13 (by decide) (by decide) (by decide +kernel)).2
theorem wt_30 {h : PH} (hw : WS h) : hT h 30 = 20 := (ws_t hw 30 20 5 (by decide) (by decide) (by decide +kernel)).1
theorem wn_30 {h : PH} (hw : WS h) : hN h 30 = 5 := (ws_t hw 30 20 5 (by decide) (by decide) (by decide +kernel)).2
theorem wt_31 {h : PH} (hw : WS h) : hT h 31 = 2 := (ws_t hw 31 2 4 (by decide) (by decide) (by decide +kernel)).1
theorem wt_32 {h : PH} (hw : WS h) : hT h 32 = 20 := (ws_t hw 32 20 13 (by decide) (by decide) (by decide +kernel)).1
theorem wn_32 {h : PH} (hw : WS h) : hN h 32 = 13 := (ws_t hw 32 20 13 (by decide) (by decide) (by decide +kernel)).2
theorem wt_33 {h : PH} (hw : WS h) : hT h 33 = 3 := (ws_t hw 33 3 5 (by decide) (by decide) (by decide +kernel)).1
theorem wt_34 {h : PH} (hw : WS h) : hT h 34 = 4 := (ws_t hw 34 4 4 (by decide) (by decide) (by decide +kernel)).1
theorem wt_35 {h : PH} (hw : WS h) : hT h 35 = 2 := (ws_t hw 35 2 4 (by decide) (by decide) (by decide +kernel)).1
theorem wt_36 {h : PH} (hw : WS h) : hT h 36 = 20 := (ws_t hw 36 20 13 (by decide) (by decide) (by decide +kernel)).1
theorem wn_36 {h : PH} (hw : WS h) : hN h 36 = 13 := (ws_t hw 36 20 13 (by decide) (by decide) (by decide +kernel)).2
theorem wt_37 {h : PH} (hw : WS h) : hT h 37 = 3 := (ws_t hw 37 3 5 (by decide) (by decide) (by decide +kernel)).1
theorem wt_38 {h : PH} (hw : WS h) : hT h 38 = 4 := (ws_t hw 38 4 4 (by decide) (by decide) (by decide +kernel)).1
theorem wt_39 {h : PH} (hw : WS h) : hT h 39 = 2 := (ws_t hw 39 2 4 (by decide) (by decide) (by decide +kernel)).1
theorem wt_40 {h : PH} (hw : WS h) : hT h 40 = 20 := (ws_t hw 40 20 13 (by decide) (by decide) (by decide +kernel)).1
theorem wn_40 {h : PH} (hw : WS h) : hN h 40 = 13 := (ws_t hw 40 20 13 (by decide) (by decide) (by decide +kernel)).2
theorem wt_41 {h : PH} (hw : WS h) : hT h 41 = 3 := (ws_t hw 41 3 5 (by decide) (by decide) (by decide +kernel)).1
theorem wt_42 {h : PH} (hw : WS h) : hT h 42 = 4 := (ws_t hw 42 4 4 (by decide) (by decide) (by decide +kernel)).1
theorem wt_43 {h : PH} (hw : WS h) : hT h 43 = 2 := (ws_t hw 43 2 4 (by decide) (by decide) (by decide +kernel)).1
theorem wt_44 {h : PH} (hw : WS h) : hT h 44 = 20 := (ws_t hw 44 20 13 (by decide) (by decide) (by decide +kernel)).1
theorem wn_44 {h : PH} (hw : WS h) : hN h 44 = 13 := (ws_t hw 44 20 13 (by decide) (by decide) (by decide +kernel)).2
theorem wt_45 {h : PH} (hw : WS h) : hT h 45 = 3 := (ws_t hw 45 3 5 (by decide) (by decide) (by decide +kernel)).1
theorem wt_46 {h : PH} (hw : WS h) : hT h 46 = 4 := (ws_t hw 46 4 4 (by decide) (by decide) (by decide +kernel)).1
theorem wt_47 {h : PH} (hw : WS h) : hT h 47 = 2 := (ws_t hw 47 2 4 (by decide) (by decide) (by decide +kernel)).1
theorem wt_48 {h : PH} (hw : WS h) : hT h 48 = 20 := (ws_t hw 48 20 13 (by decide) (by decide) (by decide +kernel)).1
theorem wn_48 {h : PH} (hw : WS h) : hN h 48 = 13 := (ws_t hw 48 20 13 (by decide) (by decide) (by decide +kernel)).2
theorem wt_49 {h : PH} (hw : WS h) : hT h 49 = 3 := (ws_t hw 49 3 5 (by decide) (by decide) (by decide +kernel)).1
theorem wt_50 {h : PH} (hw : WS h) : hT h 50 = 4 := (ws_t hw 50 4 4 (by decide) (by decide) (by decide +kernel)).1
theorem wt_51 {h : PH} (hw : WS h) : hT h 51 = 2 := (ws_t hw 51 2 4 (by decide) (by decide) (by decide +kernel)).1
theorem wt_52 {h : PH} (hw : WS h) : hT h 52 = 20 := (ws_t hw 52 20 13 (by decide) (by decide) (by decide +kernel)).1
theorem wn_52 {h : PH} (hw : WS h) : hN h 52 = 13 := (ws_t hw 52 20 13 (by decide) (by decide) (by decide +kernel)).2
theorem wt_53 {h : PH} (hw : WS h) : hT h 53 = 3 := (ws_t hw 53 3 5 (by decide) (by decide) (by decide +kernel)).1
theorem wt_54 {h : PH} (hw : WS h) : hT h 54 = 4 := (ws_t hw 54 4 4 (by decide) (by decide) (by decide +kernel)).1
theorem wt_55 {h : PH} (hw : WS h) : hT h 55 = 2 := (ws_t hw 55 2 4 (by decide) (by decide) (by decide +kernel)).1
theorem wt_56 {h : PH} (hw : WS h) : hT h 56 = 20 := (ws_t hw 56 20 13 (by decide) (by decide) (by decide +kernel)).1
theorem wn_56 {h : PH} (hw : WS h) : hN h 56 = 13 := (ws_t hw 56 20 13 (by decide) (by decide) (by decide +kernel)).2
theorem wt_57 {h : PH} (hw : WS h) : hT h 57 = 3 := (ws_t hw 57 3 5 (by decide) (by decide) (by decide +kernel)).1
theorem wt_58 {h : PH} (hw : WS h) : hT h 58 = 4 := (ws_t hw 58 4 4 (by decide) (by decide) (by decide +kernel)).1
theorem wt_59 {h : PH} (hw : WS h) : hT h 59 = 2 := (ws_t hw 59 2 4 (by decide) (by decide) (by decide +kernel)).1
theorem wt_60 {h : PH} (hw : WS h) : hT h 60 = 20 := (ws_t hw 60 20 13 (by decide) (by decide) (by decide +kernel)).1
theorem wn_60 {h : PH} (hw : WS h) : hN h 60 = 13 := (ws_t hw 60 20 13 (by decide) (by decide) (by decide +kernel)).2
theorem wt_61 {h : PH} (hw : WS h) : hT h 61 = 3 := (ws_t hw 61 3 5 (by decide) (by decide) (by decide +kernel)).1
theorem wt_62 {h : PH} (hw : WS h) : hT h 62 = 4 := (ws_t hw 62 4 4 (by decide) (by decide) (by decide +kernel)).1
theorem wt_63 {h : PH} (hw : WS h) : hT h 63 = 2 := (ws_t hw 63 2 4 (by decide) (by decide) (by decide +kernel)).1
theorem wt_64 {h : PH} (hw : WS h) : hT h 64 = 20 := (ws_t hw 64 20 13 (by decide) (by decide) (by decide +kernel)).1
theorem wn_64 {h : PH} (hw : WS h) : hN h 64 = 13 := (ws_t hw 64 20 13 (by decide) (by decide) (by decide +kernel)).2
theorem wt_65 {h : PH} (hw : WS h) : hT h 65 = 3 := (ws_t hw 65 3 5 (by decide) (by decide) (by decide +kernel)).1
theorem wt_66 {h : PH} (hw : WS h) : hT h 66 = 4 := (ws_t hw 66 4 4 (by decide) (by decide) (by decide +kernel)).1
theorem wt_67 {h : PH} (hw : WS h) : hT h 67 = 2 := (ws_t hw 67 2 4 (by decide) (by decide) (by decide +kernel)).1
theorem wt_68 {h : PH} (hw : WS h) : hT h 68 = 20 := (ws_t hw 68 20 13 (by decide) (by decide) (by decide +kernel)).1
theorem wn_68 {h : PH} (hw : WS h) : hN h 68 = 13 := (ws_t hw 68 20 13 (by decide) (by decide) (by decide +kernel)).2
theorem wt_69 {h : PH} (hw : WS h) : hT h 69 = 3 := (ws_t hw 69 3 5 (by decide) (by decide) (by decide +kernel)).1
theorem wt_70 {h : PH} (hw : WS h) : hT h 70 = 4 := (ws_t hw 70 4 4 (by decide) (by decide) (by decide +kernel)).1
theorem wt_71 {h : PH} (hw : WS h) : hT h 71 = 2 := (ws_t hw 71 2 4 (by decide) (by decide) (by decide +kernel)).1
theorem wt_72 {h : PH} (hw : WS h) : hT h 72 = 20 := (ws_t hw 72 20 13 (by decide) (by decide) (by decide +kernel)).1
theorem wn_72 {h : PH} (hw : WS h) : hN h 72 = 13 := (ws_t hw 72 20 13 (by decide) (by decide) (by decide +kernel)).2
theorem wt_73 {h : PH} (hw : WS h) : hT h 73 = 3 := (ws_t hw 73 3 5 (by decide) (by decide) (by decide +kernel)).1
theorem wt_74 {h : PH} (hw : WS h) : hT h 74 = 4 := (ws_t hw 74 4 4 (by decide) (by decide) (by decide +kernel)).1
theorem wt_75 {h : PH} (hw : WS h) : hT h 75 = 2 := (ws_t hw 75 2 4 (by decide) (by decide) (by decide +kernel)).1
theorem wt_76 {h : PH} (hw : WS h) : hT h 76 = 20 := (ws_t hw 76 20 13 (by decide) (by decide) (by decide +kernel)).1
theorem wn_76 {h : PH} (hw : WS h) : hN h 76 = 13 := (ws_t hw 76 20 13 (by decide) (by decide) (by decide +kernel)).2
theorem wt_77 {h : PH} (hw : WS h) : hT h 77 = 3 := (ws_t hw 77 3 5 (by decide) (by decide) (by decide +kernel)).1
theorem wt_78 {h : PH} (hw : WS h) : hT h 78 = 4 := (ws_t hw 78 4 4 (by decide) (by decide) (by decide +kernel)).1
theorem wt_79 {h : PH} (hw : WS h) : hT h 79 = 6 := (ws_t hw 79 6 7 (by decide) (by decide) (by decide +kernel)).1
theorem wt_80 {h : PH} (hw : WS h) : hT h 80 = 20 := (ws_t hw 80 20 8 (by decide) (by decide) (by decide +kernel)).1
theorem wn_80 {h : PH} (hw : WS h) : hN h 80 = 8 := (ws_t hw 80 20 8 (by decide) (by decide) (by decide +kernel)).2
theorem wt_81 {h : PH} (hw : WS h) : hT h 81 = 20 := (ws_t hw 81 20 9 (by decide) (by decide) (by decide +kernel)).1
theorem wn_81 {h : PH} (hw : WS h) : hN h 81 = 9 := (ws_t hw 81 20 9 (by decide) (by decide) (by decide +kernel)).2
theorem wt_82 {h : PH} (hw : WS h) : hT h 82 = 20 := (ws_t hw 82 20 9 (by decide) (by decide) (by decide +kernel)).1
theorem wn_82 {h : PH} (hw : WS h) : hN h 82 = 9 := (ws_t hw 82 20 9 (by decide) (by decide) (by decide +kernel)).2
theorem wt_83 {h : PH} (hw : WS h) : hT h 83 = 20 := (ws_t hw 83 20 9 (by decide) (by decide) (by decide +kernel)).1
theorem wn_83 {h : PH} (hw : WS h) : hN h 83 = 9 := (ws_t hw 83 20 9 (by decide) (by decide) (by decide +kernel)).2
theorem wt_84 {h : PH} (hw : WS h) : hT h 84 = 20 := (ws_t hw 84 20 9 (by decide) (by decide) (by decide +kernel)).1
theorem wn_84 {h : PH} (hw : WS h) : hN h 84 = 9 := (ws_t hw 84 20 9 (by decide) (by decide) (by decide +kernel)).2
theorem wt_85 {h : PH} (hw : WS h) : hT h 85 = 7 := (ws_t hw 85 7 3 (by decide) (by decide) (by decide +kernel)).1
theorem wt_86 {h : PH} (hw : WS h) : hT h 86 = 20 := (ws_t hw 86 20 30 (by decide) (by decide) (by decide +kernel)).1
theorem wn_86 {h : PH} (hw : WS h) : hN h 86 = 30 := (ws_t hw 86 20 30 (by decide) (by decide) (by decide +kernel)).2
theorem wt_87 {h : PH} (hw : WS h) : hT h 87 = 20 := (ws_t hw 87 20 30 (by decide) (by decide) (by decide +kernel)).1
theorem wn_87 {h : PH} (hw : WS h) : hN h 87 = 30 := (ws_t hw 87 20 30 (by decide) (by decide) (by decide +kernel)).2
theorem wt_88 {h : PH} (hw : WS h) : hT h 88 = 20 := (ws_t hw 88 20 8 (by decide) (by decide) (by decide +kernel)).1
theorem wn_88 {h : PH} (hw : WS h) : hN h 88 = 8 := (ws_t hw 88 20 8 (by decide) (by decide) (by decide +kernel)).2
theorem wt_89 {h : PH} (hw : WS h) : hT h 89 = 20 := (ws_t hw 89 20 13 (by decide) (by decide) (by decide +kernel)).1
theorem wn_89 {h : PH} (hw : WS h) : hN h 89 = 13 := (ws_t hw 89 20 13 (by decide) (by decide) (by decide +kernel)).2
theorem wt_90 {h : PH} (hw : WS h) : hT h 90 = 27 := (ws_t hw 90 27 3 (by decide) (by decide) (by decide +kernel)).1
theorem wn_90 {h : PH} (hw : WS h) : hN h 90 = 3 := (ws_t hw 90 27 3 (by decide) (by decide) (by decide +kernel)).2
theorem wt_91 {h : PH} (hw : WS h) : hT h 91 = 20 := (ws_t hw 91 20 13 (by decide) (by decide) (by decide +kernel)).1
theorem wn_91 {h : PH} (hw : WS h) : hN h 91 = 13 := (ws_t hw 91 20 13 (by decide) (by decide) (by decide +kernel)).2
theorem wt_92 {h : PH} (hw : WS h) : hT h 92 = 20 := (ws_t hw 92 20 13 (by decide) (by decide) (by decide +kernel)).1
theorem wn_92 {h : PH} (hw : WS h) : hN h 92 = 13 := (ws_t hw 92 20 13 (by decide) (by decide) (by decide +kernel)).2
theorem wt_93 {h : PH} (hw : WS h) : hT h 93 = 20 := (ws_t hw 93 20 13 (by decide) (by decide) (by decide +kernel)).1
theorem wn_93 {h : PH} (hw : WS h) : hN h 93 = 13 := (ws_t hw 93 20 13 (by decide) (by decide) (by decide +kernel)).2
theorem wt_94 {h : PH} (hw : WS h) : hT h 94 = 22 := (ws_t hw 94 22 3 (by decide) (by decide) (by decide +kernel)).1
theorem wn_94 {h : PH} (hw : WS h) : hN h 94 = 3 := (ws_t hw 94 22 3 (by decide) (by decide) (by decide +kernel)).2
theorem wt_95 {h : PH} (hw : WS h) : hT h 95 = 20 := (ws_t hw 95 20 64 (by decide) (by decide) (by decide +kernel)).1
theorem wn_95 {h : PH} (hw : WS h) : hN h 95 = 64 := (ws_t hw 95 20 64 (by decide) (by decide) (by decide +kernel)).2
theorem wt_96 {h : PH} (hw : WS h) : hT h 96 = 8 := (ws_t hw 96 8 13 (by decide) (by decide) (by decide +kernel)).1
theorem wt_97 {h : PH} (hw : WS h) : hT h 97 = 20 := (ws_t hw 97 20 400 (by decide) (by decide) (by decide +kernel)).1
theorem wn_97 {h : PH} (hw : WS h) : hN h 97 = 400 := (ws_t hw 97 20 400 (by decide) (by decide) (by decide +kernel)).2
theorem wt_98 {h : PH} (hw : WS h) : hT h 98 = 20 := (ws_t hw 98 20 400 (by decide) (by decide) (by decide +kernel)).1
theorem wn_98 {h : PH} (hw : WS h) : hN h 98 = 400 := (ws_t hw 98 20 400 (by decide) (by decide) (by decide +kernel)).2
theorem wt_99 {h : PH} (hw : WS h) : hT h 99 = 20 := (ws_t hw 99 20 400 (by decide) (by decide) (by decide +kernel)).1
theorem wn_99 {h : PH} (hw : WS h) : hN h 99 = 400 := (ws_t hw 99 20 400 (by decide) (by decide) (by decide +kernel)).2
theorem wt_100 {h : PH} (hw : WS h) : hT h 100 = 23 := (ws_t hw 100 23 400 (by decide) (by decide) (by decide +kernel)).1
theorem wn_100 {h : PH} (hw : WS h) : hN h 100 = 400 := (ws_t hw 100 23 400 (by decide) (by decide) (by decide +kernel)).2
theorem wt_101 {h : PH} (hw : WS h) : hT h 101 = 20 := (ws_t hw 101 20 13 (by decide) (by decide) (by decide +kernel)).1
theorem wn_101 {h : PH} (hw : WS h) : hN h 101 = 13 := (ws_t hw 101 20 13 (by decide) (by decide) (by decide +kernel)).2
theorem wt_102 {h : PH} (hw : WS h) : hT h 102 = 23 := (ws_t hw 102 23 8 (by decide) (by decide) (by decide +kernel)).1
theorem wn_102 {h : PH} (hw : WS h) : hN h 102 = 8 := (ws_t hw 102 23 8 (by decide) (by decide) (by decide +kernel)).2
theorem wt_103 {h : PH} (hw : WS h) : hT h 103 = 20 := (ws_t hw 103 20 8 (by decide) (by decide) (by decide +kernel)).1
theorem wn_103 {h : PH} (hw : WS h) : hN h 103 = 8 := (ws_t hw 103 20 8 (by decide) (by decide) (by decide +kernel)).2
theorem wt_104 {h : PH} (hw : WS h) : hT h 104 = 20 := (ws_t hw 104 20 8 (by decide) (by decide) (by decide +kernel)).1
theorem wn_104 {h : PH} (hw : WS h) : hN h 104 = 8 := (ws_t hw 104 20 8 (by decide) (by decide) (by decide +kernel)).2
theorem wt_105 {h : PH} (hw : WS h) : hT h 105 = 22 := (ws_t hw 105 22 8 (by decide) (by decide) (by decide +kernel)).1
theorem wn_105 {h : PH} (hw : WS h) : hN h 105 = 8 := (ws_t hw 105 22 8 (by decide) (by decide) (by decide +kernel)).2
theorem wt_106 {h : PH} (hw : WS h) : hT h 106 = 8 := (ws_t hw 106 8 13 (by decide) (by decide) (by decide +kernel)).1
theorem wt_107 {h : PH} (hw : WS h) : hT h 107 = 20 := (ws_t hw 107 20 400 (by decide) (by decide) (by decide +kernel)).1
theorem wn_107 {h : PH} (hw : WS h) : hN h 107 = 400 := (ws_t hw 107 20 400 (by decide) (by decide) (by decide +kernel)).2
theorem wt_108 {h : PH} (hw : WS h) : hT h 108 = 20 := (ws_t hw 108 20 400 (by decide) (by decide) (by decide +kernel)).1
theorem wn_108 {h : PH} (hw : WS h) : hN h 108 = 400 := (ws_t hw 108 20 400 (by decide) (by decide) (by decide +kernel)).2
theorem wt_109 {h : PH} (hw : WS h) : hT h 109 = 20 := (ws_t hw 109 20 400 (by decide) (by decide) (by decide +kernel)).1
theorem wn_109 {h : PH} (hw : WS h) : hN h 109 = 400 := (ws_t hw 109 20 400 (by decide) (by decide) (by decide +kernel)).2
theorem wt_110 {h : PH} (hw : WS h) : hT h 110 = 23 := (ws_t hw 110 23 400 (by decide) (by decide) (by decide +kernel)).1
theorem wn_110 {h : PH} (hw : WS h) : hN h 110 = 400 := (ws_t hw 110 23 400 (by decide) (by decide) (by decide +kernel)).2
theorem wt_111 {h : PH} (hw : WS h) : hT h 111 = 20 := (ws_t hw 111 20 13 (by decide) (by decide) (by decide +kernel)).1
theorem wn_111 {h : PH} (hw : WS h) : hN h 111 = 13 := (ws_t hw 111 20 13 (by decide) (by decide) (by decide +kernel)).2
theorem wt_112 {h : PH} (hw : WS h) : hT h 112 = 23 := (ws_t hw 112 23 8 (by decide) (by decide) (by decide +kernel)).1
theorem wn_112 {h : PH} (hw : WS h) : hN h 112 = 8 := (ws_t hw 112 23 8 (by decide) (by decide) (by decide +kernel)).2
theorem wt_113 {h : PH} (hw : WS h) : hT h 113 = 20 := (ws_t hw 113 20 8 (by decide) (by decide) (by decide +kernel)).1
theorem wn_113 {h : PH} (hw : WS h) : hN h 113 = 8 := (ws_t hw 113 20 8 (by decide) (by decide) (by decide +kernel)).2
theorem wt_114 {h : PH} (hw : WS h) : hT h 114 = 20 := (ws_t hw 114 20 8 (by decide) (by decide) (by decide +kernel)).1
theorem wn_114 {h : PH} (hw : WS h) : hN h 114 = 8 := (ws_t hw 114 20 8 (by decide) (by decide) (by decide +kernel)).2
theorem wt_115 {h : PH} (hw : WS h) : hT h 115 = 22 := (ws_t hw 115 22 8 (by decide) (by decide) (by decide +kernel)).1
theorem wn_115 {h : PH} (hw : WS h) : hN h 115 = 8 := (ws_t hw 115 22 8 (by decide) (by decide) (by decide +kernel)).2
theorem wt_116 {h : PH} (hw : WS h) : hT h 116 = 10 := (ws_t hw 116 10 50 (by decide) (by decide) (by decide +kernel)).1
theorem wt_117 {h : PH} (hw : WS h) : hT h 117 = 21 := (ws_t hw 117 21 2000 (by decide) (by decide) (by decide +kernel)).1
theorem wn_117 {h : PH} (hw : WS h) : hN h 117 = 2000 := (ws_t hw 117 21 2000 (by decide) (by decide) (by decide +kernel)).2
theorem wt_118 {h : PH} (hw : WS h) : hT h 118 = 21 := (ws_t hw 118 21 2000 (by decide) (by decide) (by decide +kernel)).1
theorem wn_118 {h : PH} (hw : WS h) : hN h 118 = 2000 := (ws_t hw 118 21 2000 (by decide) (by decide) (by decide +kernel)).2
theorem wt_119 {h : PH} (hw : WS h) : hT h 119 = 20 := (ws_t hw 119 20 403 (by decide) (by decide) (by decide +kernel)).1
theorem wn_119 {h : PH} (hw : WS h) : hN h 119 = 403 := (ws_t hw 119 20 403 (by decide) (by decide) (by decide +kernel)).2
theorem wt_120 {h : PH} (hw : WS h) : hT h 120 = 20 := (ws_t hw 120 20 403 (by decide) (by decide) (by decide +kernel)).1
theorem wn_120 {h : PH} (hw : WS h) : hN h 120 = 403 := (ws_t hw 120 20 403 (by decide) (by decide) (by decide +kernel)).2
theorem wt_121 {h : PH} (hw : WS h) : hT h 121 = 20 := (ws_t hw 121 20 403 (by decide) (by decide) (by decide +kernel)).1
theorem wn_121 {h : PH} (hw : WS h) : hN h 121 = 403 := (ws_t hw 121 20 403 (by decide) (by decide) (by decide +kernel)).2
theorem wt_122 {h : PH} (hw : WS h) : hT h 122 = 23 := (ws_t hw 122 23 403 (by decide) (by decide) (by decide +kernel)).1
theorem wn_122 {h : PH} (hw : WS h) : hN h 122 = 403 := (ws_t hw 122 23 403 (by decide) (by decide) (by decide +kernel)).2
theorem wt_123 {h : PH} (hw : WS h) : hT h 123 = 23 := (ws_t hw 123 23 3 (by decide) (by decide) (by decide +kernel)).1
theorem wn_123 {h : PH} (hw : WS h) : hN h 123 = 3 := (ws_t hw 123 23 3 (by decide) (by decide) (by decide +kernel)).2
theorem wt_124 {h : PH} (hw : WS h) : hT h 124 = 22 := (ws_t hw 124 22 8192 (by decide) (by decide) (by decide +kernel)).1
theorem wn_124 {h : PH} (hw : WS h) : hN h 124 = 8192 := (ws_t hw 124 22 8192 (by decide) (by decide) (by decide +kernel)).2
theorem wt_125 {h : PH} (hw : WS h) : hT h 125 = 20 := (ws_t hw 125 20 13 (by decide) (by decide) (by decide +kernel)).1
theorem wn_125 {h : PH} (hw : WS h) : hN h 125 = 13 := (ws_t hw 125 20 13 (by decide) (by decide) (by decide +kernel)).2
theorem wt_126 {h : PH} (hw : WS h) : hT h 126 = 20 := (ws_t hw 126 20 13 (by decide) (by decide) (by decide +kernel)).1
theorem wn_126 {h : PH} (hw : WS h) : hN h 126 = 13 := (ws_t hw 126 20 13 (by decide) (by decide) (by decide +kernel)).2
theorem wt_127 {h : PH} (hw : WS h) : hT h 127 = 20 := (ws_t hw 127 20 410 (by decide) (by decide) (by decide +kernel)).1
theorem wn_127 {h : PH} (hw : WS h) : hN h 127 = 410 := (ws_t hw 127 20 410 (by decide) (by decide) (by decide +kernel)).2
theorem wt_128 {h : PH} (hw : WS h) : hT h 128 = 20 := (ws_t hw 128 20 410 (by decide) (by decide) (by decide +kernel)).1
theorem wn_128 {h : PH} (hw : WS h) : hN h 128 = 410 := (ws_t hw 128 20 410 (by decide) (by decide) (by decide +kernel)).2
theorem wt_129 {h : PH} (hw : WS h) : hT h 129 = 20 := (ws_t hw 129 20 410 (by decide) (by decide) (by decide +kernel)).1
theorem wn_129 {h : PH} (hw : WS h) : hN h 129 = 410 := (ws_t hw 129 20 410 (by decide) (by decide) (by decide +kernel)).2
theorem wt_130 {h : PH} (hw : WS h) : hT h 130 = 20 := (ws_t hw 130 20 9 (by decide) (by decide) (by decide +kernel)).1
theorem wn_130 {h : PH} (hw : WS h) : hN h 130 = 9 := (ws_t hw 130 20 9 (by decide) (by decide) (by decide +kernel)).2
theorem wt_131 {h : PH} (hw : WS h) : hT h 131 = 20 := (ws_t hw 131 20 8 (by decide) (by decide) (by decide +kernel)).1
theorem wn_131 {h : PH} (hw : WS h) : hN h 131 = 8 := (ws_t hw 131 20 8 (by decide) (by decide) (by decide +kernel)).2
theorem wt_132 {h : PH} (hw : WS h) : hT h 132 = 20 := (ws_t hw 132 20 8 (by decide) (by decide) (by decide +kernel)).1
theorem wn_132 {h : PH} (hw : WS h) : hN h 132 = 8 := (ws_t hw 132 20 8 (by decide) (by decide) (by decide +kernel)).2
theorem wt_133 {h : PH} (hw : WS h) : hT h 133 = 23 := (ws_t hw 133 23 8 (by decide) (by decide) (by decide +kernel)).1
theorem wn_133 {h : PH} (hw : WS h) : hN h 133 = 8 := (ws_t hw 133 23 8 (by decide) (by decide) (by decide +kernel)).2
theorem wt_134 {h : PH} (hw : WS h) : hT h 134 = 20 := (ws_t hw 134 20 410 (by decide) (by decide) (by decide +kernel)).1
theorem wn_134 {h : PH} (hw : WS h) : hN h 134 = 410 := (ws_t hw 134 20 410 (by decide) (by decide) (by decide +kernel)).2
theorem wt_135 {h : PH} (hw : WS h) : hT h 135 = 20 := (ws_t hw 135 20 410 (by decide) (by decide) (by decide +kernel)).1
theorem wn_135 {h : PH} (hw : WS h) : hN h 135 = 410 := (ws_t hw 135 20 410 (by decide) (by decide) (by decide +kernel)).2
theorem wt_136 {h : PH} (hw : WS h) : hT h 136 = 20 := (ws_t hw 136 20 410 (by decide) (by decide) (by decide +kernel)).1
theorem wn_136 {h : PH} (hw : WS h) : hN h 136 = 410 := (ws_t hw 136 20 410 (by decide) (by decide) (by decide +kernel)).2
theorem wt_137 {h : PH} (hw : WS h) : hT h 137 = 20 := (ws_t hw 137 20 26 (by decide) (by decide) (by decide +kernel)).1
theorem wn_137 {h : PH} (hw : WS h) : hN h 137 = 26 := (ws_t hw 137 20 26 (by decide) (by decide) (by decide +kernel)).2
theorem wt_138 {h : PH} (hw : WS h) : hT h 138 = 20 := (ws_t hw 138 20 13 (by decide) (by decide) (by decide +kernel)).1
theorem wn_138 {h : PH} (hw : WS h) : hN h 138 = 13 := (ws_t hw 138 20 13 (by decide) (by decide) (by decide +kernel)).2
theorem wt_139 {h : PH} (hw : WS h) : hT h 139 = 20 := (ws_t hw 139 20 400 (by decide) (by decide) (by decide +kernel)).1
theorem wn_139 {h : PH} (hw : WS h) : hN h 139 = 400 := (ws_t hw 139 20 400 (by decide) (by decide) (by decide +kernel)).2
theorem wt_140 {h : PH} (hw : WS h) : hT h 140 = 20 := (ws_t hw 140 20 410 (by decide) (by decide) (by decide +kernel)).1
theorem wn_140 {h : PH} (hw : WS h) : hN h 140 = 410 := (ws_t hw 140 20 410 (by decide) (by decide) (by decide +kernel)).2
theorem wt_141 {h : PH} (hw : WS h) : hT h 141 = 20 := (ws_t hw 141 20 390 (by decide) (by decide) (by decide +kernel)).1
theorem wn_141 {h : PH} (hw : WS h) : hN h 141 = 390 := (ws_t hw 141 20 390 (by decide) (by decide) (by decide +kernel)).2
theorem wt_142 {h : PH} (hw : WS h) : hT h 142 = 20 := (ws_t hw 142 20 39 (by decide) (by decide) (by decide +kernel)).1
theorem wn_142 {h : PH} (hw : WS h) : hN h 142 = 39 := (ws_t hw 142 20 39 (by decide) (by decide) (by decide +kernel)).2
theorem wt_143 {h : PH} (hw : WS h) : hT h 143 = 22 := (ws_t hw 143 22 3 (by decide) (by decide) (by decide +kernel)).1
theorem wn_143 {h : PH} (hw : WS h) : hN h 143 = 3 := (ws_t hw 143 22 3 (by decide) (by decide) (by decide +kernel)).2
theorem wt_144 {h : PH} (hw : WS h) : hT h 144 = 20 := (ws_t hw 144 20 169 (by decide) (by decide) (by decide +kernel)).1
theorem wn_144 {h : PH} (hw : WS h) : hN h 144 = 169 := (ws_t hw 144 20 169 (by decide) (by decide) (by decide +kernel)).2
theorem wt_145 {h : PH} (hw : WS h) : hT h 145 = 20 := (ws_t hw 145 20 12 (by decide) (by decide) (by decide +kernel)).1
theorem wn_145 {h : PH} (hw : WS h) : hN h 145 = 12 := (ws_t hw 145 20 12 (by decide) (by decide) (by decide +kernel)).2
theorem wt_146 {h : PH} (hw : WS h) : hT h 146 = 20 := (ws_t hw 146 20 12 (by decide) (by decide) (by decide +kernel)).1
theorem wn_146 {h : PH} (hw : WS h) : hN h 146 = 12 := (ws_t hw 146 20 12 (by decide) (by decide) (by decide +kernel)).2
theorem wt_147 {h : PH} (hw : WS h) : hT h 147 = 20 := (ws_t hw 147 20 14 (by decide) (by decide) (by decide +kernel)).1
theorem wn_147 {h : PH} (hw : WS h) : hN h 147 = 14 := (ws_t hw 147 20 14 (by decide) (by decide) (by decide +kernel)).2
theorem wt_148 {h : PH} (hw : WS h) : hT h 148 = 20 := (ws_t hw 148 20 80 (by decide) (by decide) (by decide +kernel)).1
theorem wn_148 {h : PH} (hw : WS h) : hN h 148 = 80 := (ws_t hw 148 20 80 (by decide) (by decide) (by decide +kernel)).2
theorem wr_5_0 {h : PH} (hw : WS h) : hR h 5 0 = 6 := hw.2.1 (5, 0, 6) (List.mem_of_elem_eq_true (by decide +kernel))
theorem wr_5_1 {h : PH} (hw : WS h) : hR h 5 1 = 8 := hw.2.1 (5, 1, 8) (List.mem_of_elem_eq_true (by decide +kernel))
theorem wr_5_2 {h : PH} (hw : WS h) : hR h 5 2 = 79 := hw.2.1 (5, 2, 79) (List.mem_of_elem_eq_true (by decide +kernel))
theorem wr_5_3 {h : PH} (hw : WS h) : hR h 5 3 = 85 := hw.2.1 (5, 3, 85) (List.mem_of_elem_eq_true (by decide +kernel))
theorem wr_5_4 {h : PH} (hw : WS h) : hR h 5 4 = 88 := hw.2.1 (5, 4, 88) (List.mem_of_elem_eq_true (by decide +kernel))
theorem wr_5_5 {h : PH} (hw : WS h) : hR h 5 5 = 89 := hw.2.1 (5, 5, 89) (List.mem_of_elem_eq_true (by decide +kernel))
theorem wr_5_6 {h : PH} (hw : WS h) : hR h 5 6 = 90 := hw.2.1 (5, 6, 90) (List.mem_of_elem_eq_true (by decide +kernel))
theorem wr_5_7 {h : PH} (hw : WS h) : hR h 5 7 = 94 := hw.2.1 (5, 7, 94) (List.mem_of_elem_eq_true (by decide +kernel))
theorem wr_5_8 {h : PH} (hw : WS h) : hR h 5 8 = 95 := hw.2.1 (5, 8, 95) (List.mem_of_elem_eq_true (by decide +kernel))
theorem wr_6_0 {h : PH} (hw : WS h) : hR h 6 0 = 7 := hw.2.1 (6, 0, 7) (List.mem_of_elem_eq_true (by decide +kernel))
theorem wr_8_0 {h : PH} (hw : WS h) : hR h 8 0 = 9 := hw.2.1 (8, 0, 9) (List.mem_of_elem_eq_true (by decide +kernel))
theorem wr_8_1 {h : PH} (hw : WS h) : hR h 8 1 = 10 := hw.2.1 (8, 1, 10) (List.mem_of_elem_eq_true (by decide +kernel))
theorem wr_8_2 {h : PH} (hw : WS h) : hR h 8 2 = 11 := hw.2.1 (8, 2, 11) (List.mem_of_elem_eq_true (by decide +kernel))
theorem wr_8_3 {h : PH} (hw : WS h) : hR h 8 3 = 12 := hw.2.1 (8, 3, 12) (List.mem_of_elem_eq_true (by decide +kernel))
theorem wr_8_4 {h : PH} (hw : WS h) : hR h 8 4 = 15 := hw.2.1 (8, 4, 15) (List.mem_of_elem_eq_true (by decide +kernel))
theorem wr_8_5 {h : PH} (hw : WS h) : hR h 8 5 = 29 := hw.2.1 (8, 5, 29) (List.mem_of_elem_eq_true (by decide +kernel))
theorem wr_8_6 {h : PH} (hw : WS h) : hR h 8 6 = 30 := hw.2.1 (8, 6, 30) (List.mem_of_elem_eq_true (by decide +kernel))
theorem wr_9_1 {h : PH} (hw : WS h) : hR h 9 1 = 31 := hw.2.1 (9, 1, 31) (List.mem_of_elem_eq_true (by decide +kernel))
theorem wr_9_2 {h : PH} (hw : WS h) : hR h 9 2 = 35 := hw.2.1 (9, 2, 35) (List.mem_of_elem_eq_true (by decide +kernel))
theorem wr_9_3 {h : PH} (hw : WS h) : hR h 9 3 = 39 := hw.2.1 (9, 3, 39) (List.mem_of_elem_eq_true (by decide +kernel))
theorem wr_9_4 {h : PH} (hw : WS h) : hR h 9 4 = 43 := hw.2.1 (9, 4, 43) (List.mem_of_elem_eq_true (by decide +kernel))
theorem wr_9_5 {h : PH} (hw : WS h) : hR h 9 5 = 47 := hw.2.1 (9, 5, 47) (List.mem_of_elem_eq_true (by decide +kernel))
theorem wr_9_6 {h : PH} (hw : WS h) : hR h 9 6 = 51 := hw.2.1 (9, 6, 51) (List.mem_of_elem_eq_true (by decide +kernel))
theorem wr_9_7 {h : PH} (hw : WS h) : hR h 9 7 = 55 := hw.2.1 (9, 7, 55) (List.mem_of_elem_eq_true (by decide +kernel))
theorem wr_9_8 {h : PH} (hw : WS h) : hR h 9 8 = 59 := hw.2.1 (9, 8, 59) (List.mem_of_elem_eq_true (by decide +kernel))
theorem wr_9_9 {h : PH} (hw : WS h) : hR h 9 9 = 63 := hw.2.1 (9, 9, 63) (List.mem_of_elem_eq_true (by decide +kernel))
theorem wr_9_10 {h : PH} (hw : WS h) : hR h 9 10 = 67 := hw.2.1 (9, 10, 67) (List.mem_of_elem_eq_true (by decide +kernel))
theorem wr_9_11 {h : PH} (hw : WS h) : hR h 9 11 = 71 := hw.2.1 (9, 11, 71) (List.mem_of_elem_eq_true (by decide +kernel))
theorem wr_9_12 {h : PH} (hw : WS h) : hR h 9 12 = 75 := hw.2.1 (9, 12, 75) (List.mem_of_elem_eq_true (by decide +kernel))
theorem wr_10_1 {h : PH} (hw : WS h) : hR h 10 1 = 33 := hw.2.1 (10, 1, 33) (List.mem_of_elem_eq_true (by decide +kernel))
theorem wr_10_2 {h : PH} (hw : WS h) : hR h 10 2 = 37 := hw.2.1 (10, 2, 37) (List.mem_of_elem_eq_true (by decide +kernel))
theorem wr_10_3 {h : PH} (hw : WS h) : hR h 10 3 = 41 := hw.2.1 (10, 3, 41) (List.mem_of_elem_eq_true (by decide +kernel))
theorem wr_10_4 {h : PH} (hw : WS h) : hR h 10 4 = 45 := hw.2.1 (10, 4, 45) (List.mem_of_elem_eq_true (by decide +kernel))
theorem wr_10_5 {h : PH} (hw : WS h) : hR h 10 5 = 49 := hw.2.1 (10, 5, 49) (List.mem_of_elem_eq_true (by decide +kernel))
theorem wr_10_6 {h : PH} (hw : WS h) : hR h 10 6 = 53 := hw.2.1 (10, 6, 53) (List.mem_of_elem_eq_true (by decide +kernel))
theorem wr_10_7 {h : PH} (hw : WS h) : hR h 10 7 = 57 := hw.2.1 (10, 7, 57) (List.mem_of_elem_eq_true (by decide +kernel))
theorem wr_10_8 {h : PH} (hw : WS h) : hR h 10 8 = 61 := hw.2.1 (10, 8, 61) (List.mem_of_elem_eq_true (by decide +kernel))
theorem wr_10_9 {h : PH} (hw : WS h) : hR h 10 9 = 65 := hw.2.1 (10, 9, 65) (List.mem_of_elem_eq_true (by decide +kernel))
theorem wr_10_10 {h : PH} (hw : WS h) : hR h 10 10 = 69 := hw.2.1 (10, 10, 69) (List.mem_of_elem_eq_true (by decide +kernel))
theorem wr_10_11 {h : PH} (hw : WS h) : hR h 10 11 = 73 := hw.2.1 (10, 11, 73) (List.mem_of_elem_eq_true (by decide +kernel))
theorem wr_10_12 {h : PH} (hw : WS h) : hR h 10 12 = 77 := hw.2.1 (10, 12, 77) (List.mem_of_elem_eq_true (by decide +kernel))
theorem wr_11_1 {h : PH} (hw : WS h) : hR h 11 1 = 34 := hw.2.1 (11, 1, 34) (List.mem_of_elem_eq_true (by decide +kernel))
theorem wr_11_2 {h : PH} (hw : WS h) : hR h 11 2 = 38 := hw.2.1 (11, 2, 38) (List.mem_of_elem_eq_true (by decide +kernel))
theorem wr_11_3 {h : PH} (hw : WS h) : hR h 11 3 = 42 := hw.2.1 (11, 3, 42) (List.mem_of_elem_eq_true (by decide +kernel))
theorem wr_11_4 {h : PH} (hw : WS h) : hR h 11 4 = 46 := hw.2.1 (11, 4, 46) (List.mem_of_elem_eq_true (by decide +kernel))
theorem wr_11_5 {h : PH} (hw : WS h) : hR h 11 5 = 50 := hw.2.1 (11, 5, 50) (List.mem_of_elem_eq_true (by decide +kernel))
theorem wr_11_6 {h : PH} (hw : WS h) : hR h 11 6 = 54 := hw.2.1 (11, 6, 54) (List.mem_of_elem_eq_true (by decide +kernel))
theorem wr_11_7 {h : PH} (hw : WS h) : hR h 11 7 = 58 := hw.2.1 (11, 7, 58) (List.mem_of_elem_eq_true (by decide +kernel))
theorem wr_11_8 {h : PH} (hw : WS h) : hR h 11 8 = 62 := hw.2.1 (11, 8, 62) (List.mem_of_elem_eq_true (by decide +kernel))
theorem wr_11_9 {h : PH} (hw : WS h) : hR h 11 9 = 66 := hw.2.1 (11, 9, 66) (List.mem_of_elem_eq_true (by decide +kernel))
theorem wr_11_10 {h : PH} (hw : WS h) : hR h 11 10 = 70 := hw.2.1 (11, 10, 70) (List.mem_of_elem_eq_true (by decide +kernel))
theorem wr_11_11 {h : PH} (hw : WS h) : hR h 11 11 = 74 := hw.2.1 (11, 11, 74) (List.mem_of_elem_eq_true (by decide +kernel))
theorem wr_11_12 {h : PH} (hw : WS h) : hR h 11 12 = 78 := hw.2.1 (11, 12, 78) (List.mem_of_elem_eq_true (by decide +kernel))
theorem wr_12_0 {h : PH} (hw : WS h) : hR h 12 0 = 13 := hw.2.1 (12, 0, 13) (List.mem_of_elem_eq_true (by decide +kernel))
theorem wr_12_1 {h : PH} (hw : WS h) : hR h 12 1 = 14 := hw.2.1 (12, 1, 14) (List.mem_of_elem_eq_true (by decide +kernel))
theorem wr_15_0 {h : PH} (hw : WS h) : hR h 15 0 = 16 := hw.2.1 (15, 0, 16) (List.mem_of_elem_eq_true (by decide +kernel))
theorem wr_15_1 {h : PH} (hw : WS h) : hR h 15 1 = 17 := hw.2.1 (15, 1, 17) (List.mem_of_elem_eq_true (by decide +kernel))
theorem wr_15_2 {h : PH} (hw : WS h) : hR h 15 2 = 18 := hw.2.1 (15, 2, 18) (List.mem_of_elem_eq_true (by decide +kernel))
theorem wr_15_3 {h : PH} (hw : WS h) : hR h 15 3 = 19 := hw.2.1 (15, 3, 19) (List.mem_of_elem_eq_true (by decide +kernel))
theorem wr_15_4 {h : PH} (hw : WS h) : hR h 15 4 = 20 := hw.2.1 (15, 4, 20) (List.mem_of_elem_eq_true (by decide +kernel))
theorem wr_15_5 {h : PH} (hw : WS h) : hR h 15 5 = 21 := hw.2.1 (15, 5, 21) (List.mem_of_elem_eq_true (by decide +kernel))
theorem wr_15_6 {h : PH} (hw : WS h) : hR h 15 6 = 22 := hw.2.1 (15, 6, 22) (List.mem_of_elem_eq_true (by decide +kernel))
theorem wr_15_7 {h : PH} (hw : WS h) : hR h 15 7 = 23 := hw.2.1 (15, 7, 23) (List.mem_of_elem_eq_true (by decide +kernel))
theorem wr_15_8 {h : PH} (hw : WS h) : hR h 15 8 = 24 := hw.2.1 (15, 8, 24) (List.mem_of_elem_eq_true (by decide +kernel))
theorem wr_15_9 {h : PH} (hw : WS h) : hR h 15 9 = 25 := hw.2.1 (15, 9, 25) (List.mem_of_elem_eq_true (by decide +kernel))
theorem wr_15_10 {h : PH} (hw : WS h) : hR h 15 10 = 26 := hw.2.1 (15, 10, 26) (List.mem_of_elem_eq_true (by decide +kernel))
theorem wr_15_11 {h : PH} (hw : WS h) : hR h 15 11 = 27 := hw.2.1 (15, 11, 27) (List.mem_of_elem_eq_true (by decide +kernel))
theorem wr_15_12 {h : PH} (hw : WS h) : hR h 15 12 = 28 := hw.2.1 (15, 12, 28) (List.mem_of_elem_eq_true (by decide +kernel))
theorem wr_31_3 {h : PH} (hw : WS h) : hR h 31 3 = 32 := hw.2.1 (31, 3, 32) (List.mem_of_elem_eq_true (by decide +kernel))
theorem wr_33_0 {h : PH} (hw : WS h) : hR h 33 0 = 31 := hw.2.1 (33, 0, 31) (List.mem_of_elem_eq_true (by decide +kernel))
theorem wr_34_0 {h : PH} (hw : WS h) : hR h 34 0 = 31 := hw.2.1 (34, 0, 31) (List.mem_of_elem_eq_true (by decide +kernel))
theorem wr_34_1 {h : PH} (hw : WS h) : hR h 34 1 = 12 := hw.2.1 (34, 1, 12) (List.mem_of_elem_eq_true (by decide +kernel))
theorem wr_35_3 {h : PH} (hw : WS h) : hR h 35 3 = 36 := hw.2.1 (35, 3, 36) (List.mem_of_elem_eq_true (by decide +kernel))
theorem wr_37_0 {h : PH} (hw : WS h) : hR h 37 0 = 35 := hw.2.1 (37, 0, 35) (List.mem_of_elem_eq_true (by decide +kernel))
theorem wr_38_0 {h : PH} (hw : WS h) : hR h 38 0 = 35 := hw.2.1 (38, 0, 35) (List.mem_of_elem_eq_true (by decide +kernel))
theorem wr_38_1 {h : PH} (hw : WS h) : hR h 38 1 = 12 := hw.2.1 (38, 1, 12) (List.mem_of_elem_eq_true (by decide +kernel))
theorem wr_39_3 {h : PH} (hw : WS h) : hR h 39 3 = 40 := hw.2.1 (39, 3, 40) (List.mem_of_elem_eq_true (by decide +kernel))
theorem wr_41_0 {h : PH} (hw : WS h) : hR h 41 0 = 39 := hw.2.1 (41, 0, 39) (List.mem_of_elem_eq_true (by decide +kernel))
theorem wr_42_0 {h : PH} (hw : WS h) : hR h 42 0 = 39 := hw.2.1 (42, 0, 39) (List.mem_of_elem_eq_true (by decide +kernel))
theorem wr_42_1 {h : PH} (hw : WS h) : hR h 42 1 = 12 := hw.2.1 (42, 1, 12) (List.mem_of_elem_eq_true (by decide +kernel))
theorem wr_43_3 {h : PH} (hw : WS h) : hR h 43 3 = 44 := hw.2.1 (43, 3, 44) (List.mem_of_elem_eq_true (by decide +kernel))
theorem wr_45_0 {h : PH} (hw : WS h) : hR h 45 0 = 43 := hw.2.1 (45, 0, 43) (List.mem_of_elem_eq_true (by decide +kernel))
theorem wr_46_0 {h : PH} (hw : WS h) : hR h 46 0 = 43 := hw.2.1 (46, 0, 43) (List.mem_of_elem_eq_true (by decide +kernel))
theorem wr_46_1 {h : PH} (hw : WS h) : hR h 46 1 = 12 := hw.2.1 (46, 1, 12) (List.mem_of_elem_eq_true (by decide +kernel))
theorem wr_47_3 {h : PH} (hw : WS h) : hR h 47 3 = 48 := hw.2.1 (47, 3, 48) (List.mem_of_elem_eq_true (by decide +kernel))
theorem wr_49_0 {h : PH} (hw : WS h) : hR h 49 0 = 47 := hw.2.1 (49, 0, 47) (List.mem_of_elem_eq_true (by decide +kernel))
theorem wr_50_0 {h : PH} (hw : WS h) : hR h 50 0 = 47 := hw.2.1 (50, 0, 47) (List.mem_of_elem_eq_true (by decide +kernel))
theorem wr_50_1 {h : PH} (hw : WS h) : hR h 50 1 = 12 := hw.2.1 (50, 1, 12) (List.mem_of_elem_eq_true (by decide +kernel))
theorem wr_51_3 {h : PH} (hw : WS h) : hR h 51 3 = 52 := hw.2.1 (51, 3, 52) (List.mem_of_elem_eq_true (by decide +kernel))
theorem wr_53_0 {h : PH} (hw : WS h) : hR h 53 0 = 51 := hw.2.1 (53, 0, 51) (List.mem_of_elem_eq_true (by decide +kernel))
theorem wr_54_0 {h : PH} (hw : WS h) : hR h 54 0 = 51 := hw.2.1 (54, 0, 51) (List.mem_of_elem_eq_true (by decide +kernel))
theorem wr_54_1 {h : PH} (hw : WS h) : hR h 54 1 = 12 := hw.2.1 (54, 1, 12) (List.mem_of_elem_eq_true (by decide +kernel))
theorem wr_55_3 {h : PH} (hw : WS h) : hR h 55 3 = 56 := hw.2.1 (55, 3, 56) (List.mem_of_elem_eq_true (by decide +kernel))
theorem wr_57_0 {h : PH} (hw : WS h) : hR h 57 0 = 55 := hw.2.1 (57, 0, 55) (List.mem_of_elem_eq_true (by decide +kernel))
theorem wr_58_0 {h : PH} (hw : WS h) : hR h 58 0 = 55 := hw.2.1 (58, 0, 55) (List.mem_of_elem_eq_true (by decide +kernel))
theorem wr_58_1 {h : PH} (hw : WS h) : hR h 58 1 = 12 := hw.2.1 (58, 1, 12) (List.mem_of_elem_eq_true (by decide +kernel))
theorem wr_59_3 {h : PH} (hw : WS h) : hR h 59 3 = 60 := hw.2.1 (59, 3, 60) (List.mem_of_elem_eq_true (by decide +kernel))
theorem wr_61_0 {h : PH} (hw : WS h) : hR h 61 0 = 59 := hw.2.1 (61, 0, 59) (List.mem_of_elem_eq_true (by decide +kernel))
theorem wr_62_0 {h : PH} (hw : WS h) : hR h 62 0 = 59 := hw.2.1 (62, 0, 59) (List.mem_of_elem_eq_true (by decide +kernel))
theorem wr_62_1 {h : PH} (hw : WS h) : hR h 62 1 = 12 := hw.2.1 (62, 1, 12) (List.mem_of_elem_eq_true (by decide +kernel))
theorem wr_63_3 {h : PH} (hw : WS h) : hR h 63 3 = 64 := hw.2.1 (63, 3, 64) (List.mem_of_elem_eq_true (by decide +kernel))
theorem wr_65_0 {h : PH} (hw : WS h) : hR h 65 0 = 63 := hw.2.1 (65, 0, 63) (List.mem_of_elem_eq_true (by decide +kernel))
theorem wr_66_0 {h : PH} (hw : WS h) : hR h 66 0 = 63 := hw.2.1 (66, 0, 63) (List.mem_of_elem_eq_true (by decide +kernel))
theorem wr_66_1 {h : PH} (hw : WS h) : hR h 66 1 = 12 := hw.2.1 (66, 1, 12) (List.mem_of_elem_eq_true (by decide +kernel))
theorem wr_67_3 {h : PH} (hw : WS h) : hR h 67 3 = 68 := hw.2.1 (67, 3, 68) (List.mem_of_elem_eq_true (by decide +kernel))
theorem wr_69_0 {h : PH} (hw : WS h) : hR h 69 0 = 67 := hw.2.1 (69, 0, 67) (List.mem_of_elem_eq_true (by decide +kernel))
theorem wr_70_0 {h : PH} (hw : WS h) : hR h 70 0 = 67 := hw.2.1 (70, 0, 67) (List.mem_of_elem_eq_true (by decide +kernel))
theorem wr_70_1 {h : PH} (hw : WS h) : hR h 70 1 = 12 := hw.2.1 (70, 1, 12) (List.mem_of_elem_eq_true (by decide +kernel))
theorem wr_71_3 {h : PH} (hw : WS h) : hR h 71 3 = 72 := hw.2.1 (71, 3, 72) (List.mem_of_elem_eq_true (by decide +kernel))
theorem wr_73_0 {h : PH} (hw : WS h) : hR h 73 0 = 71 := hw.2.1 (73, 0, 71) (List.mem_of_elem_eq_true (by decide +kernel))
theorem wr_74_0 {h : PH} (hw : WS h) : hR h 74 0 = 71 := hw.2.1 (74, 0, 71) (List.mem_of_elem_eq_true (by decide +kernel))
theorem wr_74_1 {h : PH} (hw : WS h) : hR h 74 1 = 12 := hw.2.1 (74, 1, 12) (List.mem_of_elem_eq_true (by decide +kernel))
theorem wr_75_3 {h : PH} (hw : WS h) : hR h 75 3 = 76 := hw.2.1 (75, 3, 76) (List.mem_of_elem_eq_true (by decide +kernel))
theorem wr_77_0 {h : PH} (hw : WS h) : hR h 77 0 = 75 := hw.2.1 (77, 0, 75) (List.mem_of_elem_eq_true (by decide +kernel))
theorem wr_78_0 {h : PH} (hw : WS h) : hR h 78 0 = 75 := hw.2.1 (78, 0, 75) (List.mem_of_elem_eq_true (by decide +kernel))
theorem wr_78_1 {h : PH} (hw : WS h) : hR h 78 1 = 12 := hw.2.1 (78, 1, 12) (List.mem_of_elem_eq_true (by decide +kernel))
theorem wr_79_0 {h : PH} (hw : WS h) : hR h 79 0 = 80 := hw.2.1 (79, 0, 80) (List.mem_of_elem_eq_true (by decide +kernel))
theorem wr_79_2 {h : PH} (hw : WS h) : hR h 79 2 = 81 := hw.2.1 (79, 2, 81) (List.mem_of_elem_eq_true (by decide +kernel))
theorem wr_79_3 {h : PH} (hw : WS h) : hR h 79 3 = 82 := hw.2.1 (79, 3, 82) (List.mem_of_elem_eq_true (by decide +kernel))
theorem wr_79_4 {h : PH} (hw : WS h) : hR h 79 4 = 83 := hw.2.1 (79, 4, 83) (List.mem_of_elem_eq_true (by decide +kernel))
theorem wr_79_5 {h : PH} (hw : WS h) : hR h 79 5 = 84 := hw.2.1 (79, 5, 84) (List.mem_of_elem_eq_true (by decide +kernel))
theorem wr_85_0 {h : PH} (hw : WS h) : hR h 85 0 = 86 := hw.2.1 (85, 0, 86) (List.mem_of_elem_eq_true (by decide +kernel))
theorem wr_85_1 {h : PH} (hw : WS h) : hR h 85 1 = 87 := hw.2.1 (85, 1, 87) (List.mem_of_elem_eq_true (by decide +kernel))
theorem wr_90_0 {h : PH} (hw : WS h) : hR h 90 0 = 91 := hw.2.1 (90, 0, 91) (List.mem_of_elem_eq_true (by decide +kernel))
theorem wr_90_1 {h : PH} (hw : WS h) : hR h 90 1 = 92 := hw.2.1 (90, 1, 92) (List.mem_of_elem_eq_true (by decide +kernel))
theorem wr_90_2 {h : PH} (hw : WS h) : hR h 90 2 = 93 := hw.2.1 (90, 2, 93) (List.mem_of_elem_eq_true (by decide +kernel))
theorem wr_96_1 {h : PH} (hw : WS h) : hR h 96 1 = 97 := hw.2.1 (96, 1, 97) (List.mem_of_elem_eq_true (by decide +kernel))
theorem wr_96_2 {h : PH} (hw : WS h) : hR h 96 2 = 98 := hw.2.1 (96, 2, 98) (List.mem_of_elem_eq_true (by decide +kernel))
theorem wr_96_3 {h : PH} (hw : WS h) : hR h 96 3 = 99 := hw.2.1 (96, 3, 99) (List.mem_of_elem_eq_true (by decide +kernel))
theorem wr_96_4 {h : PH} (hw : WS h) : hR h 96 4 = 100 := hw.2.1 (96, 4, 100) (List.mem_of_elem_eq_true (by decide +kernel))
theorem wr_96_5 {h : PH} (hw : WS h) : hR h 96 5 = 101 := hw.2.1 (96, 5, 101) (List.mem_of_elem_eq_true (by decide +kernel))
theorem wr_96_7 {h : PH} (hw : WS h) : hR h 96 7 = 102 := hw.2.1 (96, 7, 102) (List.mem_of_elem_eq_true (by decide +kernel))
theorem wr_96_8 {h : PH} (hw : WS h) : hR h 96 8 = 103 := hw.2.1 (96, 8, 103) (List.mem_of_elem_eq_true (by decide +kernel))
theorem wr_96_9 {h : PH} (hw : WS h) : hR h 96 9 = 104 := hw.2.1 (96, 9, 104) (List.mem_of_elem_eq_true (by decide +kernel))
theorem wr_96_10 {h : PH} (hw : WS h) : hR h 96 10 = 105 := hw.2.1 (96, 10, 105) (List.mem_of_elem_eq_true (by decide +kernel))
theorem wr_106_1 {h : PH} (hw : WS h) : hR h 106 1 = 107 := hw.2.1 (106, 1, 107) (List.mem_of_elem_eq_true (by decide +kernel))
theorem wr_106_2 {h : PH} (hw : WS h) : hR h 106 2 = 108 := hw.2.1 (106, 2, 108) (List.mem_of_elem_eq_true (by decide +kernel))
theorem wr_106_3 {h : PH} (hw : WS h) : hR h 106 3 = 109 := hw.2.1 (106, 3, 109) (List.mem_of_elem_eq_true (by decide +kernel))
theorem wr_106_4 {h : PH} (hw : WS h) : hR h 106 4 = 110 := hw.2.1 (106, 4, 110) (List.mem_of_elem_eq_true (by decide +kernel))
theorem wr_106_5 {h : PH} (hw : WS h) : hR h 106 5 = 111 := hw.2.1 (106, 5, 111) (List.mem_of_elem_eq_true (by decide +kernel))
theorem wr_106_7 {h : PH} (hw : WS h) : hR h 106 7 = 112 := hw.2.1 (106, 7, 112) (List.mem_of_elem_eq_true (by decide +kernel))
theorem wr_106_8 {h : PH} (hw : WS h) : hR h 106 8 = 113 := hw.2.1 (106, 8, 113) (List.mem_of_elem_eq_true (by decide +kernel))
theorem wr_106_9 {h : PH} (hw : WS h) : hR h 106 9 = 114 := hw.2.1 (106, 9, 114) (List.mem_of_elem_eq_true (by decide +kernel))
theorem wr_106_10 {h : PH} (hw : WS h) : hR h 106 10 = 115 := hw.2.1 (106, 10, 115) (List.mem_of_elem_eq_true (by decide +kernel))
theorem wr_116_1 {h : PH} (hw : WS h) : hR h 116 1 = 117 := hw.2.1 (116, 1, 117) (List.mem_of_elem_eq_true (by decide +kernel))
theorem wr_116_3 {h : PH} (hw : WS h) : hR h 116 3 = 118 := hw.2.1 (116, 3, 118) (List.mem_of_elem_eq_true (by decide +kernel))
theorem wr_116_5 {h : PH} (hw : WS h) : hR h 116 5 = 119 := hw.2.1 (116, 5, 119) (List.mem_of_elem_eq_true (by decide +kernel))
theorem wr_116_6 {h : PH} (hw : WS h) : hR h 116 6 = 120 := hw.2.1 (116, 6, 120) (List.mem_of_elem_eq_true (by decide +kernel))
theorem wr_116_7 {h : PH} (hw : WS h) : hR h 116 7 = 121 := hw.2.1 (116, 7, 121) (List.mem_of_elem_eq_true (by decide +kernel))
theorem wr_116_8 {h : PH} (hw : WS h) : hR h 116 8 = 122 := hw.2.1 (116, 8, 122) (List.mem_of_elem_eq_true (by decide +kernel))
theorem wr_116_9 {h : PH} (hw : WS h) : hR h 116 9 = 123 := hw.2.1 (116, 9, 123) (List.mem_of_elem_eq_true (by decide +kernel))
theorem wr_116_17 {h : PH} (hw : WS h) : hR h 116 17 = 124 := hw.2.1 (116, 17, 124) (List.mem_of_elem_eq_true (by decide +kernel))
theorem wr_116_18 {h : PH} (hw : WS h) : hR h 116 18 = 125 := hw.2.1 (116, 18, 125) (List.mem_of_elem_eq_true (by decide +kernel))
theorem wr_116_19 {h : PH} (hw : WS h) : hR h 116 19 = 126 := hw.2.1 (116, 19, 126) (List.mem_of_elem_eq_true (by decide +kernel))
theorem wr_116_21 {h : PH} (hw : WS h) : hR h 116 21 = 127 := hw.2.1 (116, 21, 127) (List.mem_of_elem_eq_true (by decide +kernel))
theorem wr_116_22 {h : PH} (hw : WS h) : hR h 116 22 = 128 := hw.2.1 (116, 22, 128) (List.mem_of_elem_eq_true (by decide +kernel))
theorem wr_116_23 {h : PH} (hw : WS h) : hR h 116 23 = 129 := hw.2.1 (116, 23, 129) (List.mem_of_elem_eq_true (by decide +kernel))
theorem wr_116_25 {h : PH} (hw : WS h) : hR h 116 25 = 130 := hw.2.1 (116, 25, 130) (List.mem_of_elem_eq_true (by decide +kernel))
theorem wr_116_26 {h : PH} (hw : WS h) : hR h 116 26 = 131 := hw.2.1 (116, 26, 131) (List.mem_of_elem_eq_true (by decide +kernel))
theorem wr_116_27 {h : PH} (hw : WS h) : hR h 116 27 = 132 := hw.2.1 (116, 27, 132) (List.mem_of_elem_eq_true (by decide +kernel))
theorem wr_116_28 {h : PH} (hw : WS h) : hR h 116 28 = 133 := hw.2.1 (116, 28, 133) (List.mem_of_elem_eq_true (by decide +kernel))
theorem wr_116_30 {h : PH} (hw : WS h) : hR h 116 30 = 134 := hw.2.1 (116, 30, 134) (List.mem_of_elem_eq_true (by decide +kernel))
theorem wr_116_31 {h : PH} (hw : WS h) : hR h 116 31 = 135 := hw.2.1 (116, 31, 135) (List.mem_of_elem_eq_true (by decide +kernel))
theorem wr_116_32 {h : PH} (hw : WS h) : hR h 116 32 = 136 := hw.2.1 (116, 32, 136) (List.mem_of_elem_eq_true (by decide +kernel))
theorem wr_116_33 {h : PH} (hw : WS h) : hR h 116 33 = 137 := hw.2.1 (116, 33, 137) (List.mem_of_elem_eq_true (by decide +kernel))
theorem wr_116_34 {h : PH} (hw : WS h) : hR h 116 34 = 138 := hw.2.1 (116, 34, 138) (List.mem_of_elem_eq_true (by decide +kernel))
theorem wr_116_36 {h : PH} (hw : WS h) : hR h 116 36 = 139 := hw.2.1 (116, 36, 139) (List.mem_of_elem_eq_true (by decide +kernel))
theorem wr_116_38 {h : PH} (hw : WS h) : hR h 116 38 = 140 := hw.2.1 (116, 38, 140) (List.mem_of_elem_eq_true (by decide +kernel))
theorem wr_116_39 {h : PH} (hw : WS h) : hR h 116 39 = 141 := hw.2.1 (116, 39, 141) (List.mem_of_elem_eq_true (by decide +kernel))
theorem wr_116_42 {h : PH} (hw : WS h) : hR h 116 42 = 142 := hw.2.1 (116, 42, 142) (List.mem_of_elem_eq_true (by decide +kernel))
theorem wr_116_43 {h : PH} (hw : WS h) : hR h 116 43 = 143 := hw.2.1 (116, 43, 143) (List.mem_of_elem_eq_true (by decide +kernel))
theorem wr_116_44 {h : PH} (hw : WS h) : hR h 116 44 = 144 := hw.2.1 (116, 44, 144) (List.mem_of_elem_eq_true (by decide +kernel))
theorem wr_116_45 {h : PH} (hw : WS h) : hR h 116 45 = 145 := hw.2.1 (116, 45, 145) (List.mem_of_elem_eq_true (by decide +kernel))
theorem wr_116_46 {h : PH} (hw : WS h) : hR h 116 46 = 146 := hw.2.1 (116, 46, 146) (List.mem_of_elem_eq_true (by decide +kernel))
theorem wr_116_47 {h : PH} (hw : WS h) : hR h 116 47 = 147 := hw.2.1 (116, 47, 147) (List.mem_of_elem_eq_true (by decide +kernel))
theorem wr_116_48 {h : PH} (hw : WS h) : hR h 116 48 = 148 := hw.2.1 (116, 48, 148) (List.mem_of_elem_eq_true (by decide +kernel))
theorem inB_of {h : PH} {k t N j : Nat} (ht : hT h k = t) (hn : hN h k = N) (hj : j < N) (hN : N < 2 ^ 31) : inB h k t (nI j) := ⟨ht, nI_pos (by omega), by rw [nI_clamp (by omega), hn]; exact hj⟩
end
section
/-! ROWS OF BITS: sums of some of them, echelon forms -/
/-- the sum of the rows r 0 .. r (k-1) that c tells -/
def cmb (r : Nat → Nat) : Nat → Nat → Nat
  | 0, _ => 0
  | k + 1, c => cmb r k c ^^^ (if c.testBit k then r k else 0)
theorem cmb_xor (r : Nat → Nat) (c d : Nat) : ∀ k, cmb r k (c ^^^ d) = cmb r k c ^^^ cmb r k d
  | 0 => by simp [cmb]
  | k + 1 => by
    show cmb r k (c ^^^ d) ^^^ _ = (cmb r k c ^^^ _) ^^^ (cmb r k d ^^^ _)
    rw [cmb_xor r c d k, xor4 (cmb r k c)]
    congr 1
    rw [Nat.testBit_xor]
    cases c.testBit k <;> cases d.testBit k <;> simp
theorem cmb_0 (r : Nat → Nat) : ∀ k, cmb r k 0 = 0
  | 0 => rfl
  | k + 1 => by show cmb r k 0 ^^^ _ = 0; rw [cmb_0 r k]; simp
theorem cmb_cg {r r' : Nat → Nat} {c c' : Nat} : ∀ k, (∀ i, i < k → r i = r' i ∧ c.testBit i = c'.testBit i) → cmb r k c = cmb r' k c'
  | 0, _ => rfl
  | k + 1, h => by
    show cmb r k c ^^^ _ = cmb r' k c' ^^^ _
    rw [cmb_cg k (fun i hi => h i (by omega)), (h k (by omega)).1, (h k (by omega)).2]
theorem cmb_st {r : Nat → Nat} {c k j : Nat} (h : c < 2 ^ k) : cmb r (k + j) c = cmb r k c := by
  induction j with
  | zero => rfl
  | succ j ih =>
    rw [← Nat.add_assoc]
    show cmb r (k + j) c ^^^ _ = _
    rw [tb_lt h (Nat.le_add_right k j), ih]
    simp
theorem cmb_lt {r : Nat → Nat} {n c : Nat} : ∀ k, (∀ i, i < k → r i < 2 ^ n) → cmb r k c < 2 ^ n
  | 0, _ => Nat.two_pow_pos n
  | k + 1, h => by
    refine xor_lt (cmb_lt k (fun i hi => h i (by omega))) ?_
    split
    · exact h k (by omega)
    · exact Nat.two_pow_pos n
theorem cmb_top (r : Nat → Nat) (k c : Nat) : cmb r (k + 1) (2 ^ k ^^^ c) = r k ^^^ cmb r (k + 1) c := by
  rw [cmb_xor]
  congr 1
  show cmb r k (2 ^ k) ^^^ _ = _
  rw [Nat.testBit_two_pow_self, if_pos rfl]
  have : cmb r k (2 ^ k) = cmb r k 0 := cmb_cg k (fun i hi => ⟨rfl, by rw [Nat.testBit_two_pow, Nat.zero_testBit]; simp; omega⟩)
  rw [this, cmb_0, Nat.zero_xor]
/-- no sum of some (one at least) is 0 -/
def indep (r : Nat → Nat) (k : Nat) : Prop := ∀ c, c < 2 ^ k → cmb r k c = 0 → c = 0
theorem lt_succ_cases {c k : Nat} (h : c < 2 ^ (k + 1)) : (c < 2 ^ k ∧ c.testBit k = false) ∨ (c.testBit k = true ∧ 2 ^ k ^^^ c < 2 ^ k) := by
  rcases hb : c.testBit k with _ | _
  · left
    refine ⟨?_, rfl⟩
    apply Nat.lt_pow_two_of_testBit
    intro i hi
    rcases Nat.eq_or_lt_of_le hi with rfl | hgt
    · exact hb
    · exact tb_lt h hgt
  · right
    refine ⟨rfl, ?_⟩
    apply Nat.lt_pow_two_of_testBit
    intro i hi
    rw [Nat.testBit_xor, Nat.testBit_two_pow]
    rcases Nat.eq_or_lt_of_le hi with rfl | hgt
    · rw [hb]; simp
    · rw [tb_lt h hgt]
      have : ¬ k = i := by omega
      simp [this]
/-- one row more -/
theorem indep_succ {r : Nat → Nat} {k : Nat} : indep r (k + 1) ↔ indep r k ∧ ∀ c, c < 2 ^ k → cmb r k c ≠ r k := by
  constructor
  · intro h
    refine ⟨fun c hc h0 => ?_, fun c hc he => ?_⟩
    · refine h c (Nat.lt_of_lt_of_le hc (pow_le (by omega))) ?_
      rw [cmb_st (j := 1) hc]
      exact h0
    · have h1 : cmb r (k + 1) (2 ^ k ^^^ c) = 0 := by rw [cmb_top, cmb_st (j := 1) hc, he, Nat.xor_self]
      have h2 := h (2 ^ k ^^^ c) (xor_lt (Nat.pow_lt_pow_right (by decide) (by omega)) (Nat.lt_of_lt_of_le hc (pow_le (by omega)))) h1
      have h3 : (2 ^ k ^^^ c).testBit k = true := by rw [Nat.testBit_xor, Nat.testBit_two_pow_self, tb_lt hc (Nat.le_refl k)]; rfl
      rw [h2, Nat.zero_testBit] at h3
      cases h3
  · rintro ⟨h1, h2⟩ c hc h0
    rcases lt_succ_cases hc with ⟨w, -⟩ | ⟨w1, w2⟩
    · refine h1 c w ?_
      rw [cmb_st (j := 1) w] at h0
      exact h0
    · exfalso
      have e : c = 2 ^ k ^^^ (2 ^ k ^^^ c) := (xor_cx _ _).symm
      rw [e, cmb_top, cmb_st (j := 1) w2] at h0
      exact h2 _ w2 (xor_eq0 h0).symm
/-! the echelon form: rows k is 0 or has its highest bit at k -/
def inE (rows : Nat → Nat) : Nat → Nat → Prop
  | 0, v => v = 0
  | k + 1, v => inE rows k v ∨ (rows k ≠ 0 ∧ inE rows k (v ^^^ rows k))
def shE (rows : Nat → Nat) : Prop := ∀ k, rows k = 0 ∨ (2 ^ k ≤ rows k ∧ rows k < 2 ^ (k + 1))
theorem inE_0 (rows : Nat → Nat) : ∀ k, inE rows k 0
  | 0 => rfl
  | k + 1 => Or.inl (inE_0 rows k)
theorem inE_lt {rows : Nat → Nat} (hs : shE rows) : ∀ k v, inE rows k v → v < 2 ^ k
  | 0, v, h => by have : v = 0 := h; rw [this]; decide
  | k + 1, v, h => by
    rcases h with h | ⟨h1, h2⟩
    · exact Nat.lt_of_lt_of_le (inE_lt hs k v h) (pow_le (by omega))
    · have a := inE_lt hs k _ h2
      rcases hs k with w | w
      · exact absurd w h1
      · have := xor_lt (Nat.lt_of_lt_of_le a (pow_le (show k ≤ k + 1 by omega))) w.2
        rwa [xor_xc] at this
theorem inE_xor {rows : Nat → Nat} : ∀ k u v, inE rows k u → inE rows k v → inE rows k (u ^^^ v)
  | 0, u, v, h1, h2 => by have a : u = 0 := h1; have b : v = 0 := h2; rw [a, b]; rfl
  | k + 1, u, v, h1, h2 => by
    rcases h1 with h1 | ⟨a1, h1⟩ <;> rcases h2 with h2 | ⟨a2, h2⟩
    · exact Or.inl (inE_xor k u v h1 h2)
    · exact Or.inr ⟨a2, by rw [Nat.xor_assoc]; exact inE_xor k _ _ h1 h2⟩
    · exact Or.inr ⟨a1, by rw [Nat.xor_assoc, Nat.xor_comm v, ← Nat.xor_assoc]; exact inE_xor k _ _ h1 h2⟩
    · left
      have := inE_xor k _ _ h1 h2
      rwa [xor4, Nat.xor_self, Nat.xor_zero] at this
theorem inE_row {rows : Nat → Nat} {i : Nat} : ∀ k, i < k → inE rows k (rows i)
  | 0, h => by omega
  | k + 1, h => by
    rcases Nat.eq_or_lt_of_le (Nat.le_of_lt_succ h) with rfl | w
    · by_cases z : rows i = 0
      · rw [z]; exact inE_0 _ _
      · exact Or.inr ⟨z, by rw [Nat.xor_self]; exact inE_0 _ _⟩
    · exact Or.inl (inE_row k w)
theorem inE_up {rows : Nat → Nat} {i x : Nat} (h0 : rows i = 0) : ∀ k v, inE rows k v → inE (fun j => if j = i then x else rows j) k v
  | 0, v, h => h
  | k + 1, v, h => by
    rcases h with h | ⟨h1, h2⟩
    · exact Or.inl (inE_up h0 k v h)
    · have hk : k ≠ i := fun e => h1 (by rw [e]; exact h0)
      refine Or.inr ⟨by simp [hk]; exact h1, ?_⟩
      have := inE_up (x := x) h0 k _ h2
      simpa [hk] using this
/-- taking away the highest bits in turn: where it stops, what is left, what was taken -/
def spR (rows src : Nat → Nat) : Nat → Nat → Nat → Nat × Nat × Nat
  | 0, v, s => (0, v, s)
  | k + 1, v, s => if v.testBit k then (if rows k = 0 then (k + 1, v, s) else spR rows src k (v ^^^ rows k) (s ^^^ src k)) else spR rows src k v s
theorem spR_ok {rows src : Nat → Nat} (hs : shE rows) {r : Nat → Nat} {cnt : Nat} (h2 : ∀ k, rows k = cmb r cnt (src k)) : ∀ k v s, v < 2 ^ k →
    ((spR rows src k v s).1 = 0 ∧ (spR rows src k v s).2.1 = 0 ∧ inE rows k v) ∨
    (∃ j, j < k ∧ (spR rows src k v s).1 = j + 1 ∧ rows j = 0 ∧ 2 ^ j ≤ (spR rows src k v s).2.1 ∧ (spR rows src k v s).2.1 < 2 ^ (j + 1) ∧ ¬ inE rows k v ∧ ∃ u, inE rows k u ∧ v = u ^^^ (spR rows src k v s).2.1)
  | 0, v, s, hv => Or.inl ⟨rfl, by show v = 0; have : v < 1 := hv; omega, by show v = 0; have : v < 1 := hv; omega⟩
  | k + 1, v, s, hv => by
    rcases lt_succ_cases hv with ⟨w, hb⟩ | ⟨hb, w⟩
    · have e : spR rows src (k + 1) v s = spR rows src k v s := by show (if _ then _ else _) = _; rw [hb]; rfl
      rw [e]
      rcases spR_ok hs h2 k v s w with ⟨a, b, c⟩ | ⟨j, a, b, c, d1, d2, d3, u, d4, d5⟩
      · exact Or.inl ⟨a, b, Or.inl c⟩
      · refine Or.inr ⟨j, by omega, b, c, d1, d2, ?_, u, Or.inl d4, d5⟩
        rintro (q | ⟨q1, q2⟩)
        · exact d3 q
        · have q3 := inE_lt hs k _ q2
          rcases hs k with z | z
          · exact q1 z
          · have q4 := xor_top q3 z.1 z.2
            rw [xor_xc] at q4
            omega
    · have hge : 2 ^ k ≤ v := Nat.ge_two_pow_of_testBit hb
      by_cases hz : rows k = 0
      · have e : spR rows src (k + 1) v s = (k + 1, v, s) := by show (if _ then _ else _) = _; rw [hb, if_pos rfl, if_pos hz]
        rw [e]
        refine Or.inr ⟨k, by omega, rfl, hz, hge, hv, ?_, 0, inE_0 _ _, by rw [Nat.zero_xor]⟩
        rintro (q | ⟨q1, q2⟩)
        · have := inE_lt hs k v q
          omega
        · exact q1 hz
      · have e : spR rows src (k + 1) v s = spR rows src k (v ^^^ rows k) (s ^^^ src k) := by show (if _ then _ else _) = _; rw [hb, if_pos rfl, if_neg hz]
        rw [e]
        have hr : 2 ^ k ≤ rows k ∧ rows k < 2 ^ (k + 1) := by
          rcases hs k with z | z
          · exact absurd z hz
          · exact z
        have hlt : v ^^^ rows k < 2 ^ k := by
          apply Nat.lt_pow_two_of_testBit
          intro i hi
          rw [Nat.testBit_xor]
          rcases Nat.eq_or_lt_of_le hi with rfl | hgt
          · rw [hb, tb_top hr.1 hr.2]; rfl
          · rw [tb_lt hv hgt, tb_lt hr.2 hgt]; rfl
        rcases spR_ok hs h2 k _ (s ^^^ src k) hlt with ⟨a, b, c⟩ | ⟨j, a, b, c, d1, d2, d3, u, d4, d5⟩
        · exact Or.inl ⟨a, b, Or.inr ⟨hz, c⟩⟩
        · refine Or.inr ⟨j, by omega, b, c, d1, d2, ?_, u ^^^ rows k, Or.inr ⟨hz, by rw [xor_xc]; exact d4⟩, ?_⟩
          · rintro (q | ⟨q1, q2⟩)
            · have := inE_lt hs k v q
              omega
            · exact d3 q2
          · generalize (spR rows src k (v ^^^ rows k) (s ^^^ src k)).2.1 = z at d5 ⊢
            have d6 := congrArg (fun z => z ^^^ rows k) d5
            simp only [xor_xc] at d6
            rw [d6, Nat.xor_assoc, Nat.xor_comm z (rows k), ← Nat.xor_assoc]
theorem spR_src {rows src : Nat → Nat} {r : Nat → Nat} {cnt : Nat} (h2 : ∀ k, rows k = cmb r cnt (src k)) : ∀ k v s, (spR rows src k v s).2.1 ^^^ cmb r cnt (spR rows src k v s).2.2 = v ^^^ cmb r cnt s
  | 0, v, s => rfl
  | k + 1, v, s => by
    unfold spR
    split
    · split
      · rfl
      · rw [spR_src h2 k, cmb_xor, ← h2 k, xor4, Nat.xor_self, Nat.xor_zero]
    · exact spR_src h2 k v s
end
