-- ===== PART A: goes FIRST, ahead of the names: the tables' words, and 'selects' of the private methods out of them =====
/-- the name of Match's eighth method, out of the Statement's own tables -/
def nm_Ma8 : String := match (tables_1_5[125]? : Option Cond) with
  | some (Cond.instanceMethod y) => y.name
  | _ => ""
/-- a private method of a class that the tables say can be made, by its rows of tables_1 -/
def lw_okq (q : MethodName × Nat) : Prop := (q.1.cls ≠ "java/lang/invoke/MethodHandle" ∧ q.1.cls ≠ "java/lang/invoke/VarHandle") ∧ Cond.instantiable q.1.cls q.2 ∈ tables_1 ∧ Cond.privateMethod q.1 ∈ tables_1 ∧ Cond.instanceMethod q.1 ∈ tables_1
theorem lw_p0 : lw_okq (⟨"BeckChoice$Law", "valueOf", "(I)I"⟩, 2) := ⟨⟨by decide +kernel, by decide +kernel⟩, List.mem_of_getElem? (i := 170) (by decide +kernel), List.mem_of_getElem? (i := 468) (by decide +kernel), List.mem_of_getElem? (i := 469) (by decide +kernel)⟩
theorem lw_p1 : lw_okq (⟨"BeckChoice", "tapeInt", "(I)V"⟩, 19) := ⟨⟨by decide +kernel, by decide +kernel⟩, List.mem_of_getElem? (i := 24) (by decide +kernel), List.mem_of_getElem? (i := 545) (by decide +kernel), List.mem_of_getElem? (i := 546) (by decide +kernel)⟩
theorem lw_p2 : lw_okq (⟨"BeckChoice$Tokens", "word", "()I"⟩, 8) := ⟨⟨by decide +kernel, by decide +kernel⟩, List.mem_of_getElem? (i := 122) (by decide +kernel), List.mem_of_getElem? (i := 570) (by decide +kernel), List.mem_of_getElem? (i := 571) (by decide +kernel)⟩
theorem lw_p3 : lw_okq (⟨"BeckChoice$Tokens", "number", "()I"⟩, 8) := ⟨⟨by decide +kernel, by decide +kernel⟩, List.mem_of_getElem? (i := 122) (by decide +kernel), List.mem_of_getElem? (i := 618) (by decide +kernel), List.mem_of_getElem? (i := 619) (by decide +kernel)⟩
theorem lw_p4 : lw_okq (⟨"BeckChoice$Reader", "readLine", "()V"⟩, 2) := ⟨⟨by decide +kernel, by decide +kernel⟩, List.mem_of_getElem? (i := 157) (by decide +kernel), List.mem_of_getElem? (i := 712) (by decide +kernel), List.mem_of_getElem? (i := 713) (by decide +kernel)⟩
theorem lw_p5 : lw_okq (⟨"BeckChoice$Reader", "readBeck", "()V"⟩, 2) := ⟨⟨by decide +kernel, by decide +kernel⟩, List.mem_of_getElem? (i := 157) (by decide +kernel), List.mem_of_getElem? (i := 716) (by decide +kernel), List.mem_of_getElem? (i := 717) (by decide +kernel)⟩
theorem lw_p6 : lw_okq (⟨"BeckChoice$Reader", "readTo", "(I)V"⟩, 2) := ⟨⟨by decide +kernel, by decide +kernel⟩, List.mem_of_getElem? (i := 157) (by decide +kernel), List.mem_of_getElem? (i := 731) (by decide +kernel), List.mem_of_getElem? (i := 732) (by decide +kernel)⟩
theorem lw_p7 : lw_okq (⟨"BeckChoice$Reader", "readRiver", "()V"⟩, 2) := ⟨⟨by decide +kernel, by decide +kernel⟩, List.mem_of_getElem? (i := 157) (by decide +kernel), List.mem_of_getElem? (i := 743) (by decide +kernel), List.mem_of_getElem? (i := 744) (by decide +kernel)⟩
theorem lw_p8 : lw_okq (⟨"BeckChoice$Reader", "readLaw", "()I"⟩, 2) := ⟨⟨by decide +kernel, by decide +kernel⟩, List.mem_of_getElem? (i := 157) (by decide +kernel), List.mem_of_getElem? (i := 751) (by decide +kernel), List.mem_of_getElem? (i := 752) (by decide +kernel)⟩
theorem lw_p9 : lw_okq (⟨"BeckChoice$Reader", "readSum", "(I)V"⟩, 2) := ⟨⟨by decide +kernel, by decide +kernel⟩, List.mem_of_getElem? (i := 157) (by decide +kernel), List.mem_of_getElem? (i := 755) (by decide +kernel), List.mem_of_getElem? (i := 756) (by decide +kernel)⟩
theorem lw_p10 : lw_okq (⟨"BeckChoice$Reader", "readTerm", "(I)V"⟩, 2) := ⟨⟨by decide +kernel, by decide +kernel⟩, List.mem_of_getElem? (i := 157) (by decide +kernel), List.mem_of_getElem? (i := 759) (by decide +kernel), List.mem_of_getElem? (i := 760) (by decide +kernel)⟩
theorem lw_p11 : lw_okq (⟨"BeckChoice$Reader", "readAtom", "(I)V"⟩, 2) := ⟨⟨by decide +kernel, by decide +kernel⟩, List.mem_of_getElem? (i := 157) (by decide +kernel), List.mem_of_getElem? (i := 763) (by decide +kernel), List.mem_of_getElem? (i := 764) (by decide +kernel)⟩
theorem lw_p12 : lw_okq (⟨"BeckChoice$Reader", "goesIn", "(I)Z"⟩, 2) := ⟨⟨by decide +kernel, by decide +kernel⟩, List.mem_of_getElem? (i := 157) (by decide +kernel), List.mem_of_getElem? (i := 771) (by decide +kernel), List.mem_of_getElem? (i := 772) (by decide +kernel)⟩
theorem lw_p13 : lw_okq (⟨"BeckChoice$Reader", "readIf", "(I)V"⟩, 2) := ⟨⟨by decide +kernel, by decide +kernel⟩, List.mem_of_getElem? (i := 157) (by decide +kernel), List.mem_of_getElem? (i := 775) (by decide +kernel), List.mem_of_getElem? (i := 776) (by decide +kernel)⟩
theorem lw_p14 : lw_okq (⟨"BeckChoice$Reader", "readTruth", "(I)V"⟩, 2) := ⟨⟨by decide +kernel, by decide +kernel⟩, List.mem_of_getElem? (i := 157) (by decide +kernel), List.mem_of_getElem? (i := 779) (by decide +kernel), List.mem_of_getElem? (i := 780) (by decide +kernel)⟩
theorem lw_p15 : lw_okq (⟨"BeckChoice$Reader", "readBoth", "(I)V"⟩, 2) := ⟨⟨by decide +kernel, by decide +kernel⟩, List.mem_of_getElem? (i := 157) (by decide +kernel), List.mem_of_getElem? (i := 783) (by decide +kernel), List.mem_of_getElem? (i := 784) (by decide +kernel)⟩
def lw_privs_1 : List (MethodName × Nat) := [(⟨"BeckChoice$Law", "valueOf", "(I)I"⟩, 2), (⟨"BeckChoice", "tapeInt", "(I)V"⟩, 19), (⟨"BeckChoice$Tokens", "word", "()I"⟩, 8), (⟨"BeckChoice$Tokens", "number", "()I"⟩, 8), (⟨"BeckChoice$Reader", "readLine", "()V"⟩, 2), (⟨"BeckChoice$Reader", "readBeck", "()V"⟩, 2), (⟨"BeckChoice$Reader", "readTo", "(I)V"⟩, 2), (⟨"BeckChoice$Reader", "readRiver", "()V"⟩, 2), (⟨"BeckChoice$Reader", "readLaw", "()I"⟩, 2), (⟨"BeckChoice$Reader", "readSum", "(I)V"⟩, 2), (⟨"BeckChoice$Reader", "readTerm", "(I)V"⟩, 2), (⟨"BeckChoice$Reader", "readAtom", "(I)V"⟩, 2), (⟨"BeckChoice$Reader", "goesIn", "(I)Z"⟩, 2), (⟨"BeckChoice$Reader", "readIf", "(I)V"⟩, 2), (⟨"BeckChoice$Reader", "readTruth", "(I)V"⟩, 2), (⟨"BeckChoice$Reader", "readBoth", "(I)V"⟩, 2)]
theorem lw_r1 : ∀ q ∈ lw_privs_1, lw_okq q := List.forall_mem_cons.mpr ⟨lw_p0, List.forall_mem_cons.mpr ⟨lw_p1, List.forall_mem_cons.mpr ⟨lw_p2, List.forall_mem_cons.mpr ⟨lw_p3, List.forall_mem_cons.mpr ⟨lw_p4, List.forall_mem_cons.mpr ⟨lw_p5, List.forall_mem_cons.mpr ⟨lw_p6, List.forall_mem_cons.mpr ⟨lw_p7, List.forall_mem_cons.mpr ⟨lw_p8, List.forall_mem_cons.mpr ⟨lw_p9, List.forall_mem_cons.mpr ⟨lw_p10, List.forall_mem_cons.mpr ⟨lw_p11, List.forall_mem_cons.mpr ⟨lw_p12, List.forall_mem_cons.mpr ⟨lw_p13, List.forall_mem_cons.mpr ⟨lw_p14, List.forall_mem_cons.mpr ⟨lw_p15, fun _ h => absurd h List.not_mem_nil⟩⟩⟩⟩⟩⟩⟩⟩⟩⟩⟩⟩⟩⟩⟩⟩
theorem lw_p16 : lw_okq (⟨"BeckChoice$Reader", "readUnit", "(I)V"⟩, 2) := ⟨⟨by decide +kernel, by decide +kernel⟩, List.mem_of_getElem? (i := 157) (by decide +kernel), List.mem_of_getElem? (i := 787) (by decide +kernel), List.mem_of_getElem? (i := 788) (by decide +kernel)⟩
theorem lw_p17 : lw_okq (⟨"BeckChoice$Reader", "readComparison", "()I"⟩, 2) := ⟨⟨by decide +kernel, by decide +kernel⟩, List.mem_of_getElem? (i := 157) (by decide +kernel), List.mem_of_getElem? (i := 791) (by decide +kernel), List.mem_of_getElem? (i := 792) (by decide +kernel)⟩
theorem lw_p18 : lw_okq (⟨"BeckChoice$Reader", "aim", "(I)V"⟩, 2) := ⟨⟨by decide +kernel, by decide +kernel⟩, List.mem_of_getElem? (i := 157) (by decide +kernel), List.mem_of_getElem? (i := 795) (by decide +kernel), List.mem_of_getElem? (i := 796) (by decide +kernel)⟩
theorem lw_p19 : lw_okq (⟨"BeckChoice$Scene", "wouldAdmit", "([III)Z"⟩, 8) := ⟨⟨by decide +kernel, by decide +kernel⟩, List.mem_of_getElem? (i := 183) (by decide +kernel), List.mem_of_getElem? (i := 880) (by decide +kernel), List.mem_of_getElem? (i := 881) (by decide +kernel)⟩
theorem lw_p20 : lw_okq (⟨"BeckChoice", "keptIfDone", "(I)I"⟩, 19) := ⟨⟨by decide +kernel, by decide +kernel⟩, List.mem_of_getElem? (i := 24) (by decide +kernel), List.mem_of_getElem? (i := 897) (by decide +kernel), List.mem_of_getElem? (i := 898) (by decide +kernel)⟩
theorem lw_p21 : lw_okq (⟨"BeckChoice$Scene", "floodedOf", "(I)I"⟩, 8) := ⟨⟨by decide +kernel, by decide +kernel⟩, List.mem_of_getElem? (i := 183) (by decide +kernel), List.mem_of_getElem? (i := 998) (by decide +kernel), List.mem_of_getElem? (i := 999) (by decide +kernel)⟩
theorem lw_p22 : lw_okq (⟨"BeckChoice", "keptIfSome", "(I)I"⟩, 19) := ⟨⟨by decide +kernel, by decide +kernel⟩, List.mem_of_getElem? (i := 24) (by decide +kernel), List.mem_of_getElem? (i := 1011) (by decide +kernel), List.mem_of_getElem? (i := 1012) (by decide +kernel)⟩
theorem lw_p23 : lw_okq (⟨"BeckChoice", "drawnDeed", "()I"⟩, 19) := ⟨⟨by decide +kernel, by decide +kernel⟩, List.mem_of_getElem? (i := 24) (by decide +kernel), List.mem_of_getElem? (i := 1019) (by decide +kernel), List.mem_of_getElem? (i := 1020) (by decide +kernel)⟩
theorem lw_p24 : lw_okq (⟨"BeckChoice", "drawn", "(I)I"⟩, 19) := ⟨⟨by decide +kernel, by decide +kernel⟩, List.mem_of_getElem? (i := 24) (by decide +kernel), List.mem_of_getElem? (i := 1023) (by decide +kernel), List.mem_of_getElem? (i := 1024) (by decide +kernel)⟩
theorem lw_p25 : lw_okq (⟨"BeckChoice$Scene", "wouldMove", "(III)Z"⟩, 8) := ⟨⟨by decide +kernel, by decide +kernel⟩, List.mem_of_getElem? (i := 183) (by decide +kernel), List.mem_of_getElem? (i := 1040) (by decide +kernel), List.mem_of_getElem? (i := 1041) (by decide +kernel)⟩
theorem lw_p26 : lw_okq (⟨"BeckChoice$Match", "clear", "()V"⟩, 4) := ⟨⟨by decide +kernel, by decide +kernel⟩, List.mem_of_getElem? (i := 253) (by decide +kernel), List.mem_of_getElem? (i := 1071) (by decide +kernel), List.mem_of_getElem? (i := 1072) (by decide +kernel)⟩
theorem lw_p27 : lw_okq (⟨"BeckChoice$Match", "settle", "(LBeckChoice$Scene;I)V"⟩, 4) := ⟨⟨by decide +kernel, by decide +kernel⟩, List.mem_of_getElem? (i := 253) (by decide +kernel), List.mem_of_getElem? (i := 1075) (by decide +kernel), List.mem_of_getElem? (i := 1076) (by decide +kernel)⟩
theorem lw_p28 : lw_okq (⟨"BeckChoice$Match", "nextRiver", "(LBeckChoice$Scene;I)I"⟩, 4) := ⟨⟨by decide +kernel, by decide +kernel⟩, List.mem_of_getElem? (i := 253) (by decide +kernel), List.mem_of_getElem? (i := 1079) (by decide +kernel), List.mem_of_getElem? (i := 1080) (by decide +kernel)⟩
theorem lw_p29 : lw_okq (⟨"BeckChoice$Match", nm_Ma8, "(LBeckChoice$Scene;II)I"⟩, 4) := ⟨⟨by decide +kernel, by decide +kernel⟩, List.mem_of_getElem? (i := 253) (by decide +kernel), List.mem_of_getElem? (i := 1084) (by decide +kernel), List.mem_of_getElem? (i := 1085) (by decide +kernel)⟩
theorem lw_p30 : lw_okq (⟨"BeckChoice$Match", "comeIn", "(II)V"⟩, 4) := ⟨⟨by decide +kernel, by decide +kernel⟩, List.mem_of_getElem? (i := 253) (by decide +kernel), List.mem_of_getElem? (i := 1088) (by decide +kernel), List.mem_of_getElem? (i := 1089) (by decide +kernel)⟩
theorem lw_p31 : lw_okq (⟨"BeckChoice$Match", "goOff", "(II)V"⟩, 4) := ⟨⟨by decide +kernel, by decide +kernel⟩, List.mem_of_getElem? (i := 253) (by decide +kernel), List.mem_of_getElem? (i := 1094) (by decide +kernel), List.mem_of_getElem? (i := 1095) (by decide +kernel)⟩
def lw_privs_2 : List (MethodName × Nat) := [(⟨"BeckChoice$Reader", "readUnit", "(I)V"⟩, 2), (⟨"BeckChoice$Reader", "readComparison", "()I"⟩, 2), (⟨"BeckChoice$Reader", "aim", "(I)V"⟩, 2), (⟨"BeckChoice$Scene", "wouldAdmit", "([III)Z"⟩, 8), (⟨"BeckChoice", "keptIfDone", "(I)I"⟩, 19), (⟨"BeckChoice$Scene", "floodedOf", "(I)I"⟩, 8), (⟨"BeckChoice", "keptIfSome", "(I)I"⟩, 19), (⟨"BeckChoice", "drawnDeed", "()I"⟩, 19), (⟨"BeckChoice", "drawn", "(I)I"⟩, 19), (⟨"BeckChoice$Scene", "wouldMove", "(III)Z"⟩, 8), (⟨"BeckChoice$Match", "clear", "()V"⟩, 4), (⟨"BeckChoice$Match", "settle", "(LBeckChoice$Scene;I)V"⟩, 4), (⟨"BeckChoice$Match", "nextRiver", "(LBeckChoice$Scene;I)I"⟩, 4), (⟨"BeckChoice$Match", nm_Ma8, "(LBeckChoice$Scene;II)I"⟩, 4), (⟨"BeckChoice$Match", "comeIn", "(II)V"⟩, 4), (⟨"BeckChoice$Match", "goOff", "(II)V"⟩, 4)]
theorem lw_r2 : ∀ q ∈ lw_privs_2, lw_okq q := List.forall_mem_cons.mpr ⟨lw_p16, List.forall_mem_cons.mpr ⟨lw_p17, List.forall_mem_cons.mpr ⟨lw_p18, List.forall_mem_cons.mpr ⟨lw_p19, List.forall_mem_cons.mpr ⟨lw_p20, List.forall_mem_cons.mpr ⟨lw_p21, List.forall_mem_cons.mpr ⟨lw_p22, List.forall_mem_cons.mpr ⟨lw_p23, List.forall_mem_cons.mpr ⟨lw_p24, List.forall_mem_cons.mpr ⟨lw_p25, List.forall_mem_cons.mpr ⟨lw_p26, List.forall_mem_cons.mpr ⟨lw_p27, List.forall_mem_cons.mpr ⟨lw_p28, List.forall_mem_cons.mpr ⟨lw_p29, List.forall_mem_cons.mpr ⟨lw_p30, List.forall_mem_cons.mpr ⟨lw_p31, fun _ h => absurd h List.not_mem_nil⟩⟩⟩⟩⟩⟩⟩⟩⟩⟩⟩⟩⟩⟩⟩⟩
theorem lw_p32 : lw_okq (⟨"BeckChoice$Match", "asksOne", "(LBeckChoice$Scene;I)Z"⟩, 4) := ⟨⟨by decide +kernel, by decide +kernel⟩, List.mem_of_getElem? (i := 253) (by decide +kernel), List.mem_of_getElem? (i := 1106) (by decide +kernel), List.mem_of_getElem? (i := 1107) (by decide +kernel)⟩
theorem lw_p33 : lw_okq (⟨"BeckChoice$Match", "nextBeck", "(LBeckChoice$Scene;I)I"⟩, 4) := ⟨⟨by decide +kernel, by decide +kernel⟩, List.mem_of_getElem? (i := 253) (by decide +kernel), List.mem_of_getElem? (i := 1110) (by decide +kernel), List.mem_of_getElem? (i := 1111) (by decide +kernel)⟩
theorem lw_p34 : lw_okq (⟨"BeckChoice$Survey", "between", "(I)I"⟩, 14) := ⟨⟨by decide +kernel, by decide +kernel⟩, List.mem_of_getElem? (i := 276) (by decide +kernel), List.mem_of_getElem? (i := 1134) (by decide +kernel), List.mem_of_getElem? (i := 1135) (by decide +kernel)⟩
theorem lw_p35 : lw_okq (⟨"BeckChoice$Survey", "placeFrom", "(I)V"⟩, 14) := ⟨⟨by decide +kernel, by decide +kernel⟩, List.mem_of_getElem? (i := 276) (by decide +kernel), List.mem_of_getElem? (i := 1140) (by decide +kernel), List.mem_of_getElem? (i := 1141) (by decide +kernel)⟩
theorem lw_p36 : lw_okq (⟨"BeckChoice$Survey", "weigh", "()V"⟩, 14) := ⟨⟨by decide +kernel, by decide +kernel⟩, List.mem_of_getElem? (i := 276) (by decide +kernel), List.mem_of_getElem? (i := 1145) (by decide +kernel), List.mem_of_getElem? (i := 1146) (by decide +kernel)⟩
theorem lw_p37 : lw_okq (⟨"BeckChoice$Survey", "numberOf", "()I"⟩, 14) := ⟨⟨by decide +kernel, by decide +kernel⟩, List.mem_of_getElem? (i := 276) (by decide +kernel), List.mem_of_getElem? (i := 1156) (by decide +kernel), List.mem_of_getElem? (i := 1157) (by decide +kernel)⟩
theorem lw_p38 : lw_okq (⟨"BeckChoice$Survey", "fillsFrom", "(II)Z"⟩, 14) := ⟨⟨by decide +kernel, by decide +kernel⟩, List.mem_of_getElem? (i := 276) (by decide +kernel), List.mem_of_getElem? (i := 1186) (by decide +kernel), List.mem_of_getElem? (i := 1187) (by decide +kernel)⟩
theorem lw_p39 : lw_okq (⟨"BeckChoice$Supposing", "getsByTelling", "(LBeckChoice$Scene;II)Z"⟩, 7) := ⟨⟨by decide +kernel, by decide +kernel⟩, List.mem_of_getElem? (i := 373) (by decide +kernel), List.mem_of_getElem? (i := 1201) (by decide +kernel), List.mem_of_getElem? (i := 1202) (by decide +kernel)⟩
theorem lw_p40 : lw_okq (⟨"BeckChoice$Wooing", "weighGifts", "(I)V"⟩, 11) := ⟨⟨by decide +kernel, by decide +kernel⟩, List.mem_of_getElem? (i := 332) (by decide +kernel), List.mem_of_getElem? (i := 1225) (by decide +kernel), List.mem_of_getElem? (i := 1226) (by decide +kernel)⟩
theorem lw_p41 : lw_okq (⟨"BeckChoice$Wooing", "isNew", "(II)Z"⟩, 11) := ⟨⟨by decide +kernel, by decide +kernel⟩, List.mem_of_getElem? (i := 332) (by decide +kernel), List.mem_of_getElem? (i := 1237) (by decide +kernel), List.mem_of_getElem? (i := 1238) (by decide +kernel)⟩
theorem lw_p42 : lw_okq (⟨"BeckChoice$Wooing", "canBeEnough", "()Z"⟩, 11) := ⟨⟨by decide +kernel, by decide +kernel⟩, List.mem_of_getElem? (i := 332) (by decide +kernel), List.mem_of_getElem? (i := 1244) (by decide +kernel), List.mem_of_getElem? (i := 1245) (by decide +kernel)⟩
theorem lw_p43 : lw_okq (⟨"BeckChoice$Wooing", "givesFrom", "(II)Z"⟩, 11) := ⟨⟨by decide +kernel, by decide +kernel⟩, List.mem_of_getElem? (i := 332) (by decide +kernel), List.mem_of_getElem? (i := 1252) (by decide +kernel), List.mem_of_getElem? (i := 1253) (by decide +kernel)⟩
theorem lw_p44 : lw_okq (⟨"BeckChoice$Wooing", "hasEnough", "()Z"⟩, 11) := ⟨⟨by decide +kernel, by decide +kernel⟩, List.mem_of_getElem? (i := 332) (by decide +kernel), List.mem_of_getElem? (i := 1256) (by decide +kernel), List.mem_of_getElem? (i := 1257) (by decide +kernel)⟩
theorem lw_p45 : lw_okq (⟨"BeckChoice", "refusedAnswers", "(II)I"⟩, 19) := ⟨⟨by decide +kernel, by decide +kernel⟩, List.mem_of_getElem? (i := 24) (by decide +kernel), List.mem_of_getElem? (i := 1284) (by decide +kernel), List.mem_of_getElem? (i := 1285) (by decide +kernel)⟩
theorem lw_p46 : lw_okq (⟨"BeckChoice$Supposing", "countWilling", "(I)V"⟩, 7) := ⟨⟨by decide +kernel, by decide +kernel⟩, List.mem_of_getElem? (i := 373) (by decide +kernel), List.mem_of_getElem? (i := 1304) (by decide +kernel), List.mem_of_getElem? (i := 1305) (by decide +kernel)⟩
theorem lw_p47 : lw_okq (⟨"BeckChoice$Supposing", "tellInLowestTerms", "(II)V"⟩, 7) := ⟨⟨by decide +kernel, by decide +kernel⟩, List.mem_of_getElem? (i := 373) (by decide +kernel), List.mem_of_getElem? (i := 1333) (by decide +kernel), List.mem_of_getElem? (i := 1334) (by decide +kernel)⟩
def lw_privs_3 : List (MethodName × Nat) := [(⟨"BeckChoice$Match", "asksOne", "(LBeckChoice$Scene;I)Z"⟩, 4), (⟨"BeckChoice$Match", "nextBeck", "(LBeckChoice$Scene;I)I"⟩, 4), (⟨"BeckChoice$Survey", "between", "(I)I"⟩, 14), (⟨"BeckChoice$Survey", "placeFrom", "(I)V"⟩, 14), (⟨"BeckChoice$Survey", "weigh", "()V"⟩, 14), (⟨"BeckChoice$Survey", "numberOf", "()I"⟩, 14), (⟨"BeckChoice$Survey", "fillsFrom", "(II)Z"⟩, 14), (⟨"BeckChoice$Supposing", "getsByTelling", "(LBeckChoice$Scene;II)Z"⟩, 7), (⟨"BeckChoice$Wooing", "weighGifts", "(I)V"⟩, 11), (⟨"BeckChoice$Wooing", "isNew", "(II)Z"⟩, 11), (⟨"BeckChoice$Wooing", "canBeEnough", "()Z"⟩, 11), (⟨"BeckChoice$Wooing", "givesFrom", "(II)Z"⟩, 11), (⟨"BeckChoice$Wooing", "hasEnough", "()Z"⟩, 11), (⟨"BeckChoice", "refusedAnswers", "(II)I"⟩, 19), (⟨"BeckChoice$Supposing", "countWilling", "(I)V"⟩, 7), (⟨"BeckChoice$Supposing", "tellInLowestTerms", "(II)V"⟩, 7)]
theorem lw_r3 : ∀ q ∈ lw_privs_3, lw_okq q := List.forall_mem_cons.mpr ⟨lw_p32, List.forall_mem_cons.mpr ⟨lw_p33, List.forall_mem_cons.mpr ⟨lw_p34, List.forall_mem_cons.mpr ⟨lw_p35, List.forall_mem_cons.mpr ⟨lw_p36, List.forall_mem_cons.mpr ⟨lw_p37, List.forall_mem_cons.mpr ⟨lw_p38, List.forall_mem_cons.mpr ⟨lw_p39, List.forall_mem_cons.mpr ⟨lw_p40, List.forall_mem_cons.mpr ⟨lw_p41, List.forall_mem_cons.mpr ⟨lw_p42, List.forall_mem_cons.mpr ⟨lw_p43, List.forall_mem_cons.mpr ⟨lw_p44, List.forall_mem_cons.mpr ⟨lw_p45, List.forall_mem_cons.mpr ⟨lw_p46, List.forall_mem_cons.mpr ⟨lw_p47, fun _ h => absurd h List.not_mem_nil⟩⟩⟩⟩⟩⟩⟩⟩⟩⟩⟩⟩⟩⟩⟩⟩
theorem lw_p48 : lw_okq (⟨"BeckChoice$Tray", "cutTo", "(J)J"⟩, 3) := ⟨⟨by decide +kernel, by decide +kernel⟩, List.mem_of_getElem? (i := 404) (by decide +kernel), List.mem_of_getElem? (i := 1370) (by decide +kernel), List.mem_of_getElem? (i := 1371) (by decide +kernel)⟩
theorem lw_p49 : lw_okq (⟨"BeckChoiceModel", "next", "()V"⟩, 35) := ⟨⟨by decide +kernel, by decide +kernel⟩, List.mem_of_getElem? (i := 1396) (by decide +kernel), List.mem_of_getElem? (i := 1522) (by decide +kernel), List.mem_of_getElem? (i := 1523) (by decide +kernel)⟩
theorem lw_p50 : lw_okq (⟨"BeckChoiceModel", "see", "(I)I"⟩, 35) := ⟨⟨by decide +kernel, by decide +kernel⟩, List.mem_of_getElem? (i := 1396) (by decide +kernel), List.mem_of_getElem? (i := 1526) (by decide +kernel), List.mem_of_getElem? (i := 1527) (by decide +kernel)⟩
theorem lw_p51 : lw_okq (⟨"BeckChoiceModel", "keyAt", "()I"⟩, 35) := ⟨⟨by decide +kernel, by decide +kernel⟩, List.mem_of_getElem? (i := 1396) (by decide +kernel), List.mem_of_getElem? (i := 1533) (by decide +kernel), List.mem_of_getElem? (i := 1534) (by decide +kernel)⟩
theorem lw_p52 : lw_okq (⟨"BeckChoiceModel", "eats", "(I)Z"⟩, 35) := ⟨⟨by decide +kernel, by decide +kernel⟩, List.mem_of_getElem? (i := 1396) (by decide +kernel), List.mem_of_getElem? (i := 1544) (by decide +kernel), List.mem_of_getElem? (i := 1545) (by decide +kernel)⟩
theorem lw_p53 : lw_okq (⟨"BeckChoiceModel", "is", "(I)Z"⟩, 35) := ⟨⟨by decide +kernel, by decide +kernel⟩, List.mem_of_getElem? (i := 1396) (by decide +kernel), List.mem_of_getElem? (i := 1548) (by decide +kernel), List.mem_of_getElem? (i := 1549) (by decide +kernel)⟩
theorem lw_p54 : lw_okq (⟨"BeckChoiceModel", "fails", "(I)V"⟩, 35) := ⟨⟨by decide +kernel, by decide +kernel⟩, List.mem_of_getElem? (i := 1396) (by decide +kernel), List.mem_of_getElem? (i := 1552) (by decide +kernel), List.mem_of_getElem? (i := 1553) (by decide +kernel)⟩
theorem lw_p55 : lw_okq (⟨"BeckChoiceModel", "ends", "()V"⟩, 35) := ⟨⟨by decide +kernel, by decide +kernel⟩, List.mem_of_getElem? (i := 1396) (by decide +kernel), List.mem_of_getElem? (i := 1556) (by decide +kernel), List.mem_of_getElem? (i := 1557) (by decide +kernel)⟩
theorem lw_p56 : lw_okq (⟨"BeckChoiceModel", "readLine", "()V"⟩, 35) := ⟨⟨by decide +kernel, by decide +kernel⟩, List.mem_of_getElem? (i := 1396) (by decide +kernel), List.mem_of_getElem? (i := 1560) (by decide +kernel), List.mem_of_getElem? (i := 1561) (by decide +kernel)⟩
theorem lw_p57 : lw_okq (⟨"BeckChoiceModel", "readBeck", "()V"⟩, 35) := ⟨⟨by decide +kernel, by decide +kernel⟩, List.mem_of_getElem? (i := 1396) (by decide +kernel), List.mem_of_getElem? (i := 1564) (by decide +kernel), List.mem_of_getElem? (i := 1565) (by decide +kernel)⟩
theorem lw_p58 : lw_okq (⟨"BeckChoiceModel", "takesN", "(II)I"⟩, 35) := ⟨⟨by decide +kernel, by decide +kernel⟩, List.mem_of_getElem? (i := 1396) (by decide +kernel), List.mem_of_getElem? (i := 1568) (by decide +kernel), List.mem_of_getElem? (i := 1569) (by decide +kernel)⟩
theorem lw_p59 : lw_okq (⟨"BeckChoiceModel", "readFlag", "(I)Z"⟩, 35) := ⟨⟨by decide +kernel, by decide +kernel⟩, List.mem_of_getElem? (i := 1396) (by decide +kernel), List.mem_of_getElem? (i := 1572) (by decide +kernel), List.mem_of_getElem? (i := 1573) (by decide +kernel)⟩
theorem lw_p60 : lw_okq (⟨"BeckChoiceModel", "readTo", "(I)V"⟩, 35) := ⟨⟨by decide +kernel, by decide +kernel⟩, List.mem_of_getElem? (i := 1396) (by decide +kernel), List.mem_of_getElem? (i := 1576) (by decide +kernel), List.mem_of_getElem? (i := 1577) (by decide +kernel)⟩
theorem lw_p61 : lw_okq (⟨"BeckChoiceModel", "inRiver", "(I)I"⟩, 35) := ⟨⟨by decide +kernel, by decide +kernel⟩, List.mem_of_getElem? (i := 1396) (by decide +kernel), List.mem_of_getElem? (i := 1580) (by decide +kernel), List.mem_of_getElem? (i := 1581) (by decide +kernel)⟩
theorem lw_p62 : lw_okq (⟨"BeckChoiceModel", "readRiver", "()V"⟩, 35) := ⟨⟨by decide +kernel, by decide +kernel⟩, List.mem_of_getElem? (i := 1396) (by decide +kernel), List.mem_of_getElem? (i := 1584) (by decide +kernel), List.mem_of_getElem? (i := 1585) (by decide +kernel)⟩
theorem lw_p63 : lw_okq (⟨"BeckChoiceModel", "readLaw", "(I)V"⟩, 35) := ⟨⟨by decide +kernel, by decide +kernel⟩, List.mem_of_getElem? (i := 1396) (by decide +kernel), List.mem_of_getElem? (i := 1588) (by decide +kernel), List.mem_of_getElem? (i := 1589) (by decide +kernel)⟩
def lw_privs_4 : List (MethodName × Nat) := [(⟨"BeckChoice$Tray", "cutTo", "(J)J"⟩, 3), (⟨"BeckChoiceModel", "next", "()V"⟩, 35), (⟨"BeckChoiceModel", "see", "(I)I"⟩, 35), (⟨"BeckChoiceModel", "keyAt", "()I"⟩, 35), (⟨"BeckChoiceModel", "eats", "(I)Z"⟩, 35), (⟨"BeckChoiceModel", "is", "(I)Z"⟩, 35), (⟨"BeckChoiceModel", "fails", "(I)V"⟩, 35), (⟨"BeckChoiceModel", "ends", "()V"⟩, 35), (⟨"BeckChoiceModel", "readLine", "()V"⟩, 35), (⟨"BeckChoiceModel", "readBeck", "()V"⟩, 35), (⟨"BeckChoiceModel", "takesN", "(II)I"⟩, 35), (⟨"BeckChoiceModel", "readFlag", "(I)Z"⟩, 35), (⟨"BeckChoiceModel", "readTo", "(I)V"⟩, 35), (⟨"BeckChoiceModel", "inRiver", "(I)I"⟩, 35), (⟨"BeckChoiceModel", "readRiver", "()V"⟩, 35), (⟨"BeckChoiceModel", "readLaw", "(I)V"⟩, 35)]
theorem lw_r4 : ∀ q ∈ lw_privs_4, lw_okq q := List.forall_mem_cons.mpr ⟨lw_p48, List.forall_mem_cons.mpr ⟨lw_p49, List.forall_mem_cons.mpr ⟨lw_p50, List.forall_mem_cons.mpr ⟨lw_p51, List.forall_mem_cons.mpr ⟨lw_p52, List.forall_mem_cons.mpr ⟨lw_p53, List.forall_mem_cons.mpr ⟨lw_p54, List.forall_mem_cons.mpr ⟨lw_p55, List.forall_mem_cons.mpr ⟨lw_p56, List.forall_mem_cons.mpr ⟨lw_p57, List.forall_mem_cons.mpr ⟨lw_p58, List.forall_mem_cons.mpr ⟨lw_p59, List.forall_mem_cons.mpr ⟨lw_p60, List.forall_mem_cons.mpr ⟨lw_p61, List.forall_mem_cons.mpr ⟨lw_p62, List.forall_mem_cons.mpr ⟨lw_p63, fun _ h => absurd h List.not_mem_nil⟩⟩⟩⟩⟩⟩⟩⟩⟩⟩⟩⟩⟩⟩⟩⟩
theorem lw_p64 : lw_okq (⟨"BeckChoiceModel", "readSum", "(I)V"⟩, 35) := ⟨⟨by decide +kernel, by decide +kernel⟩, List.mem_of_getElem? (i := 1396) (by decide +kernel), List.mem_of_getElem? (i := 1592) (by decide +kernel), List.mem_of_getElem? (i := 1593) (by decide +kernel)⟩
theorem lw_p65 : lw_okq (⟨"BeckChoiceModel", "readTerm", "(I)V"⟩, 35) := ⟨⟨by decide +kernel, by decide +kernel⟩, List.mem_of_getElem? (i := 1396) (by decide +kernel), List.mem_of_getElem? (i := 1596) (by decide +kernel), List.mem_of_getElem? (i := 1597) (by decide +kernel)⟩
theorem lw_p66 : lw_okq (⟨"BeckChoiceModel", "readAtom", "(I)V"⟩, 35) := ⟨⟨by decide +kernel, by decide +kernel⟩, List.mem_of_getElem? (i := 1396) (by decide +kernel), List.mem_of_getElem? (i := 1600) (by decide +kernel), List.mem_of_getElem? (i := 1601) (by decide +kernel)⟩
theorem lw_p67 : lw_okq (⟨"BeckChoiceModel", "codes", "(I)V"⟩, 35) := ⟨⟨by decide +kernel, by decide +kernel⟩, List.mem_of_getElem? (i := 1396) (by decide +kernel), List.mem_of_getElem? (i := 1604) (by decide +kernel), List.mem_of_getElem? (i := 1605) (by decide +kernel)⟩
theorem lw_p68 : lw_okq (⟨"BeckChoiceModel", "wordOf", "(I)I"⟩, 35) := ⟨⟨by decide +kernel, by decide +kernel⟩, List.mem_of_getElem? (i := 1396) (by decide +kernel), List.mem_of_getElem? (i := 1608) (by decide +kernel), List.mem_of_getElem? (i := 1609) (by decide +kernel)⟩
theorem lw_p69 : lw_okq (⟨"BeckChoiceModel", "goesIn", "(I)Z"⟩, 35) := ⟨⟨by decide +kernel, by decide +kernel⟩, List.mem_of_getElem? (i := 1396) (by decide +kernel), List.mem_of_getElem? (i := 1612) (by decide +kernel), List.mem_of_getElem? (i := 1613) (by decide +kernel)⟩
theorem lw_p70 : lw_okq (⟨"BeckChoiceModel", "readIf", "(I)V"⟩, 35) := ⟨⟨by decide +kernel, by decide +kernel⟩, List.mem_of_getElem? (i := 1396) (by decide +kernel), List.mem_of_getElem? (i := 1616) (by decide +kernel), List.mem_of_getElem? (i := 1617) (by decide +kernel)⟩
theorem lw_p71 : lw_okq (⟨"BeckChoiceModel", "readTruth", "(I)V"⟩, 35) := ⟨⟨by decide +kernel, by decide +kernel⟩, List.mem_of_getElem? (i := 1396) (by decide +kernel), List.mem_of_getElem? (i := 1620) (by decide +kernel), List.mem_of_getElem? (i := 1621) (by decide +kernel)⟩
theorem lw_p72 : lw_okq (⟨"BeckChoiceModel", "readBoth", "(I)V"⟩, 35) := ⟨⟨by decide +kernel, by decide +kernel⟩, List.mem_of_getElem? (i := 1396) (by decide +kernel), List.mem_of_getElem? (i := 1624) (by decide +kernel), List.mem_of_getElem? (i := 1625) (by decide +kernel)⟩
theorem lw_p73 : lw_okq (⟨"BeckChoiceModel", "readUnit", "(I)V"⟩, 35) := ⟨⟨by decide +kernel, by decide +kernel⟩, List.mem_of_getElem? (i := 1396) (by decide +kernel), List.mem_of_getElem? (i := 1628) (by decide +kernel), List.mem_of_getElem? (i := 1629) (by decide +kernel)⟩
theorem lw_p74 : lw_okq (⟨"BeckChoiceModel", "isBeck", "(J)Z"⟩, 35) := ⟨⟨by decide +kernel, by decide +kernel⟩, List.mem_of_getElem? (i := 1396) (by decide +kernel), List.mem_of_getElem? (i := 1640) (by decide +kernel), List.mem_of_getElem? (i := 1641) (by decide +kernel)⟩
theorem lw_p75 : lw_okq (⟨"BeckChoiceModel", "laysLikes", "()V"⟩, 35) := ⟨⟨by decide +kernel, by decide +kernel⟩, List.mem_of_getElem? (i := 1396) (by decide +kernel), List.mem_of_getElem? (i := 1644) (by decide +kernel), List.mem_of_getElem? (i := 1645) (by decide +kernel)⟩
theorem lw_p76 : lw_okq (⟨"BeckChoiceModel", "reckons", "(III)I"⟩, 35) := ⟨⟨by decide +kernel, by decide +kernel⟩, List.mem_of_getElem? (i := 1396) (by decide +kernel), List.mem_of_getElem? (i := 1648) (by decide +kernel), List.mem_of_getElem? (i := 1649) (by decide +kernel)⟩
theorem lw_p77 : lw_okq (⟨"BeckChoiceModel", "giftAt", "(II)I"⟩, 35) := ⟨⟨by decide +kernel, by decide +kernel⟩, List.mem_of_getElem? (i := 1396) (by decide +kernel), List.mem_of_getElem? (i := 1652) (by decide +kernel), List.mem_of_getElem? (i := 1653) (by decide +kernel)⟩
theorem lw_p78 : lw_okq (⟨"BeckChoiceModel", "riversOf", "(I)I"⟩, 35) := ⟨⟨by decide +kernel, by decide +kernel⟩, List.mem_of_getElem? (i := 1396) (by decide +kernel), List.mem_of_getElem? (i := 1661) (by decide +kernel), List.mem_of_getElem? (i := 1662) (by decide +kernel)⟩
theorem lw_p79 : lw_okq (⟨"BeckChoiceModel", "wouldBoth", "(II)Z"⟩, 35) := ⟨⟨by decide +kernel, by decide +kernel⟩, List.mem_of_getElem? (i := 1396) (by decide +kernel), List.mem_of_getElem? (i := 1665) (by decide +kernel), List.mem_of_getElem? (i := 1666) (by decide +kernel)⟩
def lw_privs_5 : List (MethodName × Nat) := [(⟨"BeckChoiceModel", "readSum", "(I)V"⟩, 35), (⟨"BeckChoiceModel", "readTerm", "(I)V"⟩, 35), (⟨"BeckChoiceModel", "readAtom", "(I)V"⟩, 35), (⟨"BeckChoiceModel", "codes", "(I)V"⟩, 35), (⟨"BeckChoiceModel", "wordOf", "(I)I"⟩, 35), (⟨"BeckChoiceModel", "goesIn", "(I)Z"⟩, 35), (⟨"BeckChoiceModel", "readIf", "(I)V"⟩, 35), (⟨"BeckChoiceModel", "readTruth", "(I)V"⟩, 35), (⟨"BeckChoiceModel", "readBoth", "(I)V"⟩, 35), (⟨"BeckChoiceModel", "readUnit", "(I)V"⟩, 35), (⟨"BeckChoiceModel", "isBeck", "(J)Z"⟩, 35), (⟨"BeckChoiceModel", "laysLikes", "()V"⟩, 35), (⟨"BeckChoiceModel", "reckons", "(III)I"⟩, 35), (⟨"BeckChoiceModel", "giftAt", "(II)I"⟩, 35), (⟨"BeckChoiceModel", "riversOf", "(I)I"⟩, 35), (⟨"BeckChoiceModel", "wouldBoth", "(II)Z"⟩, 35)]
theorem lw_r5 : ∀ q ∈ lw_privs_5, lw_okq q := List.forall_mem_cons.mpr ⟨lw_p64, List.forall_mem_cons.mpr ⟨lw_p65, List.forall_mem_cons.mpr ⟨lw_p66, List.forall_mem_cons.mpr ⟨lw_p67, List.forall_mem_cons.mpr ⟨lw_p68, List.forall_mem_cons.mpr ⟨lw_p69, List.forall_mem_cons.mpr ⟨lw_p70, List.forall_mem_cons.mpr ⟨lw_p71, List.forall_mem_cons.mpr ⟨lw_p72, List.forall_mem_cons.mpr ⟨lw_p73, List.forall_mem_cons.mpr ⟨lw_p74, List.forall_mem_cons.mpr ⟨lw_p75, List.forall_mem_cons.mpr ⟨lw_p76, List.forall_mem_cons.mpr ⟨lw_p77, List.forall_mem_cons.mpr ⟨lw_p78, List.forall_mem_cons.mpr ⟨lw_p79, fun _ h => absurd h List.not_mem_nil⟩⟩⟩⟩⟩⟩⟩⟩⟩⟩⟩⟩⟩⟩⟩⟩
theorem lw_p80 : lw_okq (⟨"BeckChoiceModel", "isRiver", "(J)Z"⟩, 35) := ⟨⟨by decide +kernel, by decide +kernel⟩, List.mem_of_getElem? (i := 1396) (by decide +kernel), List.mem_of_getElem? (i := 1673) (by decide +kernel), List.mem_of_getElem? (i := 1674) (by decide +kernel)⟩
theorem lw_p81 : lw_okq (⟨"BeckChoiceModel", "becksIn", "(I)I"⟩, 35) := ⟨⟨by decide +kernel, by decide +kernel⟩, List.mem_of_getElem? (i := 1396) (by decide +kernel), List.mem_of_getElem? (i := 1677) (by decide +kernel), List.mem_of_getElem? (i := 1678) (by decide +kernel)⟩
theorem lw_p82 : lw_okq (⟨"BeckChoiceModel", "flowOf", "(I)I"⟩, 35) := ⟨⟨by decide +kernel, by decide +kernel⟩, List.mem_of_getElem? (i := 1396) (by decide +kernel), List.mem_of_getElem? (i := 1681) (by decide +kernel), List.mem_of_getElem? (i := 1682) (by decide +kernel)⟩
theorem lw_p83 : lw_okq (⟨"BeckChoiceModel", "leastOf", "(II)I"⟩, 35) := ⟨⟨by decide +kernel, by decide +kernel⟩, List.mem_of_getElem? (i := 1396) (by decide +kernel), List.mem_of_getElem? (i := 1688) (by decide +kernel), List.mem_of_getElem? (i := 1689) (by decide +kernel)⟩
theorem lw_p84 : lw_okq (⟨"BeckChoiceModel", "takesMore", "(III)Z"⟩, 35) := ⟨⟨by decide +kernel, by decide +kernel⟩, List.mem_of_getElem? (i := 1396) (by decide +kernel), List.mem_of_getElem? (i := 1692) (by decide +kernel), List.mem_of_getElem? (i := 1693) (by decide +kernel)⟩
theorem lw_p85 : lw_okq (⟨"BeckChoiceModel", "whyDeclare", "(JJ)I"⟩, 35) := ⟨⟨by decide +kernel, by decide +kernel⟩, List.mem_of_getElem? (i := 1396) (by decide +kernel), List.mem_of_getElem? (i := 1713) (by decide +kernel), List.mem_of_getElem? (i := 1714) (by decide +kernel)⟩
theorem lw_p86 : lw_okq (⟨"BeckChoiceModel", "keeps", "()V"⟩, 35) := ⟨⟨by decide +kernel, by decide +kernel⟩, List.mem_of_getElem? (i := 1396) (by decide +kernel), List.mem_of_getElem? (i := 1720) (by decide +kernel), List.mem_of_getElem? (i := 1721) (by decide +kernel)⟩
theorem lw_p87 : lw_okq (⟨"BeckChoiceModel", "declares", "(II)V"⟩, 35) := ⟨⟨by decide +kernel, by decide +kernel⟩, List.mem_of_getElem? (i := 1396) (by decide +kernel), List.mem_of_getElem? (i := 1724) (by decide +kernel), List.mem_of_getElem? (i := 1725) (by decide +kernel)⟩
theorem lw_p88 : lw_okq (⟨"BeckChoiceModel", "pushes", "(I)I"⟩, 35) := ⟨⟨by decide +kernel, by decide +kernel⟩, List.mem_of_getElem? (i := 1396) (by decide +kernel), List.mem_of_getElem? (i := 1728) (by decide +kernel), List.mem_of_getElem? (i := 1729) (by decide +kernel)⟩
theorem lw_p89 : lw_okq (⟨"BeckChoiceModel", "notes", "()V"⟩, 35) := ⟨⟨by decide +kernel, by decide +kernel⟩, List.mem_of_getElem? (i := 1396) (by decide +kernel), List.mem_of_getElem? (i := 1732) (by decide +kernel), List.mem_of_getElem? (i := 1733) (by decide +kernel)⟩
theorem lw_p90 : lw_okq (⟨"BeckChoiceModel", "whyLeave", "(J)I"⟩, 35) := ⟨⟨by decide +kernel, by decide +kernel⟩, List.mem_of_getElem? (i := 1396) (by decide +kernel), List.mem_of_getElem? (i := 1740) (by decide +kernel), List.mem_of_getElem? (i := 1741) (by decide +kernel)⟩
theorem lw_p91 : lw_okq (⟨"BeckChoiceModel", "whySend", "(JJJ)I"⟩, 35) := ⟨⟨by decide +kernel, by decide +kernel⟩, List.mem_of_getElem? (i := 1396) (by decide +kernel), List.mem_of_getElem? (i := 1748) (by decide +kernel), List.mem_of_getElem? (i := 1749) (by decide +kernel)⟩
theorem lw_p92 : lw_okq (⟨"BeckChoiceModel", "noTray", "(I)I"⟩, 35) := ⟨⟨by decide +kernel, by decide +kernel⟩, List.mem_of_getElem? (i := 1396) (by decide +kernel), List.mem_of_getElem? (i := 1772) (by decide +kernel), List.mem_of_getElem? (i := 1773) (by decide +kernel)⟩
theorem lw_p93 : lw_okq (⟨"BeckChoiceModel", "tells", "(I)I"⟩, 35) := ⟨⟨by decide +kernel, by decide +kernel⟩, List.mem_of_getElem? (i := 1396) (by decide +kernel), List.mem_of_getElem? (i := 1776) (by decide +kernel), List.mem_of_getElem? (i := 1777) (by decide +kernel)⟩
theorem lw_p94 : lw_okq (⟨"BeckChoiceModel", "whyNot", "(J)I"⟩, 35) := ⟨⟨by decide +kernel, by decide +kernel⟩, List.mem_of_getElem? (i := 1396) (by decide +kernel), List.mem_of_getElem? (i := 1780) (by decide +kernel), List.mem_of_getElem? (i := 1781) (by decide +kernel)⟩
theorem lw_p95 : lw_okq (⟨"BeckChoiceModel", "does", "(I)V"⟩, 35) := ⟨⟨by decide +kernel, by decide +kernel⟩, List.mem_of_getElem? (i := 1396) (by decide +kernel), List.mem_of_getElem? (i := 1793) (by decide +kernel), List.mem_of_getElem? (i := 1794) (by decide +kernel)⟩
def lw_privs_6 : List (MethodName × Nat) := [(⟨"BeckChoiceModel", "isRiver", "(J)Z"⟩, 35), (⟨"BeckChoiceModel", "becksIn", "(I)I"⟩, 35), (⟨"BeckChoiceModel", "flowOf", "(I)I"⟩, 35), (⟨"BeckChoiceModel", "leastOf", "(II)I"⟩, 35), (⟨"BeckChoiceModel", "takesMore", "(III)Z"⟩, 35), (⟨"BeckChoiceModel", "whyDeclare", "(JJ)I"⟩, 35), (⟨"BeckChoiceModel", "keeps", "()V"⟩, 35), (⟨"BeckChoiceModel", "declares", "(II)V"⟩, 35), (⟨"BeckChoiceModel", "pushes", "(I)I"⟩, 35), (⟨"BeckChoiceModel", "notes", "()V"⟩, 35), (⟨"BeckChoiceModel", "whyLeave", "(J)I"⟩, 35), (⟨"BeckChoiceModel", "whySend", "(JJJ)I"⟩, 35), (⟨"BeckChoiceModel", "noTray", "(I)I"⟩, 35), (⟨"BeckChoiceModel", "tells", "(I)I"⟩, 35), (⟨"BeckChoiceModel", "whyNot", "(J)I"⟩, 35), (⟨"BeckChoiceModel", "does", "(I)V"⟩, 35)]
theorem lw_r6 : ∀ q ∈ lw_privs_6, lw_okq q := List.forall_mem_cons.mpr ⟨lw_p80, List.forall_mem_cons.mpr ⟨lw_p81, List.forall_mem_cons.mpr ⟨lw_p82, List.forall_mem_cons.mpr ⟨lw_p83, List.forall_mem_cons.mpr ⟨lw_p84, List.forall_mem_cons.mpr ⟨lw_p85, List.forall_mem_cons.mpr ⟨lw_p86, List.forall_mem_cons.mpr ⟨lw_p87, List.forall_mem_cons.mpr ⟨lw_p88, List.forall_mem_cons.mpr ⟨lw_p89, List.forall_mem_cons.mpr ⟨lw_p90, List.forall_mem_cons.mpr ⟨lw_p91, List.forall_mem_cons.mpr ⟨lw_p92, List.forall_mem_cons.mpr ⟨lw_p93, List.forall_mem_cons.mpr ⟨lw_p94, List.forall_mem_cons.mpr ⟨lw_p95, fun _ h => absurd h List.not_mem_nil⟩⟩⟩⟩⟩⟩⟩⟩⟩⟩⟩⟩⟩⟩⟩⟩
theorem lw_p96 : lw_okq (⟨"BeckChoiceModel", "floodSet", "()I"⟩, 35) := ⟨⟨by decide +kernel, by decide +kernel⟩, List.mem_of_getElem? (i := 1396) (by decide +kernel), List.mem_of_getElem? (i := 1797) (by decide +kernel), List.mem_of_getElem? (i := 1798) (by decide +kernel)⟩
theorem lw_p97 : lw_okq (⟨"BeckChoiceModel", "isAgain", "()V"⟩, 35) := ⟨⟨by decide +kernel, by decide +kernel⟩, List.mem_of_getElem? (i := 1396) (by decide +kernel), List.mem_of_getElem? (i := 1801) (by decide +kernel), List.mem_of_getElem? (i := 1802) (by decide +kernel)⟩
theorem lw_p98 : lw_okq (⟨"BeckChoiceModel", "drawn", "()I"⟩, 35) := ⟨⟨by decide +kernel, by decide +kernel⟩, List.mem_of_getElem? (i := 1396) (by decide +kernel), List.mem_of_getElem? (i := 1814) (by decide +kernel), List.mem_of_getElem? (i := 1815) (by decide +kernel)⟩
theorem lw_p99 : lw_okq (⟨"BeckChoiceModel", "draw", "(I)I"⟩, 35) := ⟨⟨by decide +kernel, by decide +kernel⟩, List.mem_of_getElem? (i := 1396) (by decide +kernel), List.mem_of_getElem? (i := 1818) (by decide +kernel), List.mem_of_getElem? (i := 1819) (by decide +kernel)⟩
theorem lw_p100 : lw_okq (⟨"BeckChoiceModel", "laysNow", "()V"⟩, 35) := ⟨⟨by decide +kernel, by decide +kernel⟩, List.mem_of_getElem? (i := 1396) (by decide +kernel), List.mem_of_getElem? (i := 1827) (by decide +kernel), List.mem_of_getElem? (i := 1828) (by decide +kernel)⟩
theorem lw_p101 : lw_okq (⟨"BeckChoiceModel", "isHeld", "()Z"⟩, 35) := ⟨⟨by decide +kernel, by decide +kernel⟩, List.mem_of_getElem? (i := 1396) (by decide +kernel), List.mem_of_getElem? (i := 1831) (by decide +kernel), List.mem_of_getElem? (i := 1832) (by decide +kernel)⟩
theorem lw_p102 : lw_okq (⟨"BeckChoiceModel", "isWanted", "()Z"⟩, 35) := ⟨⟨by decide +kernel, by decide +kernel⟩, List.mem_of_getElem? (i := 1396) (by decide +kernel), List.mem_of_getElem? (i := 1835) (by decide +kernel), List.mem_of_getElem? (i := 1836) (by decide +kernel)⟩
theorem lw_p103 : lw_okq (⟨"BeckChoiceModel", "breaksIt", "(II)Z"⟩, 35) := ⟨⟨by decide +kernel, by decide +kernel⟩, List.mem_of_getElem? (i := 1396) (by decide +kernel), List.mem_of_getElem? (i := 1839) (by decide +kernel), List.mem_of_getElem? (i := 1840) (by decide +kernel)⟩
theorem lw_p104 : lw_okq (⟨"BeckChoiceModel", "likesMore", "(III)Z"⟩, 35) := ⟨⟨by decide +kernel, by decide +kernel⟩, List.mem_of_getElem? (i := 1396) (by decide +kernel), List.mem_of_getElem? (i := 1843) (by decide +kernel), List.mem_of_getElem? (i := 1844) (by decide +kernel)⟩
theorem lw_p105 : lw_okq (⟨"BeckChoiceModel", "becksBy", "(I)I"⟩, 35) := ⟨⟨by decide +kernel, by decide +kernel⟩, List.mem_of_getElem? (i := 1396) (by decide +kernel), List.mem_of_getElem? (i := 1847) (by decide +kernel), List.mem_of_getElem? (i := 1848) (by decide +kernel)⟩
theorem lw_p106 : lw_okq (⟨"BeckChoiceModel", "laysHeld", "()V"⟩, 35) := ⟨⟨by decide +kernel, by decide +kernel⟩, List.mem_of_getElem? (i := 1396) (by decide +kernel), List.mem_of_getElem? (i := 1863) (by decide +kernel), List.mem_of_getElem? (i := 1864) (by decide +kernel)⟩
theorem lw_p107 : lw_okq (⟨"BeckChoiceModel", "choicesIn", "()I"⟩, 35) := ⟨⟨by decide +kernel, by decide +kernel⟩, List.mem_of_getElem? (i := 1396) (by decide +kernel), List.mem_of_getElem? (i := 1867) (by decide +kernel), List.mem_of_getElem? (i := 1868) (by decide +kernel)⟩
theorem lw_p108 : lw_okq (⟨"BeckChoiceModel", "laysChoice", "(I)Z"⟩, 35) := ⟨⟨by decide +kernel, by decide +kernel⟩, List.mem_of_getElem? (i := 1396) (by decide +kernel), List.mem_of_getElem? (i := 1871) (by decide +kernel), List.mem_of_getElem? (i := 1872) (by decide +kernel)⟩
theorem lw_p109 : lw_okq (⟨"BeckChoiceModel", "fitsRooms", "()Z"⟩, 35) := ⟨⟨by decide +kernel, by decide +kernel⟩, List.mem_of_getElem? (i := 1396) (by decide +kernel), List.mem_of_getElem? (i := 1875) (by decide +kernel), List.mem_of_getElem? (i := 1876) (by decide +kernel)⟩
theorem lw_p110 : lw_okq (⟨"BeckChoiceModel", "ofHeld", "(IZ)I"⟩, 35) := ⟨⟨by decide +kernel, by decide +kernel⟩, List.mem_of_getElem? (i := 1396) (by decide +kernel), List.mem_of_getElem? (i := 1879) (by decide +kernel), List.mem_of_getElem? (i := 1880) (by decide +kernel)⟩
theorem lw_p111 : lw_okq (⟨"BeckChoiceModel", "rankOf", "(II)I"⟩, 35) := ⟨⟨by decide +kernel, by decide +kernel⟩, List.mem_of_getElem? (i := 1396) (by decide +kernel), List.mem_of_getElem? (i := 1911) (by decide +kernel), List.mem_of_getElem? (i := 1912) (by decide +kernel)⟩
def lw_privs_7 : List (MethodName × Nat) := [(⟨"BeckChoiceModel", "floodSet", "()I"⟩, 35), (⟨"BeckChoiceModel", "isAgain", "()V"⟩, 35), (⟨"BeckChoiceModel", "drawn", "()I"⟩, 35), (⟨"BeckChoiceModel", "draw", "(I)I"⟩, 35), (⟨"BeckChoiceModel", "laysNow", "()V"⟩, 35), (⟨"BeckChoiceModel", "isHeld", "()Z"⟩, 35), (⟨"BeckChoiceModel", "isWanted", "()Z"⟩, 35), (⟨"BeckChoiceModel", "breaksIt", "(II)Z"⟩, 35), (⟨"BeckChoiceModel", "likesMore", "(III)Z"⟩, 35), (⟨"BeckChoiceModel", "becksBy", "(I)I"⟩, 35), (⟨"BeckChoiceModel", "laysHeld", "()V"⟩, 35), (⟨"BeckChoiceModel", "choicesIn", "()I"⟩, 35), (⟨"BeckChoiceModel", "laysChoice", "(I)Z"⟩, 35), (⟨"BeckChoiceModel", "fitsRooms", "()Z"⟩, 35), (⟨"BeckChoiceModel", "ofHeld", "(IZ)I"⟩, 35), (⟨"BeckChoiceModel", "rankOf", "(II)I"⟩, 35)]
theorem lw_r7 : ∀ q ∈ lw_privs_7, lw_okq q := List.forall_mem_cons.mpr ⟨lw_p96, List.forall_mem_cons.mpr ⟨lw_p97, List.forall_mem_cons.mpr ⟨lw_p98, List.forall_mem_cons.mpr ⟨lw_p99, List.forall_mem_cons.mpr ⟨lw_p100, List.forall_mem_cons.mpr ⟨lw_p101, List.forall_mem_cons.mpr ⟨lw_p102, List.forall_mem_cons.mpr ⟨lw_p103, List.forall_mem_cons.mpr ⟨lw_p104, List.forall_mem_cons.mpr ⟨lw_p105, List.forall_mem_cons.mpr ⟨lw_p106, List.forall_mem_cons.mpr ⟨lw_p107, List.forall_mem_cons.mpr ⟨lw_p108, List.forall_mem_cons.mpr ⟨lw_p109, List.forall_mem_cons.mpr ⟨lw_p110, List.forall_mem_cons.mpr ⟨lw_p111, fun _ h => absurd h List.not_mem_nil⟩⟩⟩⟩⟩⟩⟩⟩⟩⟩⟩⟩⟩⟩⟩⟩
theorem lw_p112 : lw_okq (⟨"BeckChoiceModel", "laysGains", "(I)V"⟩, 35) := ⟨⟨by decide +kernel, by decide +kernel⟩, List.mem_of_getElem? (i := 1396) (by decide +kernel), List.mem_of_getElem? (i := 1923) (by decide +kernel), List.mem_of_getElem? (i := 1924) (by decide +kernel)⟩
theorem lw_p113 : lw_okq (⟨"BeckChoiceModel", "laysByRivers", "()V"⟩, 35) := ⟨⟨by decide +kernel, by decide +kernel⟩, List.mem_of_getElem? (i := 1396) (by decide +kernel), List.mem_of_getElem? (i := 1927) (by decide +kernel), List.mem_of_getElem? (i := 1928) (by decide +kernel)⟩
theorem lw_p114 : lw_okq (⟨"BeckChoiceModel", "begins", "()V"⟩, 35) := ⟨⟨by decide +kernel, by decide +kernel⟩, List.mem_of_getElem? (i := 1396) (by decide +kernel), List.mem_of_getElem? (i := 1931) (by decide +kernel), List.mem_of_getElem? (i := 1932) (by decide +kernel)⟩
theorem lw_p115 : lw_okq (⟨"BeckChoiceModel", "asks1", "(I)I"⟩, 35) := ⟨⟨by decide +kernel, by decide +kernel⟩, List.mem_of_getElem? (i := 1396) (by decide +kernel), List.mem_of_getElem? (i := 1935) (by decide +kernel), List.mem_of_getElem? (i := 1936) (by decide +kernel)⟩
theorem lw_p116 : lw_okq (⟨"BeckChoiceModel", "wouldTold", "(II)Z"⟩, 35) := ⟨⟨by decide +kernel, by decide +kernel⟩, List.mem_of_getElem? (i := 1396) (by decide +kernel), List.mem_of_getElem? (i := 1939) (by decide +kernel), List.mem_of_getElem? (i := 1940) (by decide +kernel)⟩
theorem lw_p117 : lw_okq (⟨"BeckChoiceModel", "likesTold", "(III)Z"⟩, 35) := ⟨⟨by decide +kernel, by decide +kernel⟩, List.mem_of_getElem? (i := 1396) (by decide +kernel), List.mem_of_getElem? (i := 1943) (by decide +kernel), List.mem_of_getElem? (i := 1944) (by decide +kernel)⟩
theorem lw_p118 : lw_okq (⟨"BeckChoiceModel", "laysLie", "(I)Z"⟩, 35) := ⟨⟨by decide +kernel, by decide +kernel⟩, List.mem_of_getElem? (i := 1396) (by decide +kernel), List.mem_of_getElem? (i := 1947) (by decide +kernel), List.mem_of_getElem? (i := 1948) (by decide +kernel)⟩
theorem lw_p119 : lw_okq (⟨"BeckChoiceModel", "goesGifts", "(IIII)Z"⟩, 35) := ⟨⟨by decide +kernel, by decide +kernel⟩, List.mem_of_getElem? (i := 1396) (by decide +kernel), List.mem_of_getElem? (i := 1963) (by decide +kernel), List.mem_of_getElem? (i := 1964) (by decide +kernel)⟩
theorem lw_p120 : lw_okq (⟨"BeckChoiceModel", "laysByBecks", "(I)V"⟩, 35) := ⟨⟨by decide +kernel, by decide +kernel⟩, List.mem_of_getElem? (i := 1396) (by decide +kernel), List.mem_of_getElem? (i := 1967) (by decide +kernel), List.mem_of_getElem? (i := 1968) (by decide +kernel)⟩
theorem lw_p121 : lw_okq (⟨"BeckChoiceModel", "asksRiver", "(I)I"⟩, 35) := ⟨⟨by decide +kernel, by decide +kernel⟩, List.mem_of_getElem? (i := 1396) (by decide +kernel), List.mem_of_getElem? (i := 1971) (by decide +kernel), List.mem_of_getElem? (i := 1972) (by decide +kernel)⟩
theorem lw_p122 : lw_okq (⟨"BeckChoiceModel", "noAnswers", "(II)I"⟩, 35) := ⟨⟨by decide +kernel, by decide +kernel⟩, List.mem_of_getElem? (i := 1396) (by decide +kernel), List.mem_of_getElem? (i := 1991) (by decide +kernel), List.mem_of_getElem? (i := 1992) (by decide +kernel)⟩
theorem lw_p123 : lw_okq (⟨"BeckChoiceModel", "marksOf", "(II)I"⟩, 35) := ⟨⟨by decide +kernel, by decide +kernel⟩, List.mem_of_getElem? (i := 1396) (by decide +kernel), List.mem_of_getElem? (i := 1996) (by decide +kernel), List.mem_of_getElem? (i := 1997) (by decide +kernel)⟩
theorem lw_p124 : lw_okq (⟨"BeckChoiceModel", "likelyDry", "(I)I"⟩, 35) := ⟨⟨by decide +kernel, by decide +kernel⟩, List.mem_of_getElem? (i := 1396) (by decide +kernel), List.mem_of_getElem? (i := 2011) (by decide +kernel), List.mem_of_getElem? (i := 2012) (by decide +kernel)⟩
theorem lw_p125 : lw_okq (⟨"BeckChoiceModel", "part", "(II)I"⟩, 35) := ⟨⟨by decide +kernel, by decide +kernel⟩, List.mem_of_getElem? (i := 1396) (by decide +kernel), List.mem_of_getElem? (i := 2015) (by decide +kernel), List.mem_of_getElem? (i := 2016) (by decide +kernel)⟩
theorem lw_p126 : lw_okq (⟨"BeckChoiceModel", "wholeOf", "()I"⟩, 35) := ⟨⟨by decide +kernel, by decide +kernel⟩, List.mem_of_getElem? (i := 1396) (by decide +kernel), List.mem_of_getElem? (i := 2019) (by decide +kernel), List.mem_of_getElem? (i := 2020) (by decide +kernel)⟩
theorem lw_p127 : lw_okq (⟨"BeckChoiceModel", "sumOf", "(II)I"⟩, 35) := ⟨⟨by decide +kernel, by decide +kernel⟩, List.mem_of_getElem? (i := 1396) (by decide +kernel), List.mem_of_getElem? (i := 2058) (by decide +kernel), List.mem_of_getElem? (i := 2059) (by decide +kernel)⟩
def lw_privs_8 : List (MethodName × Nat) := [(⟨"BeckChoiceModel", "laysGains", "(I)V"⟩, 35), (⟨"BeckChoiceModel", "laysByRivers", "()V"⟩, 35), (⟨"BeckChoiceModel", "begins", "()V"⟩, 35), (⟨"BeckChoiceModel", "asks1", "(I)I"⟩, 35), (⟨"BeckChoiceModel", "wouldTold", "(II)Z"⟩, 35), (⟨"BeckChoiceModel", "likesTold", "(III)Z"⟩, 35), (⟨"BeckChoiceModel", "laysLie", "(I)Z"⟩, 35), (⟨"BeckChoiceModel", "goesGifts", "(IIII)Z"⟩, 35), (⟨"BeckChoiceModel", "laysByBecks", "(I)V"⟩, 35), (⟨"BeckChoiceModel", "asksRiver", "(I)I"⟩, 35), (⟨"BeckChoiceModel", "noAnswers", "(II)I"⟩, 35), (⟨"BeckChoiceModel", "marksOf", "(II)I"⟩, 35), (⟨"BeckChoiceModel", "likelyDry", "(I)I"⟩, 35), (⟨"BeckChoiceModel", "part", "(II)I"⟩, 35), (⟨"BeckChoiceModel", "wholeOf", "()I"⟩, 35), (⟨"BeckChoiceModel", "sumOf", "(II)I"⟩, 35)]
theorem lw_r8 : ∀ q ∈ lw_privs_8, lw_okq q := List.forall_mem_cons.mpr ⟨lw_p112, List.forall_mem_cons.mpr ⟨lw_p113, List.forall_mem_cons.mpr ⟨lw_p114, List.forall_mem_cons.mpr ⟨lw_p115, List.forall_mem_cons.mpr ⟨lw_p116, List.forall_mem_cons.mpr ⟨lw_p117, List.forall_mem_cons.mpr ⟨lw_p118, List.forall_mem_cons.mpr ⟨lw_p119, List.forall_mem_cons.mpr ⟨lw_p120, List.forall_mem_cons.mpr ⟨lw_p121, List.forall_mem_cons.mpr ⟨lw_p122, List.forall_mem_cons.mpr ⟨lw_p123, List.forall_mem_cons.mpr ⟨lw_p124, List.forall_mem_cons.mpr ⟨lw_p125, List.forall_mem_cons.mpr ⟨lw_p126, List.forall_mem_cons.mpr ⟨lw_p127, fun _ h => absurd h List.not_mem_nil⟩⟩⟩⟩⟩⟩⟩⟩⟩⟩⟩⟩⟩⟩⟩⟩
def lw_privs : List (MethodName × Nat) := lw_privs_1 ++ (lw_privs_2 ++ (lw_privs_3 ++ (lw_privs_4 ++ (lw_privs_5 ++ (lw_privs_6 ++ (lw_privs_7 ++ (lw_privs_8)))))))
def lw_tbl : List Cond := k2_sels lw_privs ++ tables_1
theorem lw_privs_ok : ∀ q ∈ lw_privs, lw_okq q := by
  show ∀ q ∈ lw_privs_1 ++ (lw_privs_2 ++ (lw_privs_3 ++ (lw_privs_4 ++ (lw_privs_5 ++ (lw_privs_6 ++ (lw_privs_7 ++ (lw_privs_8))))))), lw_okq q
  exact List.forall_mem_append.mpr ⟨lw_r1, List.forall_mem_append.mpr ⟨lw_r2, List.forall_mem_append.mpr ⟨lw_r3, List.forall_mem_append.mpr ⟨lw_r4, List.forall_mem_append.mpr ⟨lw_r5, List.forall_mem_append.mpr ⟨lw_r6, List.forall_mem_append.mpr ⟨lw_r7, lw_r8⟩⟩⟩⟩⟩⟩⟩
-- ===== end of PART A; then your names; then what follows =====
/-! ===== BEGIN words of one list among another's, by their places ===== -/
theorem goodIn_r {big : List Cond} (ws : List Cond) (ps : List Nat) (hp : ws = ps.filterMap (fun i => big[i]?)) (h : ws.all goodWord = true) : GoodIn big ws := by
  intro w hw
  have h1 := List.all_eq_true.mp h w hw
  rw [hp] at hw
  obtain ⟨i, -, hi⟩ := List.mem_filterMap.mp hw
  have hm : w ∈ big := by first | exact List.mem_of_getElem? hi | exact List.getElem?_mem hi
  exact ⟨hm, good_of_word h1⟩
theorem goodIn_app {big a b : List Cond} (ha : GoodIn big a) (hb : GoodIn big b) : GoodIn big (a ++ b) := fun w h => (List.mem_append.mp h).elim (ha w) (hb w)
theorem goodIn_ca {big a b : List Cond} {c : Cond} (ha : GoodIn big (c :: a)) (hb : GoodIn big b) : GoodIn big (c :: (a ++ b)) := fun w h => (List.mem_cons.mp h).elim (fun e => ha w (List.mem_cons.mpr (Or.inl e))) (fun h => (List.mem_append.mp h).elim (fun h => ha w (List.mem_cons.mpr (Or.inr h))) (hb w))
theorem goodIn_sub {big ws : List Cond} (hm : ∀ w ∈ ws, w ∈ big) (h : ws.all goodWord = true) : GoodIn big ws := fun w hw => ⟨hm w hw, good_of_word (List.all_eq_true.mp h w hw)⟩
/-! ===== END ===== -/

/-! ===== BEGIN new T[n][m]: the outer array a place, the inner ones among the pooled ===== -/
/-- f, but v at every address of l -/
def vr_up {α : Type} (f : Nat → α) (l : List Nat) (v : α) : Nat → α := fun a => if a ∈ l then v else f a
theorem vr_up_in {α : Type} {f : Nat → α} {l : List Nat} {v : α} {a : Nat} (h : a ∈ l) : vr_up f l v a = v := if_pos h
theorem vr_up_ne {α : Type} {f : Nat → α} {l : List Nat} {v : α} {a : Nat} (h : a ∉ l) : vr_up f l v a = f a := if_neg h
theorem vr_rows {L l : List Nat} {f : Nat → va_E} {e : va_E} (h : ∀ a, a ∈ l → a ∉ L) : va_pl L f ++ l.map (fun a => (a, e)) = va_pl (L ++ l) (vr_up f l e) := by
  unfold va_pl
  rw [List.map_append]
  congr 1
  · apply List.map_congr_left
    intro a ha
    rw [vr_up_ne (fun q => h a q ha)]
  · apply List.map_congr_left
    intro a ha
    rw [vr_up_in ha]
theorem vr_lay {X rows : va_W} {x : Nat × va_E} {pl : va_W} {D : va_G} {cl : List vw_C} {H : Heap} (hP : va_P D cl (((X ++ pl) ++ [x]) ++ rows) H) : va_P D cl ((X ++ [x]) ++ (pl ++ rows)) H := by
  rw [List.append_assoc (X ++ pl)] at hP
  have h := va_P.swap hP
  rw [← List.append_assoc X] at h
  have h2 := va_P.swap h
  rw [List.append_assoc (X ++ [x])] at h2
  exact h2
theorem vr_layD {X rows : va_W} {x : Nat × va_E} {pl : va_W} {A : Nat → Prop} (hD : va_D A (((X ++ pl) ++ [x]) ++ rows)) : va_D A ((X ++ [x]) ++ (pl ++ rows)) := by
  rw [List.append_assoc (X ++ pl)] at hD
  have h := va_D.swap hD
  rw [← List.append_assoc X] at h
  have h2 := va_D.swap h
  rw [List.append_assoc (X ++ [x])] at h2
  exact h2
theorem vr_outer (c : ClassId) (N h0 : Nat) : ∀ i : Nat, Jvm.Free.Multi.outerC c N h0 i = arrV c N (fun j => va_rf (if j < i then some (h0 + 1 + j) else none))
  | 0 => by
    show ({ cls := c, slots := Array.replicate N .null, vm := .none } : Cell) = _
    rw [arrV_new]
    refine congrArg (arrV c N) (funext fun j => ?_)
    simp [va_rf]
  | i + 1 => by
    show (Jvm.Free.Multi.outerC c N h0 i).setSlot i (.ref (h0 + 1 + i)) = _
    rw [vr_outer c N h0 i, arrV_store]
    refine congrArg (arrV c N) (funext fun j => ?_)
    by_cases e : j = i
    · subst e
      simp [updV, va_rf]
    · by_cases h : j < i
      · simp [updV, e, h, Nat.lt_succ_of_lt h]
      · simp [updV, e, h, show ¬ j < i + 1 by omega]
def va_AOA (ty : FieldType) (U : State) : Prop := (Cond.arrayOver (.array ty)).before #[] U = true
theorem va_AOA.use {ty : FieldType} {A : Array Value} {U : State} (h : va_AOA ty U) : (Cond.arrayOver (.array ty)).before A U = true := h
section VGM
variable {p : Program} {l : Launch} {e : Env} {R : Room} {s : State} {m : MethodId} {args : Array Value} {below : List Frame} {meth : Method} {c : Code} {H : Heap} {locs : List Loc} {cells slots : Nat} {Q : State → Prop}
variable {cc : ByteArray} {pc : Nat} {ls : Array Slot} {rest : List Value} {D : va_G} {cl : List vw_C} {A : Nat → Prop} {a : Nat} {tys : List (ClassId × FieldType)} {ws : va_W} {H0 : Heap}
theorem va_mna {X : va_W} {L : List Nat} {f : Nat → va_E} {cc : ByteArray} (hexec : p.tables.exec = Jvm.exec) (hb : c.code = cc) {own : String} {index : Nat} {ty : FieldType} {cy : ClassId} (hown : s.vm.findClass own = some m.cls) (hclink : (Cond.classLink own index ("[" ++ (FieldType.array ty).toString)).before args s = true) (hover : va_AOA ty s) (harr : (Cond.arrayClass ty).before args s = true) (hcy : s.vm.findClass (FieldType.array ty).toString = some cy)
    (hK : va_K D cl tys s) (hP : va_P D cl (X ++ va_pl L f) H) (hD : va_D A (X ++ va_pl L f)) (hS : va_S A H0 H locs) (hA : ∀ q, H0.size ≤ q → A q) {n k : Int32} {N' K' : Nat} {z : vp_A} (hn : ¬ n < 0) (hk : ¬ k < 0) (hN : n.toNatClampNeg = N') (hM : k.toNatClampNeg = K')
    (hb1 : N' * 4 ≤ 536870912) (hb2 : K' * componentBytes ty ≤ 536870912) (hb3 : K' ≤ 536870912) (hdf : fits ty (defaultValue ty) = true) (hdd : (defaultValue ty).isDefault = true) (hcells : cells + (1 + N') ≤ R.cells) (hslots : slots + (N' + N' * K') ≤ R.slots) (hz : ∀ c : ClassId, Jvm.Free.Multi.innerC c K' (defaultValue ty) = vp_cell c z) (hdg : decode cc pc = .ok (.multianewarray index 2, 4))
    (kk : ∀ (q : Nat) (r : Nat → Nat) (cA : ClassId) (H1 : Heap), (∀ i j : Nat, i < N' → j < N' → r i = r j → i = j) → (∀ i : Nat, i < N' → r i ∉ L) → va_K D cl (tys ++ [(cA, .array ty)]) s →
      va_P D cl ((X ++ [(q, .inl (cA, N', .inr (.inr (.inr (.inr (fun i => if i < N' then some (r i) else none))))))]) ++ va_pl (L ++ (List.range N').map r) (vr_up f ((List.range N').map r) (.inl (cy, z)))) H1 → va_D A ((X ++ [(q, .inl (cA, N', .inr (.inr (.inr (.inr (fun i => if i < N' then some (r i) else none))))))]) ++ va_pl (L ++ (List.range N').map r) (vr_up f ((List.range N').map r) (.inl (cy, z)))) → va_S A H0 H1 locs →
      W p l e R s m args below meth c H1 locs (cells + 1 + N') (slots + N' + N' * K') Q (F0 m (pc + 4) ls (.ref q :: rest))) : W p l e R s m args below meth c H locs cells slots Q (F0 m pc ls (.int k :: .int n :: rest)) := by
  subst hN
  subst hM
  intro T hT Xs
  obtain ⟨vm₁, cA, comp, -, fA, fC, hO, -, X', step⟩ := Xs.multianewarray2F hexec hown hclink (va_AOA.use hover) harr (g := F0 m pc ls (.int k :: .int n :: rest)) rfl (by rw [hb]; exact hdg) rfl hn hk hb1 hb2 hb3 hdf hdd hcells hslots
  have ec : some cy = some comp := hcy.symm.trans fC
  cases ec
  generalize hF : Jvm.Free.Multi.fill (T.setVm vm₁) cA cy n.toNatClampNeg k.toNatClampNeg (defaultValue ty) n.toNatClampNeg = F at X' step
  have hTh : (T.setVm vm₁).heap = H := hT
  obtain ⟨f1, f2, -, -⟩ := Jvm.Free.Multi.fill_facts (T.setVm vm₁) cA cy n.toNatClampNeg k.toNatClampNeg (defaultValue ty) n.toNatClampNeg
  rw [hF, hTh] at f1 f2
  have hold : ∀ x : Nat, x < H.size → F.heap[x]? = H[x]? := fun x hx => by
    have := Jvm.Free.Multi.fill_old (T.setVm vm₁) cA cy n.toNatClampNeg k.toNatClampNeg (defaultValue ty) (a := x) (by rw [hTh]; exact hx) n.toNatClampNeg
    rw [hF, hTh] at this
    exact this
  have hrow : ∀ j : Nat, j < n.toNatClampNeg → F.heap[H.size + 1 + j]? = some (vp_cell cy z) := fun j hj => by
    have := Jvm.Free.Multi.fill_inner (T.setVm vm₁) cA cy n.toNatClampNeg k.toNatClampNeg (defaultValue ty) n.toNatClampNeg j hj
    rw [hF, hTh, hz] at this
    exact this
  have hout : Jvm.Free.Multi.outerC cA n.toNatClampNeg H.size n.toNatClampNeg = vp_cell cA (n.toNatClampNeg, .inr (.inr (.inr (.inr (fun i => if i < n.toNatClampNeg then some (H.size + 1 + i) else none))))) := by
    rw [vp_cell_q]
    exact vr_outer cA n.toNatClampNeg H.size n.toNatClampNeg
  rw [hout] at f2
  have hlt : ∀ a, a ∈ L → a < H.size := fun a ha => by
    obtain ⟨k9, hk9⟩ := va_pl_get (X := X) (f := f) ha
    exact (hP k9 _ hk9).lt
  have hnl : ∀ i : Nat, i < n.toNatClampNeg → H.size + 1 + i ∉ L := fun i _ h => by
    have := hlt _ h
    omega
  have hnm : ∀ a, a ∈ (List.range n.toNatClampNeg).map (fun i => H.size + 1 + i) → a ∉ L := fun a ha h => by
    obtain ⟨i, -, rfl⟩ := List.mem_map.mp ha
    have := hlt _ h
    omega
  have hP0 : va_P D cl (X ++ va_pl L f) F.heap := hP.kept (fun k9 x hx => hold x.1 ((hP k9 x hx).lt))
  have hP1 : va_P D cl ((X ++ va_pl L f) ++ [(H.size, .inl (cA, n.toNatClampNeg, .inr (.inr (.inr (.inr (fun i => if i < n.toNatClampNeg then some (H.size + 1 + i) else none))))))]) F.heap := hP0.app (fun k9 x hx => by
    have h0 : k9 < 1 := (List.getElem?_eq_some_iff.mp hx).1
    rw [show k9 = 0 by omega] at hx
    cases hx
    exact f2)
  have hP2 : va_P D cl (((X ++ va_pl L f) ++ [(H.size, .inl (cA, n.toNatClampNeg, .inr (.inr (.inr (.inr (fun i => if i < n.toNatClampNeg then some (H.size + 1 + i) else none))))))]) ++ ((List.range n.toNatClampNeg).map (fun i => H.size + 1 + i)).map (fun a => (a, .inl (cy, z)))) F.heap := hP1.app (fun k9 x hx => by
    obtain ⟨a, ha, rfl⟩ := List.mem_map.mp (List.mem_of_getElem? hx)
    obtain ⟨i, hi, rfl⟩ := List.mem_map.mp ha
    exact hrow i (List.mem_range.mp hi))
  have hD2 : va_D A (((X ++ va_pl L f) ++ [(H.size, .inl (cA, n.toNatClampNeg, .inr (.inr (.inr (.inr (fun i => if i < n.toNatClampNeg then some (H.size + 1 + i) else none))))))]) ++ ((List.range n.toNatClampNeg).map (fun i => H.size + 1 + i)).map (fun a => (a, .inl (cy, z)))) := by
    have hD1 := hD.push (e := .inl (cA, n.toNatClampNeg, .inr (.inr (.inr (.inr (fun i => if i < n.toNatClampNeg then some (H.size + 1 + i) else none)))))) hP rfl (hA _ hS.1)
    generalize hW1 : (X ++ va_pl L f) ++ [(H.size, .inl (cA, n.toNatClampNeg, .inr (.inr (.inr (.inr (fun i => if i < n.toNatClampNeg then some (H.size + 1 + i) else none))))))] = W1 at hD1 hP1 ⊢
    have hle : ∀ (k9 : Nat) (x : Nat × va_E), W1[k9]? = some x → x.1 ≤ H.size := fun k9 x hx => by
      rw [← hW1] at hx
      by_cases hl : k9 < (X ++ va_pl L f).length
      · rw [List.getElem?_append_left hl] at hx
        exact Nat.le_of_lt ((hP k9 x hx).lt)
      · rw [List.getElem?_append_right (by omega)] at hx
        have h0 : k9 - (X ++ va_pl L f).length < 1 := (List.getElem?_eq_some_iff.mp hx).1
        rw [show k9 - (X ++ va_pl L f).length = 0 by omega] at hx
        cases hx
        exact Nat.le_refl _
    have hr : ∀ (k9 : Nat) (x : Nat × va_E), (((List.range n.toNatClampNeg).map (fun i => H.size + 1 + i)).map (fun a => ((a, .inl (cy, z)) : Nat × va_E)))[k9]? = some x → x.1 = H.size + 1 + k9 := fun k9 x hx => by
      rw [List.getElem?_map, List.getElem?_map] at hx
      by_cases h9 : k9 < n.toNatClampNeg
      · rw [List.getElem?_range h9] at hx
        cases hx
        rfl
      · have hn0 : (List.range n.toNatClampNeg)[k9]? = none := List.getElem?_eq_none (by rw [List.length_range]; omega)
        rw [hn0] at hx
        cases hx
    refine ⟨fun i j x y hi hj hxy => ?_, fun k9 x hx => ?_⟩
    · by_cases h1 : i < W1.length <;> by_cases h2 : j < W1.length
      · rw [List.getElem?_append_left h1] at hi
        rw [List.getElem?_append_left h2] at hj
        exact hD1.1 i j x y hi hj hxy
      · rw [List.getElem?_append_left h1] at hi
        rw [List.getElem?_append_right (by omega)] at hj
        have := hle _ _ hi
        have := hr _ _ hj
        omega
      · rw [List.getElem?_append_right (by omega)] at hi
        rw [List.getElem?_append_left h2] at hj
        have := hle _ _ hj
        have := hr _ _ hi
        omega
      · rw [List.getElem?_append_right (by omega)] at hi hj
        have := hr _ _ hi
        have := hr _ _ hj
        omega
    · by_cases h1 : k9 < W1.length
      · rw [List.getElem?_append_left h1] at hx
        exact hD1.2 k9 x hx
      · rw [List.getElem?_append_right (by omega)] at hx
        have := hr _ _ hx
        exact hA _ (by have := hS.1; omega)
  have hAr : ArrOfT s cA (.array ty) := fun N9 z9 => by
    obtain ⟨-, k9, hk9, cm9, hkk9⟩ := (hO 0 0 0).1
    exact ⟨(fun q hq => by cases hq), k9, hk9, cm9, hkk9⟩
  have hK2 : va_K D cl (tys ++ [(cA, .array ty)]) s := ⟨hK.1, fun k9 x hx => by
    by_cases hl : k9 < tys.length
    · rw [List.getElem?_append_left hl] at hx
      exact hK.2 k9 x hx
    · rw [List.getElem?_append_right (by omega)] at hx
      have h0 : k9 - tys.length < 1 := (List.getElem?_eq_some_iff.mp hx).1
      rw [show k9 - tys.length = 0 by omega] at hx
      cases hx
      exact ⟨hAr, fA⟩⟩
  obtain ⟨t, a1, b1⟩ := kk H.size (fun i => H.size + 1 + i) cA F.heap (fun i j _ _ h => by have h9 : H.size + 1 + i = H.size + 1 + j := h; omega) hnl hK2 (by rw [← vr_rows hnm]; exact vr_lay hP2) (by rw [← vr_rows hnm]; exact vr_layD hD2) ⟨by rw [f1]; have := hS.1; omega, fun x h1 h2 => (hold x (Nat.lt_of_lt_of_le h1 hS.1)).trans (hS.2.1 x h1 h2), hS.2.2⟩ F rfl X'
  refine ⟨t, step t ?_, b1⟩
  have e : T.heap.size = H.size := by rw [hT]
  rw [e]
  exact a1
end VGM
/-! ===== END ===== -/

def RX0 : String := "BeckChoice$Land"
def TX0 : u_T := fun k => match k with
  | 0 => ("BeckChoice$Land", "becks", "I", false)
  | 1 => ("BeckChoice$Land", "rivers", "I", false)
  | 2 => ("BeckChoice$Land", "lines", "I", false)
  | 3 => ("BeckChoice$Land", "flow", "[I", true)
  | 4 => ("BeckChoice$Land", "mark", "[I", true)
  | 5 => ("BeckChoice$Land", "dry", "[I", true)
  | 6 => ("BeckChoice$Land", "to", "[I", true)
  | 7 => ("BeckChoice$Land", "room", "[I", true)
  | 8 => ("BeckChoice$Land", "name", "[I", true)
  | 9 => ("BeckChoice$Land", "bears", "[I", true)
  | 10 => ("BeckChoice$Land", "code", "[I", true)
  | 11 => ("BeckChoice$Land", "coded", "I", false)
  | 12 => ("BeckChoice$Land", "likesAt", "I", false)
  | _ => ("BeckChoice$Land", "takesAt", "I", false)
def tyX0 : Nat → FieldType := fun k => match k with
  | 0 => .int
  | 1 => .int
  | 2 => .int
  | 3 => .array .int
  | 4 => .array .int
  | 5 => .array .int
  | 6 => .array .int
  | 7 => .array .int
  | 8 => .array .int
  | 9 => .array .int
  | 10 => .array .int
  | 11 => .int
  | 12 => .int
  | _ => .int
abbrev wsX00 : List Cond := u_ws RX0 TX0 14
theorem nmX0 : ∀ a, a < 14 → ∀ b, b < 14 → a ≠ b → (TX0 a).2.1 ≠ (TX0 b).2.1 := by decide +kernel
theorem tyX0_ok : ∀ k, k < 14 → parseFieldDescriptor (TX0 k).2.2.1 = some (tyX0 k) := by decide +kernel
abbrev cX0_init : ByteArray := prog_2_method_1_code
def yX0_init : MethodName := ⟨RX0, "<init>", "()V"⟩
abbrev cX0_clear : ByteArray := prog_2_method_2_code
def yX0_clear : MethodName := ⟨RX0, "clear", "()V"⟩
abbrev cX0_copyFrom : ByteArray := prog_2_method_3_code
def yX0_copyFrom : MethodName := ⟨RX0, "copyFrom", "(LBeckChoice$Land;)V"⟩
abbrev cX0_hasBeck : ByteArray := prog_2_method_4_code
def yX0_hasBeck : MethodName := ⟨RX0, "hasBeck", "(I)Z"⟩
abbrev cX0_hasRiver : ByteArray := prog_2_method_5_code
def yX0_hasRiver : MethodName := ⟨RX0, "hasRiver", "(I)Z"⟩
abbrev cX0_allBecks : ByteArray := prog_2_method_6_code
def yX0_allBecks : MethodName := ⟨RX0, "allBecks", "()I"⟩
abbrev cX0_addBeck : ByteArray := prog_2_method_7_code
def yX0_addBeck : MethodName := ⟨RX0, "addBeck", "()I"⟩
abbrev cX0_addRiver : ByteArray := prog_2_method_8_code
def yX0_addRiver : MethodName := ⟨RX0, "addRiver", "()I"⟩
abbrev cX0_hasRoomFor : ByteArray := prog_2_method_9_code
def yX0_hasRoomFor : MethodName := ⟨RX0, "hasRoomFor", "(I)Z"⟩
abbrev cX0_addCode : ByteArray := prog_2_method_10_code
def yX0_addCode : MethodName := ⟨RX0, "addCode", "(I)I"⟩
def RX1 : String := "BeckChoice$Law"
def TX1 : u_T := fun k => match k with
  | 0 => ("BeckChoice$Law", "variables", "[I", true)
  | _ => ("BeckChoice$Law", "parts", "[I", true)
def tyX1 : Nat → FieldType := fun k => match k with
  | 0 => .array .int
  | _ => .array .int
abbrev wsX10 : List Cond := u_ws RX1 TX1 2
theorem nmX1 : ∀ a, a < 2 → ∀ b, b < 2 → a ≠ b → (TX1 a).2.1 ≠ (TX1 b).2.1 := by decide +kernel
theorem tyX1_ok : ∀ k, k < 2 → parseFieldDescriptor (TX1 k).2.2.1 = some (tyX1 k) := by decide +kernel
abbrev cX1_init : ByteArray := prog_3_method_1_code
def yX1_init : MethodName := ⟨RX1, "<init>", "()V"⟩
abbrev cX1_setBeck : ByteArray := prog_3_method_2_code
def yX1_setBeck : MethodName := ⟨RX1, "setBeck", "(III)V"⟩
abbrev cX1_setRiver : ByteArray := prog_3_method_3_code
def yX1_setRiver : MethodName := ⟨RX1, "setRiver", "(III)V"⟩
abbrev cX1_value : ByteArray := prog_3_method_4_code
def yX1_value : MethodName := ⟨RX1, "value", "([II)I"⟩
abbrev cX1_valueOf : ByteArray := prog_3_method_5_code
def yX1_valueOf : MethodName := ⟨RX1, "valueOf", "(I)I"⟩
abbrev cX1_joined : ByteArray := prog_3_method_6_code
def yX1_joined : MethodName := ⟨RX1, "joined", "(III)I"⟩
def RX2 : String := "BeckChoice$Match"
def TX2 : u_T := fun k => match k with
  | 0 => ("BeckChoice$Match", "where", "[I", true)
  | 1 => ("BeckChoice$Match", "there", "[I", true)
  | 2 => ("BeckChoice$Match", "crowd", "[I", true)
  | _ => ("BeckChoice$Match", "asked", "[I", true)
def tyX2 : Nat → FieldType := fun k => match k with
  | 0 => .array .int
  | 1 => .array .int
  | 2 => .array .int
  | _ => .array .int
abbrev wsX20 : List Cond := u_ws RX2 TX2 4
theorem nmX2 : ∀ a, a < 4 → ∀ b, b < 4 → a ≠ b → (TX2 a).2.1 ≠ (TX2 b).2.1 := by decide +kernel
theorem tyX2_ok : ∀ k, k < 4 → parseFieldDescriptor (TX2 k).2.2.1 = some (tyX2 k) := by decide +kernel
abbrev cX2_init : ByteArray := prog_4_method_1_code
def yX2_init : MethodName := ⟨RX2, "<init>", "()V"⟩
abbrev cX2_clear : ByteArray := prog_4_method_2_code
def yX2_clear : MethodName := ⟨RX2, "clear", "()V"⟩
abbrev cX2_comeIn : ByteArray := prog_4_method_3_code
def yX2_comeIn : MethodName := ⟨RX2, "comeIn", "(II)V"⟩
abbrev cX2_goOff : ByteArray := prog_4_method_4_code
def yX2_goOff : MethodName := ⟨RX2, "goOff", "(II)V"⟩
abbrev cX2_bestForBecks : ByteArray := prog_4_method_5_code
def yX2_bestForBecks : MethodName := ⟨RX2, "bestForBecks", "(LBeckChoice$Scene;I)V"⟩
abbrev cX2_settle : ByteArray := prog_4_method_6_code
def yX2_settle : MethodName := ⟨RX2, "settle", "(LBeckChoice$Scene;I)V"⟩
abbrev cX2_nextRiver : ByteArray := prog_4_method_7_code
def yX2_nextRiver : MethodName := ⟨RX2, "nextRiver", "(LBeckChoice$Scene;I)I"⟩
abbrev cX2_admit : ByteArray := prog_4_method_8_code
abbrev cX2_bestForRivers : ByteArray := prog_4_method_9_code
def yX2_bestForRivers : MethodName := ⟨RX2, "bestForRivers", "(LBeckChoice$Scene;)V"⟩
abbrev cX2_asksOne : ByteArray := prog_4_method_10_code
def yX2_asksOne : MethodName := ⟨RX2, "asksOne", "(LBeckChoice$Scene;I)Z"⟩
abbrev cX2_nextBeck : ByteArray := prog_4_method_11_code
def yX2_nextBeck : MethodName := ⟨RX2, "nextBeck", "(LBeckChoice$Scene;I)I"⟩
def RX3 : String := "BeckChoice$Past"
def TX3 : u_T := fun k => match k with
  | 0 => ("BeckChoice$Past", "ring", "[[I", true)
  | 1 => ("BeckChoice$Past", "before", "[I", true)
  | 2 => ("BeckChoice$Past", "next", "I", false)
  | _ => ("BeckChoice$Past", "size", "I", false)
def tyX3 : Nat → FieldType := fun k => match k with
  | 0 => .array (.array .int)
  | 1 => .array .int
  | 2 => .int
  | _ => .int
abbrev wsX30 : List Cond := u_ws RX3 TX3 4
theorem nmX3 : ∀ a, a < 4 → ∀ b, b < 4 → a ≠ b → (TX3 a).2.1 ≠ (TX3 b).2.1 := by decide +kernel
theorem tyX3_ok : ∀ k, k < 4 → parseFieldDescriptor (TX3 k).2.2.1 = some (tyX3 k) := by decide +kernel
abbrev cX3_init : ByteArray := prog_5_method_1_code
def yX3_init : MethodName := ⟨RX3, "<init>", "()V"⟩
abbrev cX3_look : ByteArray := prog_5_method_2_code
def yX3_look : MethodName := ⟨RX3, "look", "([I)V"⟩
abbrev cX3_keep : ByteArray := prog_5_method_3_code
def yX3_keep : MethodName := ⟨RX3, "keep", "()V"⟩
abbrev cX3_bringBack : ByteArray := prog_5_method_4_code
def yX3_bringBack : MethodName := ⟨RX3, "bringBack", "(I[I)V"⟩
abbrev cX3_forget : ByteArray := prog_5_method_5_code
def yX3_forget : MethodName := ⟨RX3, "forget", "()V"⟩
def RX4 : String := "BeckChoice$Reader"
def TX4 : u_T := fun k => match k with
  | 0 => ("BeckChoice$Reader", "tokens", "LBeckChoice$Tokens;", true)
  | _ => ("BeckChoice$Reader", "land", "LBeckChoice$Land;", true)
def tyX4 : Nat → FieldType := fun k => match k with
  | 0 => .object "BeckChoice$Tokens"
  | _ => .object "BeckChoice$Land"
abbrev wsX40 : List Cond := u_ws RX4 TX4 2
theorem nmX4 : ∀ a, a < 2 → ∀ b, b < 2 → a ≠ b → (TX4 a).2.1 ≠ (TX4 b).2.1 := by decide +kernel
theorem tyX4_ok : ∀ k, k < 2 → parseFieldDescriptor (TX4 k).2.2.1 = some (tyX4 k) := by decide +kernel
abbrev cX4_init : ByteArray := prog_6_method_1_code
def yX4_init : MethodName := ⟨RX4, "<init>", "(LBeckChoice$Tokens;LBeckChoice$Land;)V"⟩
abbrev cX4_readAll : ByteArray := prog_6_method_2_code
def yX4_readAll : MethodName := ⟨RX4, "readAll", "()V"⟩
abbrev cX4_readLine : ByteArray := prog_6_method_3_code
def yX4_readLine : MethodName := ⟨RX4, "readLine", "()V"⟩
abbrev cX4_readBeck : ByteArray := prog_6_method_4_code
def yX4_readBeck : MethodName := ⟨RX4, "readBeck", "()V"⟩
abbrev cX4_readTo : ByteArray := prog_6_method_5_code
def yX4_readTo : MethodName := ⟨RX4, "readTo", "(I)V"⟩
abbrev cX4_readRiver : ByteArray := prog_6_method_6_code
def yX4_readRiver : MethodName := ⟨RX4, "readRiver", "()V"⟩
abbrev cX4_readLaw : ByteArray := prog_6_method_7_code
def yX4_readLaw : MethodName := ⟨RX4, "readLaw", "()I"⟩
abbrev cX4_readSum : ByteArray := prog_6_method_8_code
def yX4_readSum : MethodName := ⟨RX4, "readSum", "(I)V"⟩
abbrev cX4_readTerm : ByteArray := prog_6_method_9_code
def yX4_readTerm : MethodName := ⟨RX4, "readTerm", "(I)V"⟩
abbrev cX4_readAtom : ByteArray := prog_6_method_10_code
def yX4_readAtom : MethodName := ⟨RX4, "readAtom", "(I)V"⟩
abbrev cX4_readIf : ByteArray := prog_6_method_11_code
def yX4_readIf : MethodName := ⟨RX4, "readIf", "(I)V"⟩
abbrev cX4_aim : ByteArray := prog_6_method_12_code
def yX4_aim : MethodName := ⟨RX4, "aim", "(I)V"⟩
abbrev cX4_readTruth : ByteArray := prog_6_method_13_code
def yX4_readTruth : MethodName := ⟨RX4, "readTruth", "(I)V"⟩
abbrev cX4_readBoth : ByteArray := prog_6_method_14_code
def yX4_readBoth : MethodName := ⟨RX4, "readBoth", "(I)V"⟩
abbrev cX4_readUnit : ByteArray := prog_6_method_15_code
def yX4_readUnit : MethodName := ⟨RX4, "readUnit", "(I)V"⟩
abbrev cX4_readComparison : ByteArray := prog_6_method_16_code
def yX4_readComparison : MethodName := ⟨RX4, "readComparison", "()I"⟩
abbrev cX4_goesIn : ByteArray := prog_6_method_17_code
def yX4_goesIn : MethodName := ⟨RX4, "goesIn", "(I)Z"⟩
def RX5 : String := "BeckChoice$Scene"
def TX5 : u_T := fun k => match k with
  | 0 => ("BeckChoice$Scene", "land", "LBeckChoice$Land;", true)
  | 1 => ("BeckChoice$Scene", "law", "LBeckChoice$Law;", true)
  | 2 => ("BeckChoice$Scene", "cells", "[I", true)
  | 3 => ("BeckChoice$Scene", "likes", "[I", true)
  | 4 => ("BeckChoice$Scene", "takes", "[I", true)
  | 5 => ("BeckChoice$Scene", "beckOrder", "[I", true)
  | 6 => ("BeckChoice$Scene", "riverOrder", "[I", true)
  | _ => ("BeckChoice$Scene", "mutual", "[I", true)
def tyX5 : Nat → FieldType := fun k => match k with
  | 0 => .object "BeckChoice$Land"
  | 1 => .object "BeckChoice$Law"
  | 2 => .array .int
  | 3 => .array .int
  | 4 => .array .int
  | 5 => .array .int
  | 6 => .array .int
  | _ => .array .int
abbrev wsX50 : List Cond := u_ws RX5 TX5 8
theorem nmX5 : ∀ a, a < 8 → ∀ b, b < 8 → a ≠ b → (TX5 a).2.1 ≠ (TX5 b).2.1 := by decide +kernel
theorem tyX5_ok : ∀ k, k < 8 → parseFieldDescriptor (TX5 k).2.2.1 = some (tyX5 k) := by decide +kernel
abbrev cX5_init : ByteArray := prog_7_method_1_code
def yX5_init : MethodName := ⟨RX5, "<init>", "(LBeckChoice$Land;LBeckChoice$Law;)V"⟩
abbrev cX5_begin : ByteArray := prog_7_method_2_code
def yX5_begin : MethodName := ⟨RX5, "begin", "()V"⟩
abbrev cX5_copyFrom : ByteArray := prog_7_method_3_code
def yX5_copyFrom : MethodName := ⟨RX5, "copyFrom", "(LBeckChoice$Scene;)V"⟩
abbrev cX5_whereOf : ByteArray := prog_7_method_4_code
def yX5_whereOf : MethodName := ⟨RX5, "whereOf", "(I)I"⟩
abbrev cX5_flowOf : ByteArray := prog_7_method_5_code
def yX5_flowOf : MethodName := ⟨RX5, "flowOf", "(I)I"⟩
abbrev cX5_roomOf : ByteArray := prog_7_method_6_code
def yX5_roomOf : MethodName := ⟨RX5, "roomOf", "(I)I"⟩
abbrev cX5_giftsOf : ByteArray := prog_7_method_7_code
def yX5_giftsOf : MethodName := ⟨RX5, "giftsOf", "(II)I"⟩
abbrev cX5_total : ByteArray := prog_7_method_8_code
def yX5_total : MethodName := ⟨RX5, "total", "(II)I"⟩
abbrev cX5_measureAll : ByteArray := prog_7_method_9_code
def yX5_measureAll : MethodName := ⟨RX5, "measureAll", "()V"⟩
abbrev cX5_measureBeck : ByteArray := prog_7_method_10_code
def yX5_measureBeck : MethodName := ⟨RX5, "measureBeck", "(II)V"⟩
abbrev cX5_measure : ByteArray := prog_7_method_11_code
def yX5_measure : MethodName := ⟨RX5, "measure", "(IIII)V"⟩
abbrev cX5_setLiking : ByteArray := prog_7_method_12_code
def yX5_setLiking : MethodName := ⟨RX5, "setLiking", "(IIII)V"⟩
abbrev cX5_bothWould : ByteArray := prog_7_method_13_code
def yX5_bothWould : MethodName := ⟨RX5, "bothWould", "(II)Z"⟩
abbrev cX5_likesBetter : ByteArray := prog_7_method_14_code
def yX5_likesBetter : MethodName := ⟨RX5, "likesBetter", "(III)Z"⟩
abbrev cX5_takesBetter : ByteArray := prog_7_method_15_code
def yX5_takesBetter : MethodName := ⟨RX5, "takesBetter", "(III)Z"⟩
abbrev cX5_rankOf : ByteArray := prog_7_method_16_code
def yX5_rankOf : MethodName := ⟨RX5, "rankOf", "(II)I"⟩
abbrev cX5_leastLiked : ByteArray := prog_7_method_17_code
def yX5_leastLiked : MethodName := ⟨RX5, "leastLiked", "(II)I"⟩
abbrev cX5_becksIn : ByteArray := prog_7_method_18_code
def yX5_becksIn : MethodName := ⟨RX5, "becksIn", "([II)I"⟩
abbrev cX5_nowhere : ByteArray := prog_7_method_19_code
def yX5_nowhere : MethodName := ⟨RX5, "nowhere", "()I"⟩
abbrev cX5_flowOfSet : ByteArray := prog_7_method_20_code
def yX5_flowOfSet : MethodName := ⟨RX5, "flowOfSet", "(I)I"⟩
abbrev cX5_flooded : ByteArray := prog_7_method_21_code
def yX5_flooded : MethodName := ⟨RX5, "flooded", "()I"⟩
abbrev cX5_floodedOf : ByteArray := prog_7_method_22_code
def yX5_floodedOf : MethodName := ⟨RX5, "floodedOf", "(I)I"⟩
abbrev cX5_overflows : ByteArray := prog_7_method_23_code
def yX5_overflows : MethodName := ⟨RX5, "overflows", "(II)Z"⟩
abbrev cX5_fewestToTurnOff : ByteArray := prog_7_method_24_code
def yX5_fewestToTurnOff : MethodName := ⟨RX5, "fewestToTurnOff", "()I"⟩
abbrev cX5_isHeld : ByteArray := prog_7_method_25_code
def yX5_isHeld : MethodName := ⟨RX5, "isHeld", "([I)Z"⟩
abbrev cX5_breakersOf : ByteArray := prog_7_method_26_code
def yX5_breakersOf : MethodName := ⟨RX5, "breakersOf", "([II)I"⟩
abbrev cX5_wouldMove : ByteArray := prog_7_method_27_code
def yX5_wouldMove : MethodName := ⟨RX5, "wouldMove", "(III)Z"⟩
abbrev cX5_wouldAdmit : ByteArray := prog_7_method_28_code
def yX5_wouldAdmit : MethodName := ⟨RX5, "wouldAdmit", "([III)Z"⟩
abbrev cX5_goInto : ByteArray := prog_7_method_29_code
def yX5_goInto : MethodName := ⟨RX5, "goInto", "(II)I"⟩
abbrev cX5_goOut : ByteArray := prog_7_method_30_code
def yX5_goOut : MethodName := ⟨RX5, "goOut", "(I)I"⟩
abbrev cX5_give : ByteArray := prog_7_method_31_code
def yX5_give : MethodName := ⟨RX5, "give", "(III)I"⟩
abbrev cX5_pour : ByteArray := prog_7_method_32_code
def yX5_pour : MethodName := ⟨RX5, "pour", "(II)I"⟩
abbrev cX5_widen : ByteArray := prog_7_method_33_code
def yX5_widen : MethodName := ⟨RX5, "widen", "(II)I"⟩
abbrev cX5_whyNot : ByteArray := prog_7_method_34_code
def yX5_whyNot : MethodName := ⟨RX5, "whyNot", "(J)I"⟩
abbrev cX5_doAll : ByteArray := prog_7_method_35_code
def yX5_doAll : MethodName := ⟨RX5, "doAll", "(LBeckChoice$Tray;)I"⟩
def RX6 : String := "BeckChoice$Supposing"
def TX6 : u_T := fun k => match k with
  | 0 => ("BeckChoice$Supposing", "trial", "LBeckChoice$Scene;", true)
  | 1 => ("BeckChoice$Supposing", "match", "LBeckChoice$Match;", true)
  | 2 => ("BeckChoice$Supposing", "answers", "[I", true)
  | 3 => ("BeckChoice$Supposing", "marksHeld", "I", false)
  | 4 => ("BeckChoice$Supposing", "wouldBy", "[I", true)
  | 5 => ("BeckChoice$Supposing", "above", "I", false)
  | _ => ("BeckChoice$Supposing", "below", "I", false)
def tyX6 : Nat → FieldType := fun k => match k with
  | 0 => .object "BeckChoice$Scene"
  | 1 => .object "BeckChoice$Match"
  | 2 => .array .int
  | 3 => .int
  | 4 => .array .int
  | 5 => .int
  | _ => .int
abbrev wsX60 : List Cond := u_ws RX6 TX6 7
theorem nmX6 : ∀ a, a < 7 → ∀ b, b < 7 → a ≠ b → (TX6 a).2.1 ≠ (TX6 b).2.1 := by decide +kernel
theorem tyX6_ok : ∀ k, k < 7 → parseFieldDescriptor (TX6 k).2.2.1 = some (tyX6 k) := by decide +kernel
abbrev cX6_init : ByteArray := prog_8_method_1_code
def yX6_init : MethodName := ⟨RX6, "<init>", "(LBeckChoice$Scene;LBeckChoice$Match;)V"⟩
abbrev cX6_gainByLying : ByteArray := prog_8_method_2_code
def yX6_gainByLying : MethodName := ⟨RX6, "gainByLying", "(LBeckChoice$Scene;I)I"⟩
abbrev cX6_getsByTelling : ByteArray := prog_8_method_3_code
def yX6_getsByTelling : MethodName := ⟨RX6, "getsByTelling", "(LBeckChoice$Scene;II)Z"⟩
abbrev cX6_hear : ByteArray := prog_8_method_4_code
def yX6_hear : MethodName := ⟨RX6, "hear", "(LBeckChoice$Scene;LBeckChoice$Tray;)Z"⟩
abbrev cX6_marksThatHold : ByteArray := prog_8_method_5_code
def yX6_marksThatHold : MethodName := ⟨RX6, "marksThatHold", "(LBeckChoice$Scene;I)I"⟩
abbrev cX6_countWilling : ByteArray := prog_8_method_6_code
def yX6_countWilling : MethodName := ⟨RX6, "countWilling", "(I)V"⟩
abbrev cX6_bestQuestion : ByteArray := prog_8_method_7_code
def yX6_bestQuestion : MethodName := ⟨RX6, "bestQuestion", "(I)I"⟩
abbrev cX6_chanceOfFlood : ByteArray := prog_8_method_8_code
def yX6_chanceOfFlood : MethodName := ⟨RX6, "chanceOfFlood", "(LBeckChoice$Scene;I)V"⟩
abbrev cX6_chanceOfStaying : ByteArray := prog_8_method_9_code
def yX6_chanceOfStaying : MethodName := ⟨RX6, "chanceOfStaying", "(LBeckChoice$Scene;I)V"⟩
abbrev cX6_weightOf : ByteArray := prog_8_method_10_code
def yX6_weightOf : MethodName := ⟨RX6, "weightOf", "(LBeckChoice$Land;I)I"⟩
abbrev cX6_wholeOf : ByteArray := prog_8_method_11_code
def yX6_wholeOf : MethodName := ⟨RX6, "wholeOf", "(LBeckChoice$Land;)I"⟩
abbrev cX6_tellInLowestTerms : ByteArray := prog_8_method_12_code
def yX6_tellInLowestTerms : MethodName := ⟨RX6, "tellInLowestTerms", "(II)V"⟩
def RX7 : String := "BeckChoice$Survey"
def TX7 : u_T := fun k => match k with
  | 0 => ("BeckChoice$Survey", "match", "LBeckChoice$Match;", true)
  | 1 => ("BeckChoice$Survey", "scene", "LBeckChoice$Scene;", false)
  | 2 => ("BeckChoice$Survey", "best", "[I", true)
  | 3 => ("BeckChoice$Survey", "worst", "[I", true)
  | 4 => ("BeckChoice$Survey", "open", "[I", true)
  | 5 => ("BeckChoice$Survey", "where", "[I", true)
  | 6 => ("BeckChoice$Survey", "crowd", "[I", true)
  | 7 => ("BeckChoice$Survey", "wanted", "I", false)
  | 8 => ("BeckChoice$Survey", "wantedNumber", "I", false)
  | 9 => ("BeckChoice$Survey", "found", "I", false)
  | 10 => ("BeckChoice$Survey", "fairestNumber", "I", false)
  | 11 => ("BeckChoice$Survey", "fairestRank", "I", false)
  | 12 => ("BeckChoice$Survey", "seenIn", "[I", true)
  | _ => ("BeckChoice$Survey", "mostFlow", "[I", true)
def tyX7 : Nat → FieldType := fun k => match k with
  | 0 => .object "BeckChoice$Match"
  | 1 => .object "BeckChoice$Scene"
  | 2 => .array .int
  | 3 => .array .int
  | 4 => .array .int
  | 5 => .array .int
  | 6 => .array .int
  | 7 => .int
  | 8 => .int
  | 9 => .int
  | 10 => .int
  | 11 => .int
  | 12 => .array .int
  | _ => .array .int
abbrev wsX70 : List Cond := u_ws RX7 TX7 14
theorem nmX7 : ∀ a, a < 14 → ∀ b, b < 14 → a ≠ b → (TX7 a).2.1 ≠ (TX7 b).2.1 := by decide +kernel
theorem tyX7_ok : ∀ k, k < 14 → parseFieldDescriptor (TX7 k).2.2.1 = some (tyX7 k) := by decide +kernel
abbrev cX7_init : ByteArray := prog_9_method_1_code
def yX7_init : MethodName := ⟨RX7, "<init>", "(LBeckChoice$Match;)V"⟩
abbrev cX7_bound : ByteArray := prog_9_method_2_code
def yX7_bound : MethodName := ⟨RX7, "bound", "(LBeckChoice$Scene;)V"⟩
abbrev cX7_goThrough : ByteArray := prog_9_method_3_code
def yX7_goThrough : MethodName := ⟨RX7, "goThrough", "(LBeckChoice$Scene;I)V"⟩
abbrev cX7_between : ByteArray := prog_9_method_4_code
def yX7_between : MethodName := ⟨RX7, "between", "(I)I"⟩
abbrev cX7_placeFrom : ByteArray := prog_9_method_5_code
def yX7_placeFrom : MethodName := ⟨RX7, "placeFrom", "(I)V"⟩
abbrev cX7_weigh : ByteArray := prog_9_method_6_code
def yX7_weigh : MethodName := ⟨RX7, "weigh", "()V"⟩
abbrev cX7_numberOf : ByteArray := prog_9_method_7_code
def yX7_numberOf : MethodName := ⟨RX7, "numberOf", "()I"⟩
abbrev cX7_fullestNumber : ByteArray := prog_9_method_8_code
def yX7_fullestNumber : MethodName := ⟨RX7, "fullestNumber", "(LBeckChoice$Scene;)I"⟩
abbrev cX7_fillsFrom : ByteArray := prog_9_method_9_code
def yX7_fillsFrom : MethodName := ⟨RX7, "fillsFrom", "(II)Z"⟩
def RX8 : String := "BeckChoice$Tokens"
def TX8 : u_T := fun k => match k with
  | 0 => ("BeckChoice$Tokens", "text", "[B", true)
  | 1 => ("BeckChoice$Tokens", "length", "I", false)
  | 2 => ("BeckChoice$Tokens", "at", "I", false)
  | 3 => ("BeckChoice$Tokens", "kind", "I", false)
  | 4 => ("BeckChoice$Tokens", "place", "I", false)
  | 5 => ("BeckChoice$Tokens", "value", "I", false)
  | 6 => ("BeckChoice$Tokens", "fault", "I", false)
  | _ => ("BeckChoice$Tokens", "faultPlace", "I", false)
def tyX8 : Nat → FieldType := fun k => match k with
  | 0 => .array .byte
  | 1 => .int
  | 2 => .int
  | 3 => .int
  | 4 => .int
  | 5 => .int
  | 6 => .int
  | _ => .int
abbrev wsX80 : List Cond := u_ws RX8 TX8 8
theorem nmX8 : ∀ a, a < 8 → ∀ b, b < 8 → a ≠ b → (TX8 a).2.1 ≠ (TX8 b).2.1 := by decide +kernel
theorem tyX8_ok : ∀ k, k < 8 → parseFieldDescriptor (TX8 k).2.2.1 = some (tyX8 k) := by decide +kernel
abbrev cX8_init : ByteArray := prog_10_method_1_code
def yX8_init : MethodName := ⟨RX8, "<init>", "([B)V"⟩
abbrev cX8_open : ByteArray := prog_10_method_2_code
def yX8_open : MethodName := ⟨RX8, "open", "(I)V"⟩
abbrev cX8_advance : ByteArray := prog_10_method_3_code
def yX8_advance : MethodName := ⟨RX8, "advance", "()V"⟩
abbrev cX8_isLetter : ByteArray := prog_10_method_4_code
def yX8_isLetter : MethodName := ⟨RX8, "isLetter", "(I)Z"⟩
abbrev cX8_isDigit : ByteArray := prog_10_method_5_code
def yX8_isDigit : MethodName := ⟨RX8, "isDigit", "(I)Z"⟩
abbrev cX8_sign : ByteArray := prog_10_method_6_code
def yX8_sign : MethodName := ⟨RX8, "sign", "(I)I"⟩
abbrev cX8_number : ByteArray := prog_10_method_7_code
def yX8_number : MethodName := ⟨RX8, "number", "()I"⟩
abbrev cX8_word : ByteArray := prog_10_method_8_code
def yX8_word : MethodName := ⟨RX8, "word", "()I"⟩
abbrev cX8_sees : ByteArray := prog_10_method_9_code
def yX8_sees : MethodName := ⟨RX8, "sees", "(I)Z"⟩
abbrev cX8_goesOn : ByteArray := prog_10_method_10_code
def yX8_goesOn : MethodName := ⟨RX8, "goesOn", "()Z"⟩
abbrev cX8_refuse : ByteArray := prog_10_method_11_code
def yX8_refuse : MethodName := ⟨RX8, "refuse", "(I)V"⟩
abbrev cX8_expect : ByteArray := prog_10_method_12_code
def yX8_expect : MethodName := ⟨RX8, "expect", "(I)V"⟩
abbrev cX8_expectNumber : ByteArray := prog_10_method_13_code
def yX8_expectNumber : MethodName := ⟨RX8, "expectNumber", "(I)I"⟩
def RX9 : String := "BeckChoice$Tray"
def TX9 : u_T := fun k => match k with
  | 0 => ("BeckChoice$Tray", "numbers", "[J", true)
  | 1 => ("BeckChoice$Tray", "sort", "I", false)
  | _ => ("BeckChoice$Tray", "size", "I", false)
def tyX9 : Nat → FieldType := fun k => match k with
  | 0 => .array .long
  | 1 => .int
  | _ => .int
abbrev wsX90 : List Cond := u_ws RX9 TX9 3
theorem nmX9 : ∀ a, a < 3 → ∀ b, b < 3 → a ≠ b → (TX9 a).2.1 ≠ (TX9 b).2.1 := by decide +kernel
theorem tyX9_ok : ∀ k, k < 3 → parseFieldDescriptor (TX9 k).2.2.1 = some (tyX9 k) := by decide +kernel
abbrev cX9_init : ByteArray := prog_11_method_1_code
def yX9_init : MethodName := ⟨RX9, "<init>", "()V"⟩
abbrev cX9_missing : ByteArray := prog_11_method_2_code
def yX9_missing : MethodName := ⟨RX9, "missing", "()Z"⟩
abbrev cX9_make : ByteArray := prog_11_method_3_code
def yX9_make : MethodName := ⟨RX9, "make", "(II)V"⟩
abbrev cX9_hasPlace : ByteArray := prog_11_method_4_code
def yX9_hasPlace : MethodName := ⟨RX9, "hasPlace", "(I)Z"⟩
abbrev cX9_at : ByteArray := prog_11_method_5_code
def yX9_at : MethodName := ⟨RX9, "at", "(I)J"⟩
abbrev cX9_put : ByteArray := prog_11_method_6_code
def yX9_put : MethodName := ⟨RX9, "put", "(IJ)J"⟩
abbrev cX9_cutTo : ByteArray := prog_11_method_7_code
def yX9_cutTo : MethodName := ⟨RX9, "cutTo", "(J)J"⟩
def RX10 : String := "BeckChoice$Wooing"
def TX10 : u_T := fun k => match k with
  | 0 => ("BeckChoice$Wooing", "trial", "LBeckChoice$Scene;", true)
  | 1 => ("BeckChoice$Wooing", "match", "LBeckChoice$Match;", true)
  | 2 => ("BeckChoice$Wooing", "river", "I", false)
  | 3 => ("BeckChoice$Wooing", "enough", "I", false)
  | 4 => ("BeckChoice$Wooing", "likes", "[I", true)
  | 5 => ("BeckChoice$Wooing", "takes", "[I", true)
  | 6 => ("BeckChoice$Wooing", "ranks", "[I", true)
  | 7 => ("BeckChoice$Wooing", "worth", "[I", true)
  | 8 => ("BeckChoice$Wooing", "mostFrom", "[I", true)
  | 9 => ("BeckChoice$Wooing", "willing", "I", false)
  | _ => ("BeckChoice$Wooing", "given", "[I", true)
def tyX10 : Nat → FieldType := fun k => match k with
  | 0 => .object "BeckChoice$Scene"
  | 1 => .object "BeckChoice$Match"
  | 2 => .int
  | 3 => .int
  | 4 => .array .int
  | 5 => .array .int
  | 6 => .array .int
  | 7 => .array .int
  | 8 => .array .int
  | 9 => .int
  | _ => .array .int
abbrev wsX100 : List Cond := u_ws RX10 TX10 11
theorem nmX10 : ∀ a, a < 11 → ∀ b, b < 11 → a ≠ b → (TX10 a).2.1 ≠ (TX10 b).2.1 := by decide +kernel
theorem tyX10_ok : ∀ k, k < 11 → parseFieldDescriptor (TX10 k).2.2.1 = some (tyX10 k) := by decide +kernel
abbrev cX10_init : ByteArray := prog_12_method_1_code
def yX10_init : MethodName := ⟨RX10, "<init>", "(LBeckChoice$Scene;LBeckChoice$Match;)V"⟩
abbrev cX10_least : ByteArray := prog_12_method_2_code
def yX10_least : MethodName := ⟨RX10, "least", "(LBeckChoice$Scene;II)I"⟩
abbrev cX10_weighGifts : ByteArray := prog_12_method_3_code
def yX10_weighGifts : MethodName := ⟨RX10, "weighGifts", "(I)V"⟩
abbrev cX10_level : ByteArray := prog_12_method_4_code
def yX10_level : MethodName := ⟨RX10, "level", "(II)I"⟩
abbrev cX10_isNew : ByteArray := prog_12_method_5_code
def yX10_isNew : MethodName := ⟨RX10, "isNew", "(II)Z"⟩
abbrev cX10_canBeEnough : ByteArray := prog_12_method_6_code
def yX10_canBeEnough : MethodName := ⟨RX10, "canBeEnough", "()Z"⟩
abbrev cX10_givesFrom : ByteArray := prog_12_method_7_code
def yX10_givesFrom : MethodName := ⟨RX10, "givesFrom", "(II)Z"⟩
abbrev cX10_hasEnough : ByteArray := prog_12_method_8_code
def yX10_hasEnough : MethodName := ⟨RX10, "hasEnough", "()Z"⟩
def RX11 : String := "BeckChoice"
def TX11 : u_T := fun k => match k with
  | 0 => ("BeckChoice", "tape", "[B", true)
  | 1 => ("BeckChoice", "taped", "I", false)
  | 2 => ("BeckChoice", "draft", "LBeckChoice$Land;", true)
  | 3 => ("BeckChoice", "tokens", "LBeckChoice$Tokens;", true)
  | 4 => ("BeckChoice", "reader", "LBeckChoice$Reader;", true)
  | 5 => ("BeckChoice", "fault", "I", false)
  | 6 => ("BeckChoice", "faultPlace", "I", false)
  | 7 => ("BeckChoice", "law", "LBeckChoice$Law;", true)
  | 8 => ("BeckChoice", "now", "LBeckChoice$Scene;", true)
  | 9 => ("BeckChoice", "trial", "LBeckChoice$Scene;", true)
  | 10 => ("BeckChoice", "images", "[LBeckChoice$Scene;", true)
  | 11 => ("BeckChoice", "imaged", "[Z", true)
  | 12 => ("BeckChoice", "past", "LBeckChoice$Past;", true)
  | 13 => ("BeckChoice", "match", "LBeckChoice$Match;", true)
  | 14 => ("BeckChoice", "survey", "LBeckChoice$Survey;", true)
  | 15 => ("BeckChoice", "wooing", "LBeckChoice$Wooing;", true)
  | 16 => ("BeckChoice", "supposing", "LBeckChoice$Supposing;", true)
  | 17 => ("BeckChoice", "trays", "[LBeckChoice$Tray;", true)
  | _ => ("BeckChoice", "draw", "I", false)
def tyX11 : Nat → FieldType := fun k => match k with
  | 0 => .array .byte
  | 1 => .int
  | 2 => .object "BeckChoice$Land"
  | 3 => .object "BeckChoice$Tokens"
  | 4 => .object "BeckChoice$Reader"
  | 5 => .int
  | 6 => .int
  | 7 => .object "BeckChoice$Law"
  | 8 => .object "BeckChoice$Scene"
  | 9 => .object "BeckChoice$Scene"
  | 10 => .array (.object "BeckChoice$Scene")
  | 11 => .array .boolean
  | 12 => .object "BeckChoice$Past"
  | 13 => .object "BeckChoice$Match"
  | 14 => .object "BeckChoice$Survey"
  | 15 => .object "BeckChoice$Wooing"
  | 16 => .object "BeckChoice$Supposing"
  | 17 => .array (.object "BeckChoice$Tray")
  | _ => .int
abbrev wsX110 : List Cond := u_ws RX11 TX11 19
theorem nmX11 : ∀ a, a < 19 → ∀ b, b < 19 → a ≠ b → (TX11 a).2.1 ≠ (TX11 b).2.1 := by decide +kernel
theorem tyX11_ok : ∀ k, k < 19 → parseFieldDescriptor (TX11 k).2.2.1 = some (tyX11 k) := by decide +kernel
abbrev cX11_init : ByteArray := prog_1_method_1_code
def yX11_init : MethodName := ⟨RX11, "<init>", "()V"⟩
abbrev cX11_feed : ByteArray := prog_1_method_2_code
def yX11_feed : MethodName := ⟨RX11, "feed", "(IIIII)I"⟩
abbrev cX11_tapeInt : ByteArray := prog_1_method_3_code
def yX11_tapeInt : MethodName := ⟨RX11, "tapeInt", "(I)V"⟩
abbrev cX11_land : ByteArray := prog_1_method_4_code
def yX11_land : MethodName := ⟨RX11, "land", "(I)I"⟩
abbrev cX11_fault : ByteArray := prog_1_method_5_code
def yX11_fault : MethodName := ⟨RX11, "fault", "(I)I"⟩
abbrev cX11_beck : ByteArray := prog_1_method_6_code
def yX11_beck : MethodName := ⟨RX11, "beck", "(II)I"⟩
abbrev cX11_river : ByteArray := prog_1_method_7_code
def yX11_river : MethodName := ⟨RX11, "river", "(II)I"⟩
abbrev cX11_likes : ByteArray := prog_1_method_8_code
def yX11_likes : MethodName := ⟨RX11, "likes", "(II)I"⟩
abbrev cX11_takes : ByteArray := prog_1_method_9_code
def yX11_takes : MethodName := ⟨RX11, "takes", "(II)I"⟩
abbrev cX11_gifts : ByteArray := prog_1_method_10_code
def yX11_gifts : MethodName := ⟨RX11, "gifts", "(II)I"⟩
abbrev cX11_declare : ByteArray := prog_1_method_11_code
def yX11_declare : MethodName := ⟨RX11, "declare", "(II)I"⟩
abbrev cX11_leave : ByteArray := prog_1_method_12_code
def yX11_leave : MethodName := ⟨RX11, "leave", "(I)I"⟩
abbrev cX11_send : ByteArray := prog_1_method_13_code
def yX11_send : MethodName := ⟨RX11, "send", "(III)I"⟩
abbrev cX11_rain : ByteArray := prog_1_method_14_code
def yX11_rain : MethodName := ⟨RX11, "rain", "(II)I"⟩
abbrev cX11_room : ByteArray := prog_1_method_15_code
def yX11_room : MethodName := ⟨RX11, "room", "(II)I"⟩
abbrev cX11_keptIfDone : ByteArray := prog_1_method_16_code
def yX11_keptIfDone : MethodName := ⟨RX11, "keptIfDone", "(I)I"⟩
abbrev cX11_undo : ByteArray := prog_1_method_17_code
def yX11_undo : MethodName := ⟨RX11, "undo", "(I)I"⟩
abbrev cX11_judge : ByteArray := prog_1_method_18_code
def yX11_judge : MethodName := ⟨RX11, "judge", "(II)I"⟩
abbrev cX11_perform : ByteArray := prog_1_method_19_code
def yX11_perform : MethodName := ⟨RX11, "perform", "(I)I"⟩
abbrev cX11_year : ByteArray := prog_1_method_20_code
def yX11_year : MethodName := ⟨RX11, "year", "(II)I"⟩
abbrev cX11_keptIfSome : ByteArray := prog_1_method_21_code
def yX11_keptIfSome : MethodName := ⟨RX11, "keptIfSome", "(I)I"⟩
abbrev cX11_drawnDeed : ByteArray := prog_1_method_22_code
def yX11_drawnDeed : MethodName := ⟨RX11, "drawnDeed", "()I"⟩
abbrev cX11_drawn : ByteArray := prog_1_method_23_code
def yX11_drawn : MethodName := ⟨RX11, "drawn", "(I)I"⟩
abbrev cX11_holds : ByteArray := prog_1_method_24_code
def yX11_holds : MethodName := ⟨RX11, "holds", "()I"⟩
abbrev cX11_breaks : ByteArray := prog_1_method_25_code
def yX11_breaks : MethodName := ⟨RX11, "breaks", "()I"⟩
abbrev cX11_breaking : ByteArray := prog_1_method_26_code
def yX11_breaking : MethodName := ⟨RX11, "breaking", "()I"⟩
abbrev cX11_forBecks : ByteArray := prog_1_method_27_code
def yX11_forBecks : MethodName := ⟨RX11, "forBecks", "(I)I"⟩
abbrev cX11_forRivers : ByteArray := prog_1_method_28_code
def yX11_forRivers : MethodName := ⟨RX11, "forRivers", "(I)I"⟩
abbrev cX11_choices : ByteArray := prog_1_method_29_code
def yX11_choices : MethodName := ⟨RX11, "choices", "()I"⟩
abbrev cX11_choice : ByteArray := prog_1_method_30_code
def yX11_choice : MethodName := ⟨RX11, "choice", "(I)I"⟩
abbrev cX11_can : ByteArray := prog_1_method_31_code
def yX11_can : MethodName := ⟨RX11, "can", "(I)I"⟩
abbrev cX11_sure : ByteArray := prog_1_method_32_code
def yX11_sure : MethodName := ⟨RX11, "sure", "()I"⟩
abbrev cX11_fairest : ByteArray := prog_1_method_33_code
def yX11_fairest : MethodName := ⟨RX11, "fairest", "()I"⟩
abbrev cX11_fullest : ByteArray := prog_1_method_34_code
def yX11_fullest : MethodName := ⟨RX11, "fullest", "()I"⟩
abbrev cX11_gains : ByteArray := prog_1_method_35_code
def yX11_gains : MethodName := ⟨RX11, "gains", "(I)I"⟩
abbrev cX11_lie : ByteArray := prog_1_method_36_code
def yX11_lie : MethodName := ⟨RX11, "lie", "(I)I"⟩
abbrev cX11_liars : ByteArray := prog_1_method_37_code
def yX11_liars : MethodName := ⟨RX11, "liars", "()I"⟩
abbrev cX11_woos : ByteArray := prog_1_method_38_code
def yX11_woos : MethodName := ⟨RX11, "woos", "(III)I"⟩
abbrev cX11_floods : ByteArray := prog_1_method_39_code
def yX11_floods : MethodName := ⟨RX11, "floods", "()I"⟩
abbrev cX11_turnOff : ByteArray := prog_1_method_40_code
def yX11_turnOff : MethodName := ⟨RX11, "turnOff", "(I)I"⟩
abbrev cX11_bearing : ByteArray := prog_1_method_41_code
def yX11_bearing : MethodName := ⟨RX11, "bearing", "(I)I"⟩
abbrev cX11_marks : ByteArray := prog_1_method_42_code
def yX11_marks : MethodName := ⟨RX11, "marks", "(II)I"⟩
abbrev cX11_ask : ByteArray := prog_1_method_43_code
def yX11_ask : MethodName := ⟨RX11, "ask", "(II)I"⟩
abbrev cX11_refusedAnswers : ByteArray := prog_1_method_44_code
def yX11_refusedAnswers : MethodName := ⟨RX11, "refusedAnswers", "(II)I"⟩
abbrev cX11_flooding : ByteArray := prog_1_method_45_code
def yX11_flooding : MethodName := ⟨RX11, "flooding", "(II)I"⟩
abbrev cX11_staying : ByteArray := prog_1_method_46_code
def yX11_staying : MethodName := ⟨RX11, "staying", "(II)I"⟩
abbrev cX11_numbers : ByteArray := prog_1_method_47_code
def yX11_numbers : MethodName := ⟨RX11, "numbers", "(III)I"⟩
abbrev cX11_write : ByteArray := prog_1_method_48_code
def yX11_write : MethodName := ⟨RX11, "write", "(IIJ)J"⟩
abbrev cX11_lists : ByteArray := prog_1_method_49_code
def yX11_lists : MethodName := ⟨RX11, "lists", "(II)I"⟩
abbrev cX11_image : ByteArray := prog_1_method_50_code
def yX11_image : MethodName := ⟨RX11, "image", "(I)I"⟩
abbrev cX11_restore : ByteArray := prog_1_method_51_code
def yX11_restore : MethodName := ⟨RX11, "restore", "(I)I"⟩
abbrev cX11_count : ByteArray := prog_1_method_52_code
def yX11_count : MethodName := ⟨RX11, "count", "(I)I"⟩
abbrev cX11_isTray : ByteArray := prog_1_method_53_code
def yX11_isTray : MethodName := ⟨RX11, "isTray", "(I)Z"⟩
abbrev cX11_pair : ByteArray := prog_1_method_54_code
def yX11_pair : MethodName := ⟨RX11, "pair", "(II)I"⟩
def RX12 : String := "BeckChoiceModel"
def TX12 : u_T := fun k => match k with
  | 0 => ("BeckChoiceModel", "thrown", "I", false)
  | 1 => ("BeckChoiceModel", "all", "[I", true)
  | 2 => ("BeckChoiceModel", "hasImage", "[Z", true)
  | 3 => ("BeckChoiceModel", "tape", "[I", true)
  | 4 => ("BeckChoiceModel", "fresh", "[I", true)
  | 5 => ("BeckChoiceModel", "taped", "I", false)
  | 6 => ("BeckChoiceModel", "at", "I", false)
  | 7 => ("BeckChoiceModel", "behind", "I", false)
  | 8 => ("BeckChoiceModel", "size", "I", false)
  | 9 => ("BeckChoiceModel", "kind", "I", false)
  | 10 => ("BeckChoiceModel", "number", "I", false)
  | 11 => ("BeckChoiceModel", "wrong", "I", false)
  | 12 => ("BeckChoiceModel", "wrongAt", "I", false)
  | 13 => ("BeckChoiceModel", "faultKind", "I", false)
  | 14 => ("BeckChoiceModel", "faultPlace", "I", false)
  | 15 => ("BeckChoiceModel", "reckoned", "[I", true)
  | 16 => ("BeckChoiceModel", "words", "[I", true)
  | 17 => ("BeckChoiceModel", "liked", "[I", true)
  | 18 => ("BeckChoiceModel", "taken", "[I", true)
  | 19 => ("BeckChoiceModel", "was", "[I", true)
  | 20 => ("BeckChoiceModel", "pushedOut", "I", false)
  | 21 => ("BeckChoiceModel", "toldWhy", "I", false)
  | 22 => ("BeckChoiceModel", "x", "I", false)
  | 23 => ("BeckChoiceModel", "where", "[I", true)
  | 24 => ("BeckChoiceModel", "held", "[I", true)
  | 25 => ("BeckChoiceModel", "heldMany", "I", false)
  | 26 => ("BeckChoiceModel", "refused", "[I", true)
  | 27 => ("BeckChoiceModel", "liar", "I", false)
  | 28 => ("BeckChoiceModel", "toldRank", "[I", true)
  | 29 => ("BeckChoiceModel", "gainedIn", "I", false)
  | 30 => ("BeckChoiceModel", "gainedBy", "I", false)
  | 31 => ("BeckChoiceModel", "wooed", "[I", true)
  | 32 => ("BeckChoiceModel", "rowSort", "[I", true)
  | 33 => ("BeckChoiceModel", "rowMany", "[I", true)
  | _ => ("BeckChoiceModel", "numbers", "[J", true)
def tyX12 : Nat → FieldType := fun k => match k with
  | 0 => .int
  | 1 => .array .int
  | 2 => .array .boolean
  | 3 => .array .int
  | 4 => .array .int
  | 5 => .int
  | 6 => .int
  | 7 => .int
  | 8 => .int
  | 9 => .int
  | 10 => .int
  | 11 => .int
  | 12 => .int
  | 13 => .int
  | 14 => .int
  | 15 => .array .int
  | 16 => .array .int
  | 17 => .array .int
  | 18 => .array .int
  | 19 => .array .int
  | 20 => .int
  | 21 => .int
  | 22 => .int
  | 23 => .array .int
  | 24 => .array .int
  | 25 => .int
  | 26 => .array .int
  | 27 => .int
  | 28 => .array .int
  | 29 => .int
  | 30 => .int
  | 31 => .array .int
  | 32 => .array .int
  | 33 => .array .int
  | _ => .array .long
abbrev wsX120 : List Cond := u_ws RX12 TX12 35
theorem nmX12 : ∀ a, a < 35 → ∀ b, b < 35 → a ≠ b → (TX12 a).2.1 ≠ (TX12 b).2.1 := by decide +kernel
theorem tyX12_ok : ∀ k, k < 35 → parseFieldDescriptor (TX12 k).2.2.1 = some (tyX12 k) := by decide +kernel
abbrev cX12_within : ByteArray := prog_14_method_2_code
def yX12_within : MethodName := ⟨RX12, "within", "(JJJ)Z"⟩
abbrev cX12_init : ByteArray := prog_14_method_3_code
def yX12_init : MethodName := ⟨RX12, "<init>", "()V"⟩
abbrev cX12_plain : ByteArray := prog_14_method_4_code
def yX12_plain : MethodName := ⟨RX12, "plain", "([I)V"⟩
abbrev cX12_feed : ByteArray := prog_14_method_5_code
def yX12_feed : MethodName := ⟨RX12, "feed", "(IIIII)I"⟩
abbrev cX12_see : ByteArray := prog_14_method_6_code
def yX12_see : MethodName := ⟨RX12, "see", "(I)I"⟩
abbrev cX12_isSmall : ByteArray := prog_14_method_7_code
def yX12_isSmall : MethodName := ⟨RX12, "isSmall", "(I)Z"⟩
abbrev cX12_isDigit : ByteArray := prog_14_method_8_code
def yX12_isDigit : MethodName := ⟨RX12, "isDigit", "(I)Z"⟩
abbrev cX12_keyAt : ByteArray := prog_14_method_9_code
def yX12_keyAt : MethodName := ⟨RX12, "keyAt", "()I"⟩
abbrev cX12_next : ByteArray := prog_14_method_10_code
def yX12_next : MethodName := ⟨RX12, "next", "()V"⟩
abbrev cX12_fails : ByteArray := prog_14_method_11_code
def yX12_fails : MethodName := ⟨RX12, "fails", "(I)V"⟩
abbrev cX12_is : ByteArray := prog_14_method_12_code
def yX12_is : MethodName := ⟨RX12, "is", "(I)Z"⟩
abbrev cX12_eats : ByteArray := prog_14_method_13_code
def yX12_eats : MethodName := ⟨RX12, "eats", "(I)Z"⟩
abbrev cX12_takesN : ByteArray := prog_14_method_14_code
def yX12_takesN : MethodName := ⟨RX12, "takesN", "(II)I"⟩
abbrev cX12_isIn : ByteArray := prog_14_method_15_code
def yX12_isIn : MethodName := ⟨RX12, "isIn", "(JI)Z"⟩
abbrev cX12_wordOf : ByteArray := prog_14_method_16_code
def yX12_wordOf : MethodName := ⟨RX12, "wordOf", "(I)I"⟩
abbrev cX12_codes : ByteArray := prog_14_method_17_code
def yX12_codes : MethodName := ⟨RX12, "codes", "(I)V"⟩
abbrev cX12_goesIn : ByteArray := prog_14_method_18_code
def yX12_goesIn : MethodName := ⟨RX12, "goesIn", "(I)Z"⟩
abbrev cX12_readAtom : ByteArray := prog_14_method_19_code
def yX12_readAtom : MethodName := ⟨RX12, "readAtom", "(I)V"⟩
abbrev cX12_readIf : ByteArray := prog_14_method_20_code
def yX12_readIf : MethodName := ⟨RX12, "readIf", "(I)V"⟩
abbrev cX12_readTerm : ByteArray := prog_14_method_21_code
def yX12_readTerm : MethodName := ⟨RX12, "readTerm", "(I)V"⟩
abbrev cX12_readSum : ByteArray := prog_14_method_22_code
def yX12_readSum : MethodName := ⟨RX12, "readSum", "(I)V"⟩
abbrev cX12_readUnit : ByteArray := prog_14_method_23_code
def yX12_readUnit : MethodName := ⟨RX12, "readUnit", "(I)V"⟩
abbrev cX12_readBoth : ByteArray := prog_14_method_24_code
def yX12_readBoth : MethodName := ⟨RX12, "readBoth", "(I)V"⟩
abbrev cX12_readTruth : ByteArray := prog_14_method_25_code
def yX12_readTruth : MethodName := ⟨RX12, "readTruth", "(I)V"⟩
abbrev cX12_inRiver : ByteArray := prog_14_method_26_code
def yX12_inRiver : MethodName := ⟨RX12, "inRiver", "(I)I"⟩
abbrev cX12_readTo : ByteArray := prog_14_method_27_code
def yX12_readTo : MethodName := ⟨RX12, "readTo", "(I)V"⟩
abbrev cX12_readFlag : ByteArray := prog_14_method_28_code
def yX12_readFlag : MethodName := ⟨RX12, "readFlag", "(I)Z"⟩
abbrev cX12_readBeck : ByteArray := prog_14_method_29_code
def yX12_readBeck : MethodName := ⟨RX12, "readBeck", "()V"⟩
abbrev cX12_readRiver : ByteArray := prog_14_method_30_code
def yX12_readRiver : MethodName := ⟨RX12, "readRiver", "()V"⟩
abbrev cX12_readLaw : ByteArray := prog_14_method_31_code
def yX12_readLaw : MethodName := ⟨RX12, "readLaw", "(I)V"⟩
abbrev cX12_readLine : ByteArray := prog_14_method_32_code
def yX12_readLine : MethodName := ⟨RX12, "readLine", "()V"⟩
abbrev cX12_ends : ByteArray := prog_14_method_33_code
def yX12_ends : MethodName := ⟨RX12, "ends", "()V"⟩
abbrev cX12_land : ByteArray := prog_14_method_34_code
def yX12_land : MethodName := ⟨RX12, "land", "(I)I"⟩
abbrev cX12_fault : ByteArray := prog_14_method_35_code
def yX12_fault : MethodName := ⟨RX12, "fault", "(I)I"⟩
abbrev cX12_isBeck : ByteArray := prog_14_method_36_code
def yX12_isBeck : MethodName := ⟨RX12, "isBeck", "(J)Z"⟩
abbrev cX12_isRiver : ByteArray := prog_14_method_37_code
def yX12_isRiver : MethodName := ⟨RX12, "isRiver", "(J)Z"⟩
abbrev cX12_bitsOf : ByteArray := prog_14_method_38_code
def yX12_bitsOf : MethodName := ⟨RX12, "bitsOf", "(I)I"⟩
abbrev cX12_giftAt : ByteArray := prog_14_method_39_code
def yX12_giftAt : MethodName := ⟨RX12, "giftAt", "(II)I"⟩
abbrev cX12_between : ByteArray := prog_14_method_40_code
def yX12_between : MethodName := ⟨RX12, "between", "(III)I"⟩
abbrev cX12_reckons : ByteArray := prog_14_method_41_code
def yX12_reckons : MethodName := ⟨RX12, "reckons", "(III)I"⟩
abbrev cX12_laysLikes : ByteArray := prog_14_method_42_code
def yX12_laysLikes : MethodName := ⟨RX12, "laysLikes", "()V"⟩
abbrev cX12_wouldBoth : ByteArray := prog_14_method_43_code
def yX12_wouldBoth : MethodName := ⟨RX12, "wouldBoth", "(II)Z"⟩
abbrev cX12_likesMore : ByteArray := prog_14_method_44_code
def yX12_likesMore : MethodName := ⟨RX12, "likesMore", "(III)Z"⟩
abbrev cX12_takesMore : ByteArray := prog_14_method_45_code
def yX12_takesMore : MethodName := ⟨RX12, "takesMore", "(III)Z"⟩
abbrev cX12_becksIn : ByteArray := prog_14_method_46_code
def yX12_becksIn : MethodName := ⟨RX12, "becksIn", "(I)I"⟩
abbrev cX12_leastOf : ByteArray := prog_14_method_47_code
def yX12_leastOf : MethodName := ⟨RX12, "leastOf", "(II)I"⟩
abbrev cX12_flowOf : ByteArray := prog_14_method_48_code
def yX12_flowOf : MethodName := ⟨RX12, "flowOf", "(I)I"⟩
abbrev cX12_riversOf : ByteArray := prog_14_method_49_code
def yX12_riversOf : MethodName := ⟨RX12, "riversOf", "(I)I"⟩
abbrev cX12_beck : ByteArray := prog_14_method_50_code
def yX12_beck : MethodName := ⟨RX12, "beck", "(II)I"⟩
abbrev cX12_river : ByteArray := prog_14_method_51_code
def yX12_river : MethodName := ⟨RX12, "river", "(II)I"⟩
abbrev cX12_likes : ByteArray := prog_14_method_52_code
def yX12_likes : MethodName := ⟨RX12, "likes", "(II)I"⟩
abbrev cX12_takes : ByteArray := prog_14_method_53_code
def yX12_takes : MethodName := ⟨RX12, "takes", "(II)I"⟩
abbrev cX12_gifts : ByteArray := prog_14_method_54_code
def yX12_gifts : MethodName := ⟨RX12, "gifts", "(II)I"⟩
abbrev cX12_keeps : ByteArray := prog_14_method_55_code
def yX12_keeps : MethodName := ⟨RX12, "keeps", "()V"⟩
abbrev cX12_isAgain : ByteArray := prog_14_method_56_code
def yX12_isAgain : MethodName := ⟨RX12, "isAgain", "()V"⟩
abbrev cX12_notes : ByteArray := prog_14_method_57_code
def yX12_notes : MethodName := ⟨RX12, "notes", "()V"⟩
abbrev cX12_whyDeclare : ByteArray := prog_14_method_58_code
def yX12_whyDeclare : MethodName := ⟨RX12, "whyDeclare", "(JJ)I"⟩
abbrev cX12_whyLeave : ByteArray := prog_14_method_59_code
def yX12_whyLeave : MethodName := ⟨RX12, "whyLeave", "(J)I"⟩
abbrev cX12_whySend : ByteArray := prog_14_method_60_code
def yX12_whySend : MethodName := ⟨RX12, "whySend", "(JJJ)I"⟩
abbrev cX12_pushes : ByteArray := prog_14_method_61_code
def yX12_pushes : MethodName := ⟨RX12, "pushes", "(I)I"⟩
abbrev cX12_declares : ByteArray := prog_14_method_62_code
def yX12_declares : MethodName := ⟨RX12, "declares", "(II)V"⟩
abbrev cX12_declare : ByteArray := prog_14_method_63_code
def yX12_declare : MethodName := ⟨RX12, "declare", "(II)I"⟩
abbrev cX12_leave : ByteArray := prog_14_method_64_code
def yX12_leave : MethodName := ⟨RX12, "leave", "(I)I"⟩
abbrev cX12_send : ByteArray := prog_14_method_65_code
def yX12_send : MethodName := ⟨RX12, "send", "(III)I"⟩
abbrev cX12_rain : ByteArray := prog_14_method_66_code
def yX12_rain : MethodName := ⟨RX12, "rain", "(II)I"⟩
abbrev cX12_room : ByteArray := prog_14_method_67_code
def yX12_room : MethodName := ⟨RX12, "room", "(II)I"⟩
abbrev cX12_undo : ByteArray := prog_14_method_68_code
def yX12_undo : MethodName := ⟨RX12, "undo", "(I)I"⟩
abbrev cX12_whyNot : ByteArray := prog_14_method_69_code
def yX12_whyNot : MethodName := ⟨RX12, "whyNot", "(J)I"⟩
abbrev cX12_does : ByteArray := prog_14_method_70_code
def yX12_does : MethodName := ⟨RX12, "does", "(I)V"⟩
abbrev cX12_tells : ByteArray := prog_14_method_71_code
def yX12_tells : MethodName := ⟨RX12, "tells", "(I)I"⟩
abbrev cX12_noTray : ByteArray := prog_14_method_72_code
def yX12_noTray : MethodName := ⟨RX12, "noTray", "(I)I"⟩
abbrev cX12_floodSet : ByteArray := prog_14_method_73_code
def yX12_floodSet : MethodName := ⟨RX12, "floodSet", "()I"⟩
abbrev cX12_judge : ByteArray := prog_14_method_74_code
def yX12_judge : MethodName := ⟨RX12, "judge", "(II)I"⟩
abbrev cX12_perform : ByteArray := prog_14_method_75_code
def yX12_perform : MethodName := ⟨RX12, "perform", "(I)I"⟩
abbrev cX12_draw : ByteArray := prog_14_method_76_code
def yX12_draw : MethodName := ⟨RX12, "draw", "(I)I"⟩
abbrev cX12_drawn : ByteArray := prog_14_method_77_code
def yX12_drawn : MethodName := ⟨RX12, "drawn", "()I"⟩
abbrev cX12_year : ByteArray := prog_14_method_78_code
def yX12_year : MethodName := ⟨RX12, "year", "(II)I"⟩
abbrev cX12_becksBy : ByteArray := prog_14_method_79_code
def yX12_becksBy : MethodName := ⟨RX12, "becksBy", "(I)I"⟩
abbrev cX12_breaksIt : ByteArray := prog_14_method_80_code
def yX12_breaksIt : MethodName := ⟨RX12, "breaksIt", "(II)Z"⟩
abbrev cX12_fitsRooms : ByteArray := prog_14_method_81_code
def yX12_fitsRooms : MethodName := ⟨RX12, "fitsRooms", "()Z"⟩
abbrev cX12_isWanted : ByteArray := prog_14_method_82_code
def yX12_isWanted : MethodName := ⟨RX12, "isWanted", "()Z"⟩
abbrev cX12_isHeld : ByteArray := prog_14_method_83_code
def yX12_isHeld : MethodName := ⟨RX12, "isHeld", "()Z"⟩
abbrev cX12_laysNow : ByteArray := prog_14_method_84_code
def yX12_laysNow : MethodName := ⟨RX12, "laysNow", "()V"⟩
abbrev cX12_holds : ByteArray := prog_14_method_85_code
def yX12_holds : MethodName := ⟨RX12, "holds", "()I"⟩
abbrev cX12_breaks : ByteArray := prog_14_method_86_code
def yX12_breaks : MethodName := ⟨RX12, "breaks", "()I"⟩
abbrev cX12_breaking : ByteArray := prog_14_method_87_code
def yX12_breaking : MethodName := ⟨RX12, "breaking", "()I"⟩
abbrev cX12_laysChoice : ByteArray := prog_14_method_88_code
def yX12_laysChoice : MethodName := ⟨RX12, "laysChoice", "(I)Z"⟩
abbrev cX12_choicesIn : ByteArray := prog_14_method_89_code
def yX12_choicesIn : MethodName := ⟨RX12, "choicesIn", "()I"⟩
abbrev cX12_laysHeld : ByteArray := prog_14_method_90_code
def yX12_laysHeld : MethodName := ⟨RX12, "laysHeld", "()V"⟩
abbrev cX12_placeIn : ByteArray := prog_14_method_91_code
def yX12_placeIn : MethodName := ⟨RX12, "placeIn", "(II)I"⟩
abbrev cX12_ofHeld : ByteArray := prog_14_method_92_code
def yX12_ofHeld : MethodName := ⟨RX12, "ofHeld", "(IZ)I"⟩
abbrev cX12_forBecks : ByteArray := prog_14_method_93_code
def yX12_forBecks : MethodName := ⟨RX12, "forBecks", "(I)I"⟩
abbrev cX12_forRivers : ByteArray := prog_14_method_94_code
def yX12_forRivers : MethodName := ⟨RX12, "forRivers", "(I)I"⟩
abbrev cX12_choices : ByteArray := prog_14_method_95_code
def yX12_choices : MethodName := ⟨RX12, "choices", "()I"⟩
abbrev cX12_choice : ByteArray := prog_14_method_96_code
def yX12_choice : MethodName := ⟨RX12, "choice", "(I)I"⟩
abbrev cX12_can : ByteArray := prog_14_method_97_code
def yX12_can : MethodName := ⟨RX12, "can", "(I)I"⟩
abbrev cX12_sure : ByteArray := prog_14_method_98_code
def yX12_sure : MethodName := ⟨RX12, "sure", "()I"⟩
abbrev cX12_rankOf : ByteArray := prog_14_method_99_code
def yX12_rankOf : MethodName := ⟨RX12, "rankOf", "(II)I"⟩
abbrev cX12_fairest : ByteArray := prog_14_method_100_code
def yX12_fairest : MethodName := ⟨RX12, "fairest", "()I"⟩
abbrev cX12_fullest : ByteArray := prog_14_method_101_code
def yX12_fullest : MethodName := ⟨RX12, "fullest", "()I"⟩
abbrev cX12_wouldTold : ByteArray := prog_14_method_102_code
def yX12_wouldTold : MethodName := ⟨RX12, "wouldTold", "(II)Z"⟩
abbrev cX12_likesTold : ByteArray := prog_14_method_103_code
def yX12_likesTold : MethodName := ⟨RX12, "likesTold", "(III)Z"⟩
abbrev cX12_begins : ByteArray := prog_14_method_104_code
def yX12_begins : MethodName := ⟨RX12, "begins", "()V"⟩
abbrev cX12_asks1 : ByteArray := prog_14_method_105_code
def yX12_asks1 : MethodName := ⟨RX12, "asks1", "(I)I"⟩
abbrev cX12_laysByRivers : ByteArray := prog_14_method_106_code
def yX12_laysByRivers : MethodName := ⟨RX12, "laysByRivers", "()V"⟩
abbrev cX12_asksRiver : ByteArray := prog_14_method_107_code
def yX12_asksRiver : MethodName := ⟨RX12, "asksRiver", "(I)I"⟩
abbrev cX12_laysByBecks : ByteArray := prog_14_method_108_code
def yX12_laysByBecks : MethodName := ⟨RX12, "laysByBecks", "(I)V"⟩
abbrev cX12_laysLie : ByteArray := prog_14_method_109_code
def yX12_laysLie : MethodName := ⟨RX12, "laysLie", "(I)Z"⟩
abbrev cX12_laysGains : ByteArray := prog_14_method_110_code
def yX12_laysGains : MethodName := ⟨RX12, "laysGains", "(I)V"⟩
abbrev cX12_gains : ByteArray := prog_14_method_111_code
def yX12_gains : MethodName := ⟨RX12, "gains", "(I)I"⟩
abbrev cX12_lie : ByteArray := prog_14_method_112_code
def yX12_lie : MethodName := ⟨RX12, "lie", "(I)I"⟩
abbrev cX12_liars : ByteArray := prog_14_method_113_code
def yX12_liars : MethodName := ⟨RX12, "liars", "()I"⟩
abbrev cX12_goesGifts : ByteArray := prog_14_method_114_code
def yX12_goesGifts : MethodName := ⟨RX12, "goesGifts", "(IIII)Z"⟩
abbrev cX12_woos : ByteArray := prog_14_method_115_code
def yX12_woos : MethodName := ⟨RX12, "woos", "(III)I"⟩
abbrev cX12_floods : ByteArray := prog_14_method_116_code
def yX12_floods : MethodName := ⟨RX12, "floods", "()I"⟩
abbrev cX12_turnOff : ByteArray := prog_14_method_117_code
def yX12_turnOff : MethodName := ⟨RX12, "turnOff", "(I)I"⟩
abbrev cX12_bearing : ByteArray := prog_14_method_118_code
def yX12_bearing : MethodName := ⟨RX12, "bearing", "(I)I"⟩
abbrev cX12_noAnswers : ByteArray := prog_14_method_119_code
def yX12_noAnswers : MethodName := ⟨RX12, "noAnswers", "(II)I"⟩
abbrev cX12_marksOf : ByteArray := prog_14_method_120_code
def yX12_marksOf : MethodName := ⟨RX12, "marksOf", "(II)I"⟩
abbrev cX12_marks : ByteArray := prog_14_method_121_code
def yX12_marks : MethodName := ⟨RX12, "marks", "(II)I"⟩
abbrev cX12_ask : ByteArray := prog_14_method_122_code
def yX12_ask : MethodName := ⟨RX12, "ask", "(II)I"⟩
abbrev cX12_marksIn : ByteArray := prog_14_method_123_code
def yX12_marksIn : MethodName := ⟨RX12, "marksIn", "(I)I"⟩
abbrev cX12_common : ByteArray := prog_14_method_124_code
def yX12_common : MethodName := ⟨RX12, "common", "(II)I"⟩
abbrev cX12_wholeOf : ByteArray := prog_14_method_125_code
def yX12_wholeOf : MethodName := ⟨RX12, "wholeOf", "()I"⟩
abbrev cX12_likelyDry : ByteArray := prog_14_method_126_code
def yX12_likelyDry : MethodName := ⟨RX12, "likelyDry", "(I)I"⟩
abbrev cX12_part : ByteArray := prog_14_method_127_code
def yX12_part : MethodName := ⟨RX12, "part", "(II)I"⟩
abbrev cX12_flooding : ByteArray := prog_14_method_128_code
def yX12_flooding : MethodName := ⟨RX12, "flooding", "(II)I"⟩
abbrev cX12_staying : ByteArray := prog_14_method_129_code
def yX12_staying : MethodName := ⟨RX12, "staying", "(II)I"⟩
abbrev cX12_cut : ByteArray := prog_14_method_130_code
def yX12_cut : MethodName := ⟨RX12, "cut", "(JI)J"⟩
abbrev cX12_numbers : ByteArray := prog_14_method_131_code
def yX12_numbers : MethodName := ⟨RX12, "numbers", "(III)I"⟩
abbrev cX12_write : ByteArray := prog_14_method_132_code
def yX12_write : MethodName := ⟨RX12, "write", "(IIJ)J"⟩
abbrev cX12_lists : ByteArray := prog_14_method_133_code
def yX12_lists : MethodName := ⟨RX12, "lists", "(II)I"⟩
abbrev cX12_image : ByteArray := prog_14_method_134_code
def yX12_image : MethodName := ⟨RX12, "image", "(I)I"⟩
abbrev cX12_restore : ByteArray := prog_14_method_135_code
def yX12_restore : MethodName := ⟨RX12, "restore", "(I)I"⟩
abbrev cX12_sumOf : ByteArray := prog_14_method_136_code
def yX12_sumOf : MethodName := ⟨RX12, "sumOf", "(II)I"⟩
abbrev cX12_count : ByteArray := prog_14_method_137_code
def yX12_count : MethodName := ⟨RX12, "count", "(I)I"⟩
abbrev vwCl : List vw_C := [(RX0, TX0, 14), (RX1, TX1, 2), (RX2, TX2, 4), (RX3, TX3, 4), (RX4, TX4, 2), (RX5, TX5, 8), (RX6, TX6, 7), (RX7, TX7, 14), (RX8, TX8, 8), (RX9, TX9, 3), (RX10, TX10, 11), (RX11, TX11, 19), (RX12, TX12, 35)]
