section
-- ===== PART A: goes FIRST, ahead of the names: the tables' words, and 'selects' of the private methods out of them =====
/-- a private method of a class that the tables say can be made, by its rows of tables_1 -/
def lw_okq (q : MethodName × Nat) : Prop := (q.1.cls ≠ "java/lang/invoke/MethodHandle" ∧ q.1.cls ≠ "java/lang/invoke/VarHandle") ∧ Cond.instantiable q.1.cls q.2 ∈ tables_1 ∧ Cond.privateMethod q.1 ∈ tables_1 ∧ Cond.instanceMethod q.1 ∈ tables_1
theorem lw_p0 : lw_okq (⟨"LettersThatPass", "refuse", "(I)I"⟩, 16) := ⟨⟨by decide +kernel, by decide +kernel⟩, List.mem_of_getElem? (i := 15) (by decide +kernel), List.mem_of_getElem? (i := 275) (by decide +kernel), List.mem_of_getElem? (i := 276) (by decide +kernel)⟩
theorem lw_p1 : lw_okq (⟨"LettersThatPass$Parser", "takeSign", "(I)Z"⟩, 4) := ⟨⟨by decide +kernel, by decide +kernel⟩, List.mem_of_getElem? (i := 91) (by decide +kernel), List.mem_of_getElem? (i := 380) (by decide +kernel), List.mem_of_getElem? (i := 381) (by decide +kernel)⟩
theorem lw_p2 : lw_okq (⟨"LettersThatPass$Parser", "takeTimes", "(I)Z"⟩, 4) := ⟨⟨by decide +kernel, by decide +kernel⟩, List.mem_of_getElem? (i := 91) (by decide +kernel), List.mem_of_getElem? (i := 385) (by decide +kernel), List.mem_of_getElem? (i := 386) (by decide +kernel)⟩
theorem lw_p3 : lw_okq (⟨"LettersThatPass$Parser", "takeOpening", "()Z"⟩, 4) := ⟨⟨by decide +kernel, by decide +kernel⟩, List.mem_of_getElem? (i := 91) (by decide +kernel), List.mem_of_getElem? (i := 402) (by decide +kernel), List.mem_of_getElem? (i := 403) (by decide +kernel)⟩
theorem lw_p4 : lw_okq (⟨"LettersThatPass$Parser", "takeClosing", "()Z"⟩, 4) := ⟨⟨by decide +kernel, by decide +kernel⟩, List.mem_of_getElem? (i := 91) (by decide +kernel), List.mem_of_getElem? (i := 406) (by decide +kernel), List.mem_of_getElem? (i := 407) (by decide +kernel)⟩
theorem lw_p5 : lw_okq (⟨"LettersThatPass", "noWord", "(I)Z"⟩, 16) := ⟨⟨by decide +kernel, by decide +kernel⟩, List.mem_of_getElem? (i := 15) (by decide +kernel), List.mem_of_getElem? (i := 433) (by decide +kernel), List.mem_of_getElem? (i := 434) (by decide +kernel)⟩
theorem lw_p6 : lw_okq (⟨"LettersThatPass$Bench", "turnToBeTaken", "(LLettersThatPass$Row;IZ)I"⟩, 4) := ⟨⟨by decide +kernel, by decide +kernel⟩, List.mem_of_getElem? (i := 131) (by decide +kernel), List.mem_of_getElem? (i := 473) (by decide +kernel), List.mem_of_getElem? (i := 474) (by decide +kernel)⟩
theorem lw_p7 : lw_okq (⟨"LettersThatPass", "refuseFar", "(I)J"⟩, 16) := ⟨⟨by decide +kernel, by decide +kernel⟩, List.mem_of_getElem? (i := 15) (by decide +kernel), List.mem_of_getElem? (i := 524) (by decide +kernel), List.mem_of_getElem? (i := 525) (by decide +kernel)⟩
theorem lw_p8 : lw_okq (⟨"LettersThatPass$Tally", "prepare", "(LLettersThatPass$Row;LLettersThatPass$Laws;)I"⟩, 7) := ⟨⟨by decide +kernel, by decide +kernel⟩, List.mem_of_getElem? (i := 152) (by decide +kernel), List.mem_of_getElem? (i := 534) (by decide +kernel), List.mem_of_getElem? (i := 535) (by decide +kernel)⟩
theorem lw_p9 : lw_okq (⟨"LettersThatPass$Tally", "goOn", "(II)V"⟩, 7) := ⟨⟨by decide +kernel, by decide +kernel⟩, List.mem_of_getElem? (i := 152) (by decide +kernel), List.mem_of_getElem? (i := 547) (by decide +kernel), List.mem_of_getElem? (i := 548) (by decide +kernel)⟩
theorem lw_p10 : lw_okq (⟨"LettersThatPass$Bench", "isPower", "(LLettersThatPass$Row;ILLettersThatPass$Row;)Z"⟩, 4) := ⟨⟨by decide +kernel, by decide +kernel⟩, List.mem_of_getElem? (i := 131) (by decide +kernel), List.mem_of_getElem? (i := 634) (by decide +kernel), List.mem_of_getElem? (i := 635) (by decide +kernel)⟩
theorem lw_p11 : lw_okq (⟨"LettersThatPass", "tooLongToTurn", "(I)Z"⟩, 16) := ⟨⟨by decide +kernel, by decide +kernel⟩, List.mem_of_getElem? (i := 15) (by decide +kernel), List.mem_of_getElem? (i := 667) (by decide +kernel), List.mem_of_getElem? (i := 668) (by decide +kernel)⟩
theorem lw_p12 : lw_okq (⟨"LettersThatPass$Turner", "note", "(II)V"⟩, 10) := ⟨⟨by decide +kernel, by decide +kernel⟩, List.mem_of_getElem? (i := 181) (by decide +kernel), List.mem_of_getElem? (i := 686) (by decide +kernel), List.mem_of_getElem? (i := 687) (by decide +kernel)⟩
theorem lw_p13 : lw_okq (⟨"LettersThatPass$Turner", "find", "(I)I"⟩, 10) := ⟨⟨by decide +kernel, by decide +kernel⟩, List.mem_of_getElem? (i := 181) (by decide +kernel), List.mem_of_getElem? (i := 690) (by decide +kernel), List.mem_of_getElem? (i := 691) (by decide +kernel)⟩
theorem lw_p14 : lw_okq (⟨"LettersThatPass$Turner", "moveAll", "(I)V"⟩, 10) := ⟨⟨by decide +kernel, by decide +kernel⟩, List.mem_of_getElem? (i := 181) (by decide +kernel), List.mem_of_getElem? (i := 694) (by decide +kernel), List.mem_of_getElem? (i := 695) (by decide +kernel)⟩
theorem lw_p15 : lw_okq (⟨"LettersThatPass$Turner", "decode", "(I)V"⟩, 10) := ⟨⟨by decide +kernel, by decide +kernel⟩, List.mem_of_getElem? (i := 181) (by decide +kernel), List.mem_of_getElem? (i := 698) (by decide +kernel), List.mem_of_getElem? (i := 699) (by decide +kernel)⟩
def lw_privs_1 : List (MethodName × Nat) := [(⟨"LettersThatPass", "refuse", "(I)I"⟩, 16), (⟨"LettersThatPass$Parser", "takeSign", "(I)Z"⟩, 4), (⟨"LettersThatPass$Parser", "takeTimes", "(I)Z"⟩, 4), (⟨"LettersThatPass$Parser", "takeOpening", "()Z"⟩, 4), (⟨"LettersThatPass$Parser", "takeClosing", "()Z"⟩, 4), (⟨"LettersThatPass", "noWord", "(I)Z"⟩, 16), (⟨"LettersThatPass$Bench", "turnToBeTaken", "(LLettersThatPass$Row;IZ)I"⟩, 4), (⟨"LettersThatPass", "refuseFar", "(I)J"⟩, 16), (⟨"LettersThatPass$Tally", "prepare", "(LLettersThatPass$Row;LLettersThatPass$Laws;)I"⟩, 7), (⟨"LettersThatPass$Tally", "goOn", "(II)V"⟩, 7), (⟨"LettersThatPass$Bench", "isPower", "(LLettersThatPass$Row;ILLettersThatPass$Row;)Z"⟩, 4), (⟨"LettersThatPass", "tooLongToTurn", "(I)Z"⟩, 16), (⟨"LettersThatPass$Turner", "note", "(II)V"⟩, 10), (⟨"LettersThatPass$Turner", "find", "(I)I"⟩, 10), (⟨"LettersThatPass$Turner", "moveAll", "(I)V"⟩, 10), (⟨"LettersThatPass$Turner", "decode", "(I)V"⟩, 10)]
theorem lw_r1 : ∀ q ∈ lw_privs_1, lw_okq q := List.forall_mem_cons.mpr ⟨lw_p0, List.forall_mem_cons.mpr ⟨lw_p1, List.forall_mem_cons.mpr ⟨lw_p2, List.forall_mem_cons.mpr ⟨lw_p3, List.forall_mem_cons.mpr ⟨lw_p4, List.forall_mem_cons.mpr ⟨lw_p5, List.forall_mem_cons.mpr ⟨lw_p6, List.forall_mem_cons.mpr ⟨lw_p7, List.forall_mem_cons.mpr ⟨lw_p8, List.forall_mem_cons.mpr ⟨lw_p9, List.forall_mem_cons.mpr ⟨lw_p10, List.forall_mem_cons.mpr ⟨lw_p11, List.forall_mem_cons.mpr ⟨lw_p12, List.forall_mem_cons.mpr ⟨lw_p13, List.forall_mem_cons.mpr ⟨lw_p14, List.forall_mem_cons.mpr ⟨lw_p15, fun _ h => absurd h List.not_mem_nil⟩⟩⟩⟩⟩⟩⟩⟩⟩⟩⟩⟩⟩⟩⟩⟩
theorem lw_p16 : lw_okq (⟨"LettersThatPass$Turner", "sortCodes", "()V"⟩, 10) := ⟨⟨by decide +kernel, by decide +kernel⟩, List.mem_of_getElem? (i := 181) (by decide +kernel), List.mem_of_getElem? (i := 707) (by decide +kernel), List.mem_of_getElem? (i := 708) (by decide +kernel)⟩
theorem lw_p17 : lw_okq (⟨"LettersThatPassModel", "no", "(I)I"⟩, 36) := ⟨⟨by decide +kernel, by decide +kernel⟩, List.mem_of_getElem? (i := 879) (by decide +kernel), List.mem_of_getElem? (i := 998) (by decide +kernel), List.mem_of_getElem? (i := 999) (by decide +kernel)⟩
theorem lw_p18 : lw_okq (⟨"LettersThatPassModel", "remembers", "()V"⟩, 36) := ⟨⟨by decide +kernel, by decide +kernel⟩, List.mem_of_getElem? (i := 879) (by decide +kernel), List.mem_of_getElem? (i := 1015) (by decide +kernel), List.mem_of_getElem? (i := 1016) (by decide +kernel)⟩
theorem lw_p19 : lw_okq (⟨"LettersThatPassModel", "turns", "(II)V"⟩, 36) := ⟨⟨by decide +kernel, by decide +kernel⟩, List.mem_of_getElem? (i := 879) (by decide +kernel), List.mem_of_getElem? (i := 1019) (by decide +kernel), List.mem_of_getElem? (i := 1020) (by decide +kernel)⟩
theorem lw_p20 : lw_okq (⟨"LettersThatPassModel", "passes_", "(II)Z"⟩, 36) := ⟨⟨by decide +kernel, by decide +kernel⟩, List.mem_of_getElem? (i := 879) (by decide +kernel), List.mem_of_getElem? (i := 1023) (by decide +kernel), List.mem_of_getElem? (i := 1024) (by decide +kernel)⟩
theorem lw_p21 : lw_okq (⟨"LettersThatPassModel", "swaps", "(II)V"⟩, 36) := ⟨⟨by decide +kernel, by decide +kernel⟩, List.mem_of_getElem? (i := 879) (by decide +kernel), List.mem_of_getElem? (i := 1031) (by decide +kernel), List.mem_of_getElem? (i := 1032) (by decide +kernel)⟩
theorem lw_p22 : lw_okq (⟨"LettersThatPassModel", "rule", "(I)V"⟩, 36) := ⟨⟨by decide +kernel, by decide +kernel⟩, List.mem_of_getElem? (i := 879) (by decide +kernel), List.mem_of_getElem? (i := 1043) (by decide +kernel), List.mem_of_getElem? (i := 1044) (by decide +kernel)⟩
theorem lw_p23 : lw_okq (⟨"LettersThatPassModel", "here", "()I"⟩, 36) := ⟨⟨by decide +kernel, by decide +kernel⟩, List.mem_of_getElem? (i := 879) (by decide +kernel), List.mem_of_getElem? (i := 1047) (by decide +kernel), List.mem_of_getElem? (i := 1048) (by decide +kernel)⟩
theorem lw_p24 : lw_okq (⟨"LettersThatPassModel", "isSign", "()Z"⟩, 36) := ⟨⟨by decide +kernel, by decide +kernel⟩, List.mem_of_getElem? (i := 879) (by decide +kernel), List.mem_of_getElem? (i := 1051) (by decide +kernel), List.mem_of_getElem? (i := 1052) (by decide +kernel)⟩
theorem lw_p25 : lw_okq (⟨"LettersThatPassModel", "fails", "()V"⟩, 36) := ⟨⟨by decide +kernel, by decide +kernel⟩, List.mem_of_getElem? (i := 879) (by decide +kernel), List.mem_of_getElem? (i := 1055) (by decide +kernel), List.mem_of_getElem? (i := 1056) (by decide +kernel)⟩
theorem lw_p26 : lw_okq (⟨"LettersThatPassModel", "reads", "(I)V"⟩, 36) := ⟨⟨by decide +kernel, by decide +kernel⟩, List.mem_of_getElem? (i := 879) (by decide +kernel), List.mem_of_getElem? (i := 1063) (by decide +kernel), List.mem_of_getElem? (i := 1064) (by decide +kernel)⟩
theorem lw_p27 : lw_okq (⟨"LettersThatPassModel", "makes", "(I)V"⟩, 36) := ⟨⟨by decide +kernel, by decide +kernel⟩, List.mem_of_getElem? (i := 879) (by decide +kernel), List.mem_of_getElem? (i := 1067) (by decide +kernel), List.mem_of_getElem? (i := 1068) (by decide +kernel)⟩
theorem lw_p28 : lw_okq (⟨"LettersThatPassModel", "times", "(I)V"⟩, 36) := ⟨⟨by decide +kernel, by decide +kernel⟩, List.mem_of_getElem? (i := 879) (by decide +kernel), List.mem_of_getElem? (i := 1071) (by decide +kernel), List.mem_of_getElem? (i := 1072) (by decide +kernel)⟩
theorem lw_p29 : lw_okq (⟨"LettersThatPassModel", "comes", "([II)I"⟩, 36) := ⟨⟨by decide +kernel, by decide +kernel⟩, List.mem_of_getElem? (i := 879) (by decide +kernel), List.mem_of_getElem? (i := 1075) (by decide +kernel), List.mem_of_getElem? (i := 1076) (by decide +kernel)⟩
theorem lw_p30 : lw_okq (⟨"LettersThatPassModel", "isWord", "(I)Z"⟩, 36) := ⟨⟨by decide +kernel, by decide +kernel⟩, List.mem_of_getElem? (i := 879) (by decide +kernel), List.mem_of_getElem? (i := 1083) (by decide +kernel), List.mem_of_getElem? (i := 1084) (by decide +kernel)⟩
theorem lw_p31 : lw_okq (⟨"LettersThatPassModel", "loads", "([III)I"⟩, 36) := ⟨⟨by decide +kernel, by decide +kernel⟩, List.mem_of_getElem? (i := 879) (by decide +kernel), List.mem_of_getElem? (i := 1095) (by decide +kernel), List.mem_of_getElem? (i := 1096) (by decide +kernel)⟩
def lw_privs_2 : List (MethodName × Nat) := [(⟨"LettersThatPass$Turner", "sortCodes", "()V"⟩, 10), (⟨"LettersThatPassModel", "no", "(I)I"⟩, 36), (⟨"LettersThatPassModel", "remembers", "()V"⟩, 36), (⟨"LettersThatPassModel", "turns", "(II)V"⟩, 36), (⟨"LettersThatPassModel", "passes_", "(II)Z"⟩, 36), (⟨"LettersThatPassModel", "swaps", "(II)V"⟩, 36), (⟨"LettersThatPassModel", "rule", "(I)V"⟩, 36), (⟨"LettersThatPassModel", "here", "()I"⟩, 36), (⟨"LettersThatPassModel", "isSign", "()Z"⟩, 36), (⟨"LettersThatPassModel", "fails", "()V"⟩, 36), (⟨"LettersThatPassModel", "reads", "(I)V"⟩, 36), (⟨"LettersThatPassModel", "makes", "(I)V"⟩, 36), (⟨"LettersThatPassModel", "times", "(I)V"⟩, 36), (⟨"LettersThatPassModel", "comes", "([II)I"⟩, 36), (⟨"LettersThatPassModel", "isWord", "(I)Z"⟩, 36), (⟨"LettersThatPassModel", "loads", "([III)I"⟩, 36)]
theorem lw_r2 : ∀ q ∈ lw_privs_2, lw_okq q := List.forall_mem_cons.mpr ⟨lw_p16, List.forall_mem_cons.mpr ⟨lw_p17, List.forall_mem_cons.mpr ⟨lw_p18, List.forall_mem_cons.mpr ⟨lw_p19, List.forall_mem_cons.mpr ⟨lw_p20, List.forall_mem_cons.mpr ⟨lw_p21, List.forall_mem_cons.mpr ⟨lw_p22, List.forall_mem_cons.mpr ⟨lw_p23, List.forall_mem_cons.mpr ⟨lw_p24, List.forall_mem_cons.mpr ⟨lw_p25, List.forall_mem_cons.mpr ⟨lw_p26, List.forall_mem_cons.mpr ⟨lw_p27, List.forall_mem_cons.mpr ⟨lw_p28, List.forall_mem_cons.mpr ⟨lw_p29, List.forall_mem_cons.mpr ⟨lw_p30, List.forall_mem_cons.mpr ⟨lw_p31, fun _ h => absurd h List.not_mem_nil⟩⟩⟩⟩⟩⟩⟩⟩⟩⟩⟩⟩⟩⟩⟩⟩
theorem lw_p32 : lw_okq (⟨"LettersThatPassModel", "areAlike", "([I[II)Z"⟩, 36) := ⟨⟨by decide +kernel, by decide +kernel⟩, List.mem_of_getElem? (i := 879) (by decide +kernel), List.mem_of_getElem? (i := 1099) (by decide +kernel), List.mem_of_getElem? (i := 1100) (by decide +kernel)⟩
theorem lw_p33 : lw_okq (⟨"LettersThatPassModel", "takes", "([II[IZ)V"⟩, 36) := ⟨⟨by decide +kernel, by decide +kernel⟩, List.mem_of_getElem? (i := 879) (by decide +kernel), List.mem_of_getElem? (i := 1103) (by decide +kernel), List.mem_of_getElem? (i := 1104) (by decide +kernel)⟩
theorem lw_p34 : lw_okq (⟨"LettersThatPassModel", "isReady", "([II)Z"⟩, 36) := ⟨⟨by decide +kernel, by decide +kernel⟩, List.mem_of_getElem? (i := 879) (by decide +kernel), List.mem_of_getElem? (i := 1107) (by decide +kernel), List.mem_of_getElem? (i := 1108) (by decide +kernel)⟩
theorem lw_p35 : lw_okq (⟨"LettersThatPassModel", "block", "(I)I"⟩, 36) := ⟨⟨by decide +kernel, by decide +kernel⟩, List.mem_of_getElem? (i := 879) (by decide +kernel), List.mem_of_getElem? (i := 1118) (by decide +kernel), List.mem_of_getElem? (i := 1119) (by decide +kernel)⟩
theorem lw_p36 : lw_okq (⟨"LettersThatPassModel", "noLong", "(I)J"⟩, 36) := ⟨⟨by decide +kernel, by decide +kernel⟩, List.mem_of_getElem? (i := 879) (by decide +kernel), List.mem_of_getElem? (i := 1130) (by decide +kernel), List.mem_of_getElem? (i := 1131) (by decide +kernel)⟩
theorem lw_p37 : lw_okq (⟨"LettersThatPassModel", "orders", "(I)V"⟩, 36) := ⟨⟨by decide +kernel, by decide +kernel⟩, List.mem_of_getElem? (i := 879) (by decide +kernel), List.mem_of_getElem? (i := 1135) (by decide +kernel), List.mem_of_getElem? (i := 1136) (by decide +kernel)⟩
theorem lw_p38 : lw_okq (⟨"LettersThatPassModel", "placeOf", "([III)I"⟩, 36) := ⟨⟨by decide +kernel, by decide +kernel⟩, List.mem_of_getElem? (i := 879) (by decide +kernel), List.mem_of_getElem? (i := 1158) (by decide +kernel), List.mem_of_getElem? (i := 1159) (by decide +kernel)⟩
theorem lw_p39 : lw_okq (⟨"LettersThatPassModel", "rootBy", "(II)I"⟩, 36) := ⟨⟨by decide +kernel, by decide +kernel⟩, List.mem_of_getElem? (i := 879) (by decide +kernel), List.mem_of_getElem? (i := 1183) (by decide +kernel), List.mem_of_getElem? (i := 1184) (by decide +kernel)⟩
theorem lw_p40 : lw_okq (⟨"LettersThatPassModel", "isRoot", "(III)Z"⟩, 36) := ⟨⟨by decide +kernel, by decide +kernel⟩, List.mem_of_getElem? (i := 879) (by decide +kernel), List.mem_of_getElem? (i := 1187) (by decide +kernel), List.mem_of_getElem? (i := 1188) (by decide +kernel)⟩
theorem lw_p41 : lw_okq (⟨"LettersThatPassModel", "stands", "(I)I"⟩, 36) := ⟨⟨by decide +kernel, by decide +kernel⟩, List.mem_of_getElem? (i := 879) (by decide +kernel), List.mem_of_getElem? (i := 1195) (by decide +kernel), List.mem_of_getElem? (i := 1196) (by decide +kernel)⟩
theorem lw_p42 : lw_okq (⟨"LettersThatPassModel", "partOf", "(II)I"⟩, 36) := ⟨⟨by decide +kernel, by decide +kernel⟩, List.mem_of_getElem? (i := 879) (by decide +kernel), List.mem_of_getElem? (i := 1199) (by decide +kernel), List.mem_of_getElem? (i := 1200) (by decide +kernel)⟩
theorem lw_p43 : lw_okq (⟨"LettersThatPassModel", "turnsAll", "(I)V"⟩, 36) := ⟨⟨by decide +kernel, by decide +kernel⟩, List.mem_of_getElem? (i := 879) (by decide +kernel), List.mem_of_getElem? (i := 1207) (by decide +kernel), List.mem_of_getElem? (i := 1208) (by decide +kernel)⟩
theorem lw_p44 : lw_okq (⟨"LettersThatPassModel", "numberOf", "([II)I"⟩, 36) := ⟨⟨by decide +kernel, by decide +kernel⟩, List.mem_of_getElem? (i := 879) (by decide +kernel), List.mem_of_getElem? (i := 1211) (by decide +kernel), List.mem_of_getElem? (i := 1212) (by decide +kernel)⟩
theorem lw_p45 : lw_okq (⟨"LettersThatPassModel", "finds", "(II)V"⟩, 36) := ⟨⟨by decide +kernel, by decide +kernel⟩, List.mem_of_getElem? (i := 879) (by decide +kernel), List.mem_of_getElem? (i := 1215) (by decide +kernel), List.mem_of_getElem? (i := 1216) (by decide +kernel)⟩
theorem lw_p46 : lw_okq (⟨"LettersThatPassModel", "lays_", "(I[II)V"⟩, 36) := ⟨⟨by decide +kernel, by decide +kernel⟩, List.mem_of_getElem? (i := 879) (by decide +kernel), List.mem_of_getElem? (i := 1219) (by decide +kernel), List.mem_of_getElem? (i := 1220) (by decide +kernel)⟩
theorem lw_p47 : lw_okq (⟨"LettersThatPassModel", "isFree", "(I)Z"⟩, 36) := ⟨⟨by decide +kernel, by decide +kernel⟩, List.mem_of_getElem? (i := 879) (by decide +kernel), List.mem_of_getElem? (i := 1235) (by decide +kernel), List.mem_of_getElem? (i := 1236) (by decide +kernel)⟩
def lw_privs_3 : List (MethodName × Nat) := [(⟨"LettersThatPassModel", "areAlike", "([I[II)Z"⟩, 36), (⟨"LettersThatPassModel", "takes", "([II[IZ)V"⟩, 36), (⟨"LettersThatPassModel", "isReady", "([II)Z"⟩, 36), (⟨"LettersThatPassModel", "block", "(I)I"⟩, 36), (⟨"LettersThatPassModel", "noLong", "(I)J"⟩, 36), (⟨"LettersThatPassModel", "orders", "(I)V"⟩, 36), (⟨"LettersThatPassModel", "placeOf", "([III)I"⟩, 36), (⟨"LettersThatPassModel", "rootBy", "(II)I"⟩, 36), (⟨"LettersThatPassModel", "isRoot", "(III)Z"⟩, 36), (⟨"LettersThatPassModel", "stands", "(I)I"⟩, 36), (⟨"LettersThatPassModel", "partOf", "(II)I"⟩, 36), (⟨"LettersThatPassModel", "turnsAll", "(I)V"⟩, 36), (⟨"LettersThatPassModel", "numberOf", "([II)I"⟩, 36), (⟨"LettersThatPassModel", "finds", "(II)V"⟩, 36), (⟨"LettersThatPassModel", "lays_", "(I[II)V"⟩, 36), (⟨"LettersThatPassModel", "isFree", "(I)Z"⟩, 36)]
theorem lw_r3 : ∀ q ∈ lw_privs_3, lw_okq q := List.forall_mem_cons.mpr ⟨lw_p32, List.forall_mem_cons.mpr ⟨lw_p33, List.forall_mem_cons.mpr ⟨lw_p34, List.forall_mem_cons.mpr ⟨lw_p35, List.forall_mem_cons.mpr ⟨lw_p36, List.forall_mem_cons.mpr ⟨lw_p37, List.forall_mem_cons.mpr ⟨lw_p38, List.forall_mem_cons.mpr ⟨lw_p39, List.forall_mem_cons.mpr ⟨lw_p40, List.forall_mem_cons.mpr ⟨lw_p41, List.forall_mem_cons.mpr ⟨lw_p42, List.forall_mem_cons.mpr ⟨lw_p43, List.forall_mem_cons.mpr ⟨lw_p44, List.forall_mem_cons.mpr ⟨lw_p45, List.forall_mem_cons.mpr ⟨lw_p46, List.forall_mem_cons.mpr ⟨lw_p47, fun _ h => absurd h List.not_mem_nil⟩⟩⟩⟩⟩⟩⟩⟩⟩⟩⟩⟩⟩⟩⟩⟩
theorem lw_p48 : lw_okq (⟨"LettersThatPassModel", "areThere", "(III)Z"⟩, 36) := ⟨⟨by decide +kernel, by decide +kernel⟩, List.mem_of_getElem? (i := 879) (by decide +kernel), List.mem_of_getElem? (i := 1271) (by decide +kernel), List.mem_of_getElem? (i := 1272) (by decide +kernel)⟩
def lw_privs_4 : List (MethodName × Nat) := [(⟨"LettersThatPassModel", "areThere", "(III)Z"⟩, 36)]
theorem lw_r4 : ∀ q ∈ lw_privs_4, lw_okq q := List.forall_mem_cons.mpr ⟨lw_p48, fun _ h => absurd h List.not_mem_nil⟩
def lw_privs : List (MethodName × Nat) := lw_privs_1 ++ (lw_privs_2 ++ (lw_privs_3 ++ (lw_privs_4)))
def lw_tbl : List Cond := k2_sels lw_privs ++ tables_1
theorem lw_privs_ok : ∀ q ∈ lw_privs, lw_okq q := by
  show ∀ q ∈ lw_privs_1 ++ (lw_privs_2 ++ (lw_privs_3 ++ (lw_privs_4))), lw_okq q
  exact List.forall_mem_append.mpr ⟨lw_r1, List.forall_mem_append.mpr ⟨lw_r2, List.forall_mem_append.mpr ⟨lw_r3, lw_r4⟩⟩⟩
end
section
def RX0 : String := "LettersThatPass$Bench"
def TX0 : u_T := fun k => match k with
  | 0 => ("LettersThatPass$Bench", "laws", "LLettersThatPass$Laws;", true)
  | 1 => ("LettersThatPass$Bench", "rest", "LLettersThatPass$Row;", true)
  | 2 => ("LettersThatPass$Bench", "left", "LLettersThatPass$Row;", true)
  | _ => ("LettersThatPass$Bench", "right", "LLettersThatPass$Row;", true)
def tyX0 : Nat → FieldType := fun k => match k with
  | 0 => .object "LettersThatPass$Laws"
  | 1 => .object "LettersThatPass$Row"
  | 2 => .object "LettersThatPass$Row"
  | _ => .object "LettersThatPass$Row"
abbrev wsX00 : List Cond := u_ws RX0 TX0 4
theorem nmX0 : ∀ a, a < 4 → ∀ b, b < 4 → a ≠ b → (TX0 a).2.1 ≠ (TX0 b).2.1 := by decide +kernel
theorem tyX0_ok : ∀ k, k < 4 → parseFieldDescriptor (TX0 k).2.2.1 = some (tyX0 k) := by decide +kernel
abbrev cX0_init : ByteArray := prog_2_method_1_code
def yX0_init : MethodName := ⟨RX0, "<init>", "(LLettersThatPass$Laws;)V"⟩
abbrev cX0_arrange : ByteArray := prog_2_method_2_code
def yX0_arrange : MethodName := ⟨RX0, "arrange", "(LLettersThatPass$Row;ZLLettersThatPass$Row;)V"⟩
abbrev cX0_turnToBeTaken : ByteArray := prog_2_method_3_code
def yX0_turnToBeTaken : MethodName := ⟨RX0, "turnToBeTaken", "(LLettersThatPass$Row;IZ)I"⟩
abbrev cX0_sameKind : ByteArray := prog_2_method_4_code
def yX0_sameKind : MethodName := ⟨RX0, "sameKind", "(LLettersThatPass$Row;LLettersThatPass$Row;)Z"⟩
abbrev cX0_layBlocks : ByteArray := prog_2_method_5_code
def yX0_layBlocks : MethodName := ⟨RX0, "layBlocks", "(LLettersThatPass$Row;LLettersThatPass$Row;)V"⟩
abbrev cX0_takeBeginning : ByteArray := prog_2_method_6_code
def yX0_takeBeginning : MethodName := ⟨RX0, "takeBeginning", "(LLettersThatPass$Row;LLettersThatPass$Row;LLettersThatPass$Row;)Z"⟩
abbrev cX0_takeCommon : ByteArray := prog_2_method_7_code
def yX0_takeCommon : MethodName := ⟨RX0, "takeCommon", "(LLettersThatPass$Row;LLettersThatPass$Row;LLettersThatPass$Row;)V"⟩
abbrev cX0_takeRoot : ByteArray := prog_2_method_8_code
def yX0_takeRoot : MethodName := ⟨RX0, "takeRoot", "(LLettersThatPass$Row;LLettersThatPass$Row;)I"⟩
abbrev cX0_isPower : ByteArray := prog_2_method_9_code
def yX0_isPower : MethodName := ⟨RX0, "isPower", "(LLettersThatPass$Row;ILLettersThatPass$Row;)Z"⟩
abbrev cX0_takeShare : ByteArray := prog_2_method_10_code
def yX0_takeShare : MethodName := ⟨RX0, "takeShare", "(LLettersThatPass$Row;ILLettersThatPass$Row;)V"⟩
def RX1 : String := "LettersThatPass$History"
def TX1 : u_T := fun k => match k with
  | 0 => ("LettersThatPass$History", "earlier", "[LLettersThatPass$Laws;", true)
  | 1 => ("LettersThatPass$History", "used", "I", false)
  | _ => ("LettersThatPass$History", "next", "I", false)
def tyX1 : Nat → FieldType := fun k => match k with
  | 0 => .array (.object "LettersThatPass$Laws")
  | 1 => .int
  | _ => .int
abbrev wsX10 : List Cond := u_ws RX1 TX1 3
theorem nmX1 : ∀ a, a < 3 → ∀ b, b < 3 → a ≠ b → (TX1 a).2.1 ≠ (TX1 b).2.1 := by decide +kernel
theorem tyX1_ok : ∀ k, k < 3 → parseFieldDescriptor (TX1 k).2.2.1 = some (tyX1 k) := by decide +kernel
abbrev cX1_init : ByteArray := prog_3_method_1_code
def yX1_init : MethodName := ⟨RX1, "<init>", "()V"⟩
abbrev cX1_size : ByteArray := prog_3_method_2_code
def yX1_size : MethodName := ⟨RX1, "size", "()I"⟩
abbrev cX1_clear : ByteArray := prog_3_method_3_code
def yX1_clear : MethodName := ⟨RX1, "clear", "()V"⟩
abbrev cX1_remember : ByteArray := prog_3_method_4_code
def yX1_remember : MethodName := ⟨RX1, "remember", "(LLettersThatPass$Laws;)V"⟩
abbrev cX1_takeBack : ByteArray := prog_3_method_5_code
def yX1_takeBack : MethodName := ⟨RX1, "takeBack", "(LLettersThatPass$Laws;)V"⟩
def RX2 : String := "LettersThatPass$Laws"
def TX2 : u_T := fun k => match k with
  | 0 => ("LettersThatPass$Laws", "passing", "[I", true)
  | _ => ("LettersThatPass$Laws", "rank", "[I", true)
def tyX2 : Nat → FieldType := fun k => match k with
  | 0 => .array .int
  | _ => .array .int
abbrev wsX20 : List Cond := u_ws RX2 TX2 2
theorem nmX2 : ∀ a, a < 2 → ∀ b, b < 2 → a ≠ b → (TX2 a).2.1 ≠ (TX2 b).2.1 := by decide +kernel
theorem tyX2_ok : ∀ k, k < 2 → parseFieldDescriptor (TX2 k).2.2.1 = some (tyX2 k) := by decide +kernel
abbrev cX2_init : ByteArray := prog_4_method_1_code
def yX2_init : MethodName := ⟨RX2, "<init>", "()V"⟩
abbrev cX2_passedBy : ByteArray := prog_4_method_2_code
def yX2_passedBy : MethodName := ⟨RX2, "passedBy", "(I)I"⟩
abbrev cX2_rankOf : ByteArray := prog_4_method_3_code
def yX2_rankOf : MethodName := ⟨RX2, "rankOf", "(I)I"⟩
abbrev cX2_letPass : ByteArray := prog_4_method_4_code
def yX2_letPass : MethodName := ⟨RX2, "letPass", "(II)Z"⟩
abbrev cX2_flip : ByteArray := prog_4_method_5_code
def yX2_flip : MethodName := ⟨RX2, "flip", "(II)V"⟩
abbrev cX2_swapRanks : ByteArray := prog_4_method_6_code
def yX2_swapRanks : MethodName := ⟨RX2, "swapRanks", "(II)V"⟩
abbrev cX2_copy : ByteArray := prog_4_method_7_code
def yX2_copy : MethodName := ⟨RX2, "copy", "(LLettersThatPass$Laws;)V"⟩
abbrev cX2_same : ByteArray := prog_4_method_8_code
def yX2_same : MethodName := ⟨RX2, "same", "(LLettersThatPass$Laws;)Z"⟩
abbrev cX2_howManyPairs : ByteArray := prog_4_method_9_code
def yX2_howManyPairs : MethodName := ⟨RX2, "howManyPairs", "()I"⟩
abbrev cX2_readyLetters : ByteArray := prog_4_method_10_code
def yX2_readyLetters : MethodName := ⟨RX2, "readyLetters", "(LLettersThatPass$Row;)I"⟩
abbrev cX2_howManyLow : ByteArray := prog_4_method_11_code
def yX2_howManyLow : MethodName := ⟨RX2, "howManyLow", "(I)I"⟩
abbrev cX2_howManyTied : ByteArray := prog_4_method_12_code
def yX2_howManyTied : MethodName := ⟨RX2, "howManyTied", "(LLettersThatPass$Row;II)I"⟩
abbrev cX2_partOf : ByteArray := prog_4_method_13_code
def yX2_partOf : MethodName := ⟨RX2, "partOf", "(II)I"⟩
abbrev cX2_howManyParts : ByteArray := prog_4_method_14_code
def yX2_howManyParts : MethodName := ⟨RX2, "howManyParts", "(I)I"⟩
abbrev cX2_isFree : ByteArray := prog_4_method_15_code
def yX2_isFree : MethodName := ⟨RX2, "isFree", "(I)Z"⟩
abbrev cX2_howManyFree : ByteArray := prog_4_method_16_code
def yX2_howManyFree : MethodName := ⟨RX2, "howManyFree", "()I"⟩
abbrev cX2_drawLots : ByteArray := prog_4_method_17_code
def yX2_drawLots : MethodName := ⟨RX2, "drawLots", "(LLettersThatPass$Row;II)I"⟩
def RX3 : String := "LettersThatPass$Numbers"
def TX3 : u_T := fun k => match k with
  | 0 => ("LettersThatPass$Numbers", "rows", "[LLettersThatPass$Row;", true)
  | 1 => ("LettersThatPass$Numbers", "begun", "[Z", true)
  | _ => ("LettersThatPass$Numbers", "nothing", "LLettersThatPass$Row;", true)
def tyX3 : Nat → FieldType := fun k => match k with
  | 0 => .array (.object "LettersThatPass$Row")
  | 1 => .array .boolean
  | _ => .object "LettersThatPass$Row"
abbrev wsX30 : List Cond := u_ws RX3 TX3 3
theorem nmX3 : ∀ a, a < 3 → ∀ b, b < 3 → a ≠ b → (TX3 a).2.1 ≠ (TX3 b).2.1 := by decide +kernel
theorem tyX3_ok : ∀ k, k < 3 → parseFieldDescriptor (TX3 k).2.2.1 = some (tyX3 k) := by decide +kernel
abbrev cX3_init : ByteArray := prog_5_method_1_code
def yX3_init : MethodName := ⟨RX3, "<init>", "()V"⟩
abbrev cX3_lacks : ByteArray := prog_5_method_2_code
def yX3_lacks : MethodName := ⟨RX3, "lacks", "(I)Z"⟩
abbrev cX3_row : ByteArray := prog_5_method_3_code
def yX3_row : MethodName := ⟨RX3, "row", "(I)LLettersThatPass$Row;"⟩
abbrev cX3_begin : ByteArray := prog_5_method_4_code
def yX3_begin : MethodName := ⟨RX3, "begin", "(II)V"⟩
def RX4 : String := "LettersThatPass$Parser"
def TX4 : u_T := fun k => match k with
  | 0 => ("LettersThatPass$Parser", "told", "LLettersThatPass$Row;", true)
  | 1 => ("LettersThatPass$Parser", "opened", "[I", true)
  | 2 => ("LettersThatPass$Parser", "open", "I", false)
  | _ => ("LettersThatPass$Parser", "itemStart", "I", false)
def tyX4 : Nat → FieldType := fun k => match k with
  | 0 => .object "LettersThatPass$Row"
  | 1 => .array .int
  | 2 => .int
  | _ => .int
abbrev wsX40 : List Cond := u_ws RX4 TX4 4
theorem nmX4 : ∀ a, a < 4 → ∀ b, b < 4 → a ≠ b → (TX4 a).2.1 ≠ (TX4 b).2.1 := by decide +kernel
theorem tyX4_ok : ∀ k, k < 4 → parseFieldDescriptor (TX4 k).2.2.1 = some (tyX4 k) := by decide +kernel
abbrev cX4_init : ByteArray := prog_6_method_1_code
def yX4_init : MethodName := ⟨RX4, "<init>", "()V"⟩
abbrev cX4_told : ByteArray := prog_6_method_2_code
def yX4_told : MethodName := ⟨RX4, "told", "()LLettersThatPass$Row;"⟩
abbrev cX4_readWord : ByteArray := prog_6_method_3_code
def yX4_readWord : MethodName := ⟨RX4, "readWord", "(LLettersThatPass$Row;)I"⟩
abbrev cX4_takeSign : ByteArray := prog_6_method_4_code
def yX4_takeSign : MethodName := ⟨RX4, "takeSign", "(I)Z"⟩
abbrev cX4_takeOpening : ByteArray := prog_6_method_5_code
def yX4_takeOpening : MethodName := ⟨RX4, "takeOpening", "()Z"⟩
abbrev cX4_takeClosing : ByteArray := prog_6_method_6_code
def yX4_takeClosing : MethodName := ⟨RX4, "takeClosing", "()Z"⟩
abbrev cX4_takeTimes : ByteArray := prog_6_method_7_code
def yX4_takeTimes : MethodName := ⟨RX4, "takeTimes", "(I)Z"⟩
abbrev cX4_readRules : ByteArray := prog_6_method_8_code
def yX4_readRules : MethodName := ⟨RX4, "readRules", "(LLettersThatPass$Row;LLettersThatPass$Laws;)I"⟩
abbrev cX4_change : ByteArray := prog_6_method_9_code
def yX4_change : MethodName := ⟨RX4, "change", "(LLettersThatPass$Laws;ZII)V"⟩
abbrev cX4_isLetter : ByteArray := prog_6_method_10_code
def yX4_isLetter : MethodName := ⟨RX4, "isLetter", "(I)Z"⟩
def RX5 : String := "LettersThatPass$Row"
def TX5 : u_T := fun k => match k with
  | 0 => ("LettersThatPass$Row", "cells", "[I", true)
  | _ => ("LettersThatPass$Row", "used", "I", false)
def tyX5 : Nat → FieldType := fun k => match k with
  | 0 => .array .int
  | _ => .int
abbrev wsX50 : List Cond := u_ws RX5 TX5 2
theorem nmX5 : ∀ a, a < 2 → ∀ b, b < 2 → a ≠ b → (TX5 a).2.1 ≠ (TX5 b).2.1 := by decide +kernel
theorem tyX5_ok : ∀ k, k < 2 → parseFieldDescriptor (TX5 k).2.2.1 = some (tyX5 k) := by decide +kernel
abbrev cX5_init : ByteArray := prog_7_method_1_code
def yX5_init : MethodName := ⟨RX5, "<init>", "(I)V"⟩
abbrev cX5_size : ByteArray := prog_7_method_2_code
def yX5_size : MethodName := ⟨RX5, "size", "()I"⟩
abbrev cX5_get : ByteArray := prog_7_method_3_code
def yX5_get : MethodName := ⟨RX5, "get", "(I)I"⟩
abbrev cX5_set : ByteArray := prog_7_method_4_code
def yX5_set : MethodName := ⟨RX5, "set", "(II)V"⟩
abbrev cX5_has : ByteArray := prog_7_method_5_code
def yX5_has : MethodName := ⟨RX5, "has", "(II)Z"⟩
abbrev cX5_clear : ByteArray := prog_7_method_6_code
def yX5_clear : MethodName := ⟨RX5, "clear", "()V"⟩
abbrev cX5_shorten : ByteArray := prog_7_method_7_code
def yX5_shorten : MethodName := ⟨RX5, "shorten", "(I)V"⟩
abbrev cX5_add : ByteArray := prog_7_method_8_code
def yX5_add : MethodName := ⟨RX5, "add", "(I)V"⟩
abbrev cX5_insert : ByteArray := prog_7_method_9_code
def yX5_insert : MethodName := ⟨RX5, "insert", "(II)V"⟩
abbrev cX5_addTimes : ByteArray := prog_7_method_10_code
def yX5_addTimes : MethodName := ⟨RX5, "addTimes", "(II)V"⟩
abbrev cX5_append : ByteArray := prog_7_method_11_code
def yX5_append : MethodName := ⟨RX5, "append", "(LLettersThatPass$Row;)V"⟩
abbrev cX5_appendPiece : ByteArray := prog_7_method_12_code
def yX5_appendPiece : MethodName := ⟨RX5, "appendPiece", "(LLettersThatPass$Row;II)V"⟩
abbrev cX5_appendTimes : ByteArray := prog_7_method_13_code
def yX5_appendTimes : MethodName := ⟨RX5, "appendTimes", "(LLettersThatPass$Row;I)V"⟩
abbrev cX5_appendOnly : ByteArray := prog_7_method_14_code
def yX5_appendOnly : MethodName := ⟨RX5, "appendOnly", "(LLettersThatPass$Row;I)V"⟩
abbrev cX5_copy : ByteArray := prog_7_method_15_code
def yX5_copy : MethodName := ⟨RX5, "copy", "(LLettersThatPass$Row;)V"⟩
abbrev cX5_overwrite : ByteArray := prog_7_method_16_code
def yX5_overwrite : MethodName := ⟨RX5, "overwrite", "(ILLettersThatPass$Row;)V"⟩
abbrev cX5_swapWithNext : ByteArray := prog_7_method_17_code
def yX5_swapWithNext : MethodName := ⟨RX5, "swapWithNext", "(I)V"⟩
abbrev cX5_removeFirst : ByteArray := prog_7_method_18_code
def yX5_removeFirst : MethodName := ⟨RX5, "removeFirst", "(I)V"⟩
abbrev cX5_placeOfTime : ByteArray := prog_7_method_19_code
def yX5_placeOfTime : MethodName := ⟨RX5, "placeOfTime", "(II)I"⟩
abbrev cX5_timesOf : ByteArray := prog_7_method_20_code
def yX5_timesOf : MethodName := ⟨RX5, "timesOf", "(I)I"⟩
abbrev cX5_letters : ByteArray := prog_7_method_21_code
def yX5_letters : MethodName := ⟨RX5, "letters", "()I"⟩
abbrev cX5_isWord : ByteArray := prog_7_method_22_code
def yX5_isWord : MethodName := ⟨RX5, "isWord", "()Z"⟩
abbrev cX5_same : ByteArray := prog_7_method_23_code
def yX5_same : MethodName := ⟨RX5, "same", "(LLettersThatPass$Row;)Z"⟩
abbrev cX5_firstOther : ByteArray := prog_7_method_24_code
def yX5_firstOther : MethodName := ⟨RX5, "firstOther", "(LLettersThatPass$Row;)I"⟩
abbrev cX5_howManyOther : ByteArray := prog_7_method_25_code
def yX5_howManyOther : MethodName := ⟨RX5, "howManyOther", "(LLettersThatPass$Row;)I"⟩
def RX6 : String := "LettersThatPass$Shelf"
def TX6 : u_T := fun k => match k with
  | 0 => ("LettersThatPass$Shelf", "rows", "[LLettersThatPass$Row;", true)
  | 1 => ("LettersThatPass$Shelf", "nothing", "LLettersThatPass$Row;", true)
  | _ => ("LettersThatPass$Shelf", "used", "I", false)
def tyX6 : Nat → FieldType := fun k => match k with
  | 0 => .array (.object "LettersThatPass$Row")
  | 1 => .object "LettersThatPass$Row"
  | _ => .int
abbrev wsX60 : List Cond := u_ws RX6 TX6 3
theorem nmX6 : ∀ a, a < 3 → ∀ b, b < 3 → a ≠ b → (TX6 a).2.1 ≠ (TX6 b).2.1 := by decide +kernel
theorem tyX6_ok : ∀ k, k < 3 → parseFieldDescriptor (TX6 k).2.2.1 = some (tyX6 k) := by decide +kernel
abbrev cX6_init : ByteArray := prog_8_method_1_code
def yX6_init : MethodName := ⟨RX6, "<init>", "()V"⟩
abbrev cX6_size : ByteArray := prog_8_method_2_code
def yX6_size : MethodName := ⟨RX6, "size", "()I"⟩
abbrev cX6_isFull : ByteArray := prog_8_method_3_code
def yX6_isFull : MethodName := ⟨RX6, "isFull", "()Z"⟩
abbrev cX6_row : ByteArray := prog_8_method_4_code
def yX6_row : MethodName := ⟨RX6, "row", "(I)LLettersThatPass$Row;"⟩
abbrev cX6_place : ByteArray := prog_8_method_5_code
def yX6_place : MethodName := ⟨RX6, "place", "(LLettersThatPass$Row;)I"⟩
abbrev cX6_removeLast : ByteArray := prog_8_method_6_code
def yX6_removeLast : MethodName := ⟨RX6, "removeLast", "()V"⟩
abbrev cX6_copy : ByteArray := prog_8_method_7_code
def yX6_copy : MethodName := ⟨RX6, "copy", "(LLettersThatPass$Shelf;)V"⟩
abbrev cX6_allLetters : ByteArray := prog_8_method_8_code
def yX6_allLetters : MethodName := ⟨RX6, "allLetters", "()I"⟩
def RX7 : String := "LettersThatPass$Tally"
def TX7 : u_T := fun k => match k with
  | 0 => ("LettersThatPass$Tally", "ways", "[J", true)
  | 1 => ("LettersThatPass$Tally", "taken", "[I", true)
  | 2 => ("LettersThatPass$Tally", "step", "[I", true)
  | 3 => ("LettersThatPass$Tally", "places", "[I", true)
  | 4 => ("LettersThatPass$Tally", "behind", "[I", true)
  | 5 => ("LettersThatPass$Tally", "sets", "[I", true)
  | _ => ("LettersThatPass$Tally", "totals", "[J", true)
def tyX7 : Nat → FieldType := fun k => match k with
  | 0 => .array .long
  | 1 => .array .int
  | 2 => .array .int
  | 3 => .array .int
  | 4 => .array .int
  | 5 => .array .int
  | _ => .array .long
abbrev wsX70 : List Cond := u_ws RX7 TX7 7
theorem nmX7 : ∀ a, a < 7 → ∀ b, b < 7 → a ≠ b → (TX7 a).2.1 ≠ (TX7 b).2.1 := by decide +kernel
theorem tyX7_ok : ∀ k, k < 7 → parseFieldDescriptor (TX7 k).2.2.1 = some (tyX7 k) := by decide +kernel
abbrev cX7_init : ByteArray := prog_9_method_1_code
def yX7_init : MethodName := ⟨RX7, "<init>", "()V"⟩
abbrev cX7_countAlike : ByteArray := prog_9_method_2_code
def yX7_countAlike : MethodName := ⟨RX7, "countAlike", "(LLettersThatPass$Row;LLettersThatPass$Laws;)J"⟩
abbrev cX7_prepare : ByteArray := prog_9_method_3_code
def yX7_prepare : MethodName := ⟨RX7, "prepare", "(LLettersThatPass$Row;LLettersThatPass$Laws;)I"⟩
abbrev cX7_goOn : ByteArray := prog_9_method_4_code
def yX7_goOn : MethodName := ⟨RX7, "goOn", "(II)V"⟩
abbrev cX7_countUnlike : ByteArray := prog_9_method_5_code
def yX7_countUnlike : MethodName := ⟨RX7, "countUnlike", "(IILLettersThatPass$Laws;)J"⟩
def RX8 : String := "LettersThatPass$Turner"
def TX8 : u_T := fun k => match k with
  | 0 => ("LettersThatPass$Turner", "laws", "LLettersThatPass$Laws;", true)
  | 1 => ("LettersThatPass$Turner", "bench", "LLettersThatPass$Bench;", true)
  | 2 => ("LettersThatPass$Turner", "explored", "LLettersThatPass$Laws;", true)
  | 3 => ("LettersThatPass$Turner", "current", "LLettersThatPass$Row;", true)
  | 4 => ("LettersThatPass$Turner", "moved", "LLettersThatPass$Row;", true)
  | 5 => ("LettersThatPass$Turner", "codes", "[I", true)
  | 6 => ("LettersThatPass$Turner", "moves", "[I", true)
  | 7 => ("LettersThatPass$Turner", "sorted", "[I", true)
  | 8 => ("LettersThatPass$Turner", "found", "I", false)
  | _ => ("LettersThatPass$Turner", "length", "I", false)
def tyX8 : Nat → FieldType := fun k => match k with
  | 0 => .object "LettersThatPass$Laws"
  | 1 => .object "LettersThatPass$Bench"
  | 2 => .object "LettersThatPass$Laws"
  | 3 => .object "LettersThatPass$Row"
  | 4 => .object "LettersThatPass$Row"
  | 5 => .array .int
  | 6 => .array .int
  | 7 => .array .int
  | 8 => .int
  | _ => .int
abbrev wsX80 : List Cond := u_ws RX8 TX8 10
theorem nmX8 : ∀ a, a < 10 → ∀ b, b < 10 → a ≠ b → (TX8 a).2.1 ≠ (TX8 b).2.1 := by decide +kernel
theorem tyX8_ok : ∀ k, k < 10 → parseFieldDescriptor (TX8 k).2.2.1 = some (tyX8 k) := by decide +kernel
abbrev cX8_init : ByteArray := prog_10_method_1_code
def yX8_init : MethodName := ⟨RX8, "<init>", "(LLettersThatPass$Laws;LLettersThatPass$Bench;)V"⟩
abbrev cX8_found : ByteArray := prog_10_method_2_code
def yX8_found : MethodName := ⟨RX8, "found", "()I"⟩
abbrev cX8_explore : ByteArray := prog_10_method_3_code
def yX8_explore : MethodName := ⟨RX8, "explore", "(LLettersThatPass$Row;)V"⟩
abbrev cX8_moveAll : ByteArray := prog_10_method_4_code
def yX8_moveAll : MethodName := ⟨RX8, "moveAll", "(I)V"⟩
abbrev cX8_note : ByteArray := prog_10_method_5_code
def yX8_note : MethodName := ⟨RX8, "note", "(II)V"⟩
abbrev cX8_find : ByteArray := prog_10_method_6_code
def yX8_find : MethodName := ⟨RX8, "find", "(I)I"⟩
abbrev cX8_sortCodes : ByteArray := prog_10_method_7_code
def yX8_sortCodes : MethodName := ⟨RX8, "sortCodes", "()V"⟩
abbrev cX8_letterOf : ByteArray := prog_10_method_8_code
def yX8_letterOf : MethodName := ⟨RX8, "letterOf", "(II)I"⟩
abbrev cX8_movesTo : ByteArray := prog_10_method_9_code
def yX8_movesTo : MethodName := ⟨RX8, "movesTo", "(LLettersThatPass$Row;)I"⟩
abbrev cX8_codeOf : ByteArray := prog_10_method_10_code
def yX8_codeOf : MethodName := ⟨RX8, "codeOf", "(LLettersThatPass$Row;)I"⟩
abbrev cX8_decode : ByteArray := prog_10_method_11_code
def yX8_decode : MethodName := ⟨RX8, "decode", "(I)V"⟩
def RX9 : String := "LettersThatPass"
def TX9 : u_T := fun k => match k with
  | 0 => ("LettersThatPass", "laws", "LLettersThatPass$Laws;", true)
  | 1 => ("LettersThatPass", "trial", "LLettersThatPass$Laws;", true)
  | 2 => ("LettersThatPass", "shelf", "LLettersThatPass$Shelf;", true)
  | 3 => ("LettersThatPass", "history", "LLettersThatPass$History;", true)
  | 4 => ("LettersThatPass", "keptLaws", "LLettersThatPass$Laws;", true)
  | 5 => ("LettersThatPass", "keptShelf", "LLettersThatPass$Shelf;", true)
  | 6 => ("LettersThatPass", "kept", "Z", false)
  | 7 => ("LettersThatPass", "typed", "LLettersThatPass$Row;", true)
  | 8 => ("LettersThatPass", "parser", "LLettersThatPass$Parser;", true)
  | 9 => ("LettersThatPass", "numbers", "LLettersThatPass$Numbers;", true)
  | 10 => ("LettersThatPass", "refused", "[I", true)
  | 11 => ("LettersThatPass", "bench", "LLettersThatPass$Bench;", true)
  | 12 => ("LettersThatPass", "tally", "LLettersThatPass$Tally;", true)
  | 13 => ("LettersThatPass", "turner", "LLettersThatPass$Turner;", true)
  | 14 => ("LettersThatPass", "draft", "LLettersThatPass$Row;", true)
  | _ => ("LettersThatPass", "second", "LLettersThatPass$Row;", true)
def tyX9 : Nat → FieldType := fun k => match k with
  | 0 => .object "LettersThatPass$Laws"
  | 1 => .object "LettersThatPass$Laws"
  | 2 => .object "LettersThatPass$Shelf"
  | 3 => .object "LettersThatPass$History"
  | 4 => .object "LettersThatPass$Laws"
  | 5 => .object "LettersThatPass$Shelf"
  | 6 => .boolean
  | 7 => .object "LettersThatPass$Row"
  | 8 => .object "LettersThatPass$Parser"
  | 9 => .object "LettersThatPass$Numbers"
  | 10 => .array .int
  | 11 => .object "LettersThatPass$Bench"
  | 12 => .object "LettersThatPass$Tally"
  | 13 => .object "LettersThatPass$Turner"
  | 14 => .object "LettersThatPass$Row"
  | _ => .object "LettersThatPass$Row"
abbrev wsX90 : List Cond := u_ws RX9 TX9 16
theorem nmX9 : ∀ a, a < 16 → ∀ b, b < 16 → a ≠ b → (TX9 a).2.1 ≠ (TX9 b).2.1 := by decide +kernel
theorem tyX9_ok : ∀ k, k < 16 → parseFieldDescriptor (TX9 k).2.2.1 = some (tyX9 k) := by decide +kernel
abbrev cX9_init : ByteArray := prog_1_method_1_code
def yX9_init : MethodName := ⟨RX9, "<init>", "()V"⟩
abbrev cX9_letter : ByteArray := prog_1_method_2_code
def yX9_letter : MethodName := ⟨RX9, "letter", "(I)I"⟩
abbrev cX9_passes : ByteArray := prog_1_method_3_code
def yX9_passes : MethodName := ⟨RX9, "passes", "(II)I"⟩
abbrev cX9_ranks : ByteArray := prog_1_method_4_code
def yX9_ranks : MethodName := ⟨RX9, "ranks", "(II)I"⟩
abbrev cX9_of : ByteArray := prog_1_method_5_code
def yX9_of : MethodName := ⟨RX9, "of", "(II)I"⟩
abbrev cX9_rules : ByteArray := prog_1_method_6_code
def yX9_rules : MethodName := ⟨RX9, "rules", "()I"⟩
abbrev cX9_word : ByteArray := prog_1_method_7_code
def yX9_word : MethodName := ⟨RX9, "word", "()I"⟩
abbrev cX9_at : ByteArray := prog_1_method_8_code
def yX9_at : MethodName := ⟨RX9, "at", "(II)I"⟩
abbrev cX9_drop : ByteArray := prog_1_method_9_code
def yX9_drop : MethodName := ⟨RX9, "drop", "()I"⟩
abbrev cX9_alike : ByteArray := prog_1_method_10_code
def yX9_alike : MethodName := ⟨RX9, "alike", "(II)I"⟩
abbrev cX9_blocks : ByteArray := prog_1_method_11_code
def yX9_blocks : MethodName := ⟨RX9, "blocks", "(II)I"⟩
abbrev cX9_least : ByteArray := prog_1_method_12_code
def yX9_least : MethodName := ⟨RX9, "least", "(III)I"⟩
abbrev cX9_copies : ByteArray := prog_1_method_13_code
def yX9_copies : MethodName := ⟨RX9, "copies", "(I)J"⟩
abbrev cX9_seen : ByteArray := prog_1_method_14_code
def yX9_seen : MethodName := ⟨RX9, "seen", "(IIII)I"⟩
abbrev cX9_spread : ByteArray := prog_1_method_15_code
def yX9_spread : MethodName := ⟨RX9, "spread", "(IIII)I"⟩
abbrev cX9_odds : ByteArray := prog_1_method_16_code
def yX9_odds : MethodName := ⟨RX9, "odds", "(II)J"⟩
abbrev cX9_begins : ByteArray := prog_1_method_17_code
def yX9_begins : MethodName := ⟨RX9, "begins", "(III)I"⟩
abbrev cX9_common : ByteArray := prog_1_method_18_code
def yX9_common : MethodName := ⟨RX9, "common", "(III)I"⟩
abbrev cX9_product : ByteArray := prog_1_method_19_code
def yX9_product : MethodName := ⟨RX9, "product", "(II)I"⟩
abbrev cX9_power : ByteArray := prog_1_method_20_code
def yX9_power : MethodName := ⟨RX9, "power", "(II)I"⟩
abbrev cX9_changes : ByteArray := prog_1_method_21_code
def yX9_changes : MethodName := ⟨RX9, "changes", "(II)I"⟩
abbrev cX9_root : ByteArray := prog_1_method_22_code
def yX9_root : MethodName := ⟨RX9, "root", "(II)I"⟩
abbrev cX9_parts : ByteArray := prog_1_method_23_code
def yX9_parts : MethodName := ⟨RX9, "parts", "(II)I"⟩
abbrev cX9_turned : ByteArray := prog_1_method_24_code
def yX9_turned : MethodName := ⟨RX9, "turned", "(I)I"⟩
abbrev cX9_turn : ByteArray := prog_1_method_25_code
def yX9_turn : MethodName := ⟨RX9, "turn", "(III)I"⟩
abbrev cX9_apart : ByteArray := prog_1_method_26_code
def yX9_apart : MethodName := ⟨RX9, "apart", "(II)I"⟩
abbrev cX9_unlike : ByteArray := prog_1_method_27_code
def yX9_unlike : MethodName := ⟨RX9, "unlike", "(II)J"⟩
abbrev cX9_free : ByteArray := prog_1_method_28_code
def yX9_free : MethodName := ⟨RX9, "free", "()I"⟩
abbrev cX9_lots : ByteArray := prog_1_method_29_code
def yX9_lots : MethodName := ⟨RX9, "lots", "(IIII)I"⟩
abbrev cX9_list : ByteArray := prog_1_method_30_code
def yX9_list : MethodName := ⟨RX9, "list", "(II)I"⟩
abbrev cX9_put : ByteArray := prog_1_method_31_code
def yX9_put : MethodName := ⟨RX9, "put", "(III)I"⟩
abbrev cX9_look : ByteArray := prog_1_method_32_code
def yX9_look : MethodName := ⟨RX9, "look", "(II)J"⟩
abbrev cX9_from : ByteArray := prog_1_method_33_code
def yX9_from : MethodName := ⟨RX9, "from", "(III)I"⟩
abbrev cX9_lays : ByteArray := prog_1_method_34_code
def yX9_lays : MethodName := ⟨RX9, "lays", "(III)I"⟩
abbrev cX9_judge : ByteArray := prog_1_method_35_code
def yX9_judge : MethodName := ⟨RX9, "judge", "(II)I"⟩
abbrev cX9_undo : ByteArray := prog_1_method_36_code
def yX9_undo : MethodName := ⟨RX9, "undo", "()I"⟩
abbrev cX9_image : ByteArray := prog_1_method_37_code
def yX9_image : MethodName := ⟨RX9, "image", "()I"⟩
abbrev cX9_on : ByteArray := prog_1_method_38_code
def yX9_on : MethodName := ⟨RX9, "on", "()I"⟩
abbrev cX9_count : ByteArray := prog_1_method_39_code
def yX9_count : MethodName := ⟨RX9, "count", "(I)I"⟩
abbrev cX9_refuse : ByteArray := prog_1_method_40_code
def yX9_refuse : MethodName := ⟨RX9, "refuse", "(I)I"⟩
abbrev cX9_refuseFar : ByteArray := prog_1_method_41_code
def yX9_refuseFar : MethodName := ⟨RX9, "refuseFar", "(I)J"⟩
abbrev cX9_noWord : ByteArray := prog_1_method_42_code
def yX9_noWord : MethodName := ⟨RX9, "noWord", "(I)Z"⟩
abbrev cX9_tooLongToTurn : ByteArray := prog_1_method_43_code
def yX9_tooLongToTurn : MethodName := ⟨RX9, "tooLongToTurn", "(I)Z"⟩
abbrev cX9_noLetter : ByteArray := prog_1_method_44_code
def yX9_noLetter : MethodName := ⟨RX9, "noLetter", "(I)Z"⟩
abbrev cX9_notTwoLetters : ByteArray := prog_1_method_45_code
def yX9_notTwoLetters : MethodName := ⟨RX9, "notTwoLetters", "(II)Z"⟩
abbrev cX9_noList : ByteArray := prog_1_method_46_code
def yX9_noList : MethodName := ⟨RX9, "noList", "(I)Z"⟩
abbrev cX9_noSuch : ByteArray := prog_1_method_47_code
def yX9_noSuch : MethodName := ⟨RX9, "noSuch", "(I)Z"⟩
abbrev cX9_answer : ByteArray := prog_1_method_48_code
def yX9_answer : MethodName := ⟨RX9, "answer", "(Z)I"⟩
abbrev cX9_sizeOrCell : ByteArray := prog_1_method_49_code
def yX9_sizeOrCell : MethodName := ⟨RX9, "sizeOrCell", "(LLettersThatPass$Row;I)I"⟩
abbrev cX9_commonDivisor : ByteArray := prog_1_method_50_code
def yX9_commonDivisor : MethodName := ⟨RX9, "commonDivisor", "(II)I"⟩
def RX10 : String := "LettersThatPassModel"
def TX10 : u_T := fun k => match k with
  | 0 => ("LettersThatPassModel", "pass", "[I", true)
  | 1 => ("LettersThatPassModel", "rank", "[I", true)
  | 2 => ("LettersThatPassModel", "words", "I", false)
  | 3 => ("LettersThatPassModel", "length", "[I", true)
  | 4 => ("LettersThatPassModel", "letter", "[I", true)
  | 5 => ("LettersThatPassModel", "refused", "[I", true)
  | 6 => ("LettersThatPassModel", "text", "[I", true)
  | 7 => ("LettersThatPassModel", "size", "I", false)
  | 8 => ("LettersThatPassModel", "undos", "I", false)
  | 9 => ("LettersThatPassModel", "was", "[I", true)
  | 10 => ("LettersThatPassModel", "isKept", "Z", false)
  | 11 => ("LettersThatPassModel", "keptWords", "I", false)
  | 12 => ("LettersThatPassModel", "keptPass", "[I", true)
  | 13 => ("LettersThatPassModel", "keptRank", "[I", true)
  | 14 => ("LettersThatPassModel", "keptLength", "[I", true)
  | 15 => ("LettersThatPassModel", "keptLetter", "[I", true)
  | 16 => ("LettersThatPassModel", "listed", "[I", true)
  | 17 => ("LettersThatPassModel", "items", "[I", true)
  | 18 => ("LettersThatPassModel", "at", "I", false)
  | 19 => ("LettersThatPassModel", "fault", "I", false)
  | 20 => ("LettersThatPassModel", "ruled", "[I", true)
  | 21 => ("LettersThatPassModel", "made", "I", false)
  | 22 => ("LettersThatPassModel", "out", "[I", true)
  | 23 => ("LettersThatPassModel", "one", "[I", true)
  | 24 => ("LettersThatPassModel", "two", "[I", true)
  | 25 => ("LettersThatPassModel", "left", "[I", true)
  | 26 => ("LettersThatPassModel", "least", "[I", true)
  | 27 => ("LettersThatPassModel", "other", "[I", true)
  | 28 => ("LettersThatPassModel", "ahead", "[I", true)
  | 29 => ("LettersThatPassModel", "allAhead", "[I", true)
  | 30 => ("LettersThatPassModel", "ways", "[J", true)
  | 31 => ("LettersThatPassModel", "both", "[I", true)
  | 32 => ("LettersThatPassModel", "counts", "[I", true)
  | 33 => ("LettersThatPassModel", "found", "I", false)
  | 34 => ("LettersThatPassModel", "turned", "[I", true)
  | _ => ("LettersThatPassModel", "far", "[I", true)
def tyX10 : Nat → FieldType := fun k => match k with
  | 0 => .array .int
  | 1 => .array .int
  | 2 => .int
  | 3 => .array .int
  | 4 => .array .int
  | 5 => .array .int
  | 6 => .array .int
  | 7 => .int
  | 8 => .int
  | 9 => .array .int
  | 10 => .boolean
  | 11 => .int
  | 12 => .array .int
  | 13 => .array .int
  | 14 => .array .int
  | 15 => .array .int
  | 16 => .array .int
  | 17 => .array .int
  | 18 => .int
  | 19 => .int
  | 20 => .array .int
  | 21 => .int
  | 22 => .array .int
  | 23 => .array .int
  | 24 => .array .int
  | 25 => .array .int
  | 26 => .array .int
  | 27 => .array .int
  | 28 => .array .int
  | 29 => .array .int
  | 30 => .array .long
  | 31 => .array .int
  | 32 => .array .int
  | 33 => .int
  | 34 => .array .int
  | _ => .array .int
abbrev wsX100 : List Cond := u_ws RX10 TX10 36
theorem nmX10 : ∀ a, a < 36 → ∀ b, b < 36 → a ≠ b → (TX10 a).2.1 ≠ (TX10 b).2.1 := by decide +kernel
theorem tyX10_ok : ∀ k, k < 36 → parseFieldDescriptor (TX10 k).2.2.1 = some (tyX10 k) := by decide +kernel
abbrev cX10_init : ByteArray := prog_12_method_1_code
def yX10_init : MethodName := ⟨RX10, "<init>", "()V"⟩
abbrev cX10_isIn : ByteArray := prog_12_method_2_code
def yX10_isIn : MethodName := ⟨RX10, "isIn", "(III)Z"⟩
abbrev cX10_no : ByteArray := prog_12_method_3_code
def yX10_no : MethodName := ⟨RX10, "no", "(I)I"⟩
abbrev cX10_noLong : ByteArray := prog_12_method_4_code
def yX10_noLong : MethodName := ⟨RX10, "noLong", "(I)J"⟩
abbrev cX10_isLetter : ByteArray := prog_12_method_5_code
def yX10_isLetter : MethodName := ⟨RX10, "isLetter", "(I)Z"⟩
abbrev cX10_isWord : ByteArray := prog_12_method_6_code
def yX10_isWord : MethodName := ⟨RX10, "isWord", "(I)Z"⟩
abbrev cX10_passes_ : ByteArray := prog_12_method_7_code
def yX10_passes_ : MethodName := ⟨RX10, "passes_", "(II)Z"⟩
abbrev cX10_letter : ByteArray := prog_12_method_8_code
def yX10_letter : MethodName := ⟨RX10, "letter", "(I)I"⟩
abbrev cX10_remembers : ByteArray := prog_12_method_9_code
def yX10_remembers : MethodName := ⟨RX10, "remembers", "()V"⟩
abbrev cX10_turns : ByteArray := prog_12_method_10_code
def yX10_turns : MethodName := ⟨RX10, "turns", "(II)V"⟩
abbrev cX10_swaps : ByteArray := prog_12_method_11_code
def yX10_swaps : MethodName := ⟨RX10, "swaps", "(II)V"⟩
abbrev cX10_areTwo : ByteArray := prog_12_method_12_code
def yX10_areTwo : MethodName := ⟨RX10, "areTwo", "(II)Z"⟩
abbrev cX10_passes : ByteArray := prog_12_method_13_code
def yX10_passes : MethodName := ⟨RX10, "passes", "(II)I"⟩
abbrev cX10_ranks : ByteArray := prog_12_method_14_code
def yX10_ranks : MethodName := ⟨RX10, "ranks", "(II)I"⟩
abbrev cX10_of : ByteArray := prog_12_method_15_code
def yX10_of : MethodName := ⟨RX10, "of", "(II)I"⟩
abbrev cX10_here : ByteArray := prog_12_method_16_code
def yX10_here : MethodName := ⟨RX10, "here", "()I"⟩
abbrev cX10_fails : ByteArray := prog_12_method_17_code
def yX10_fails : MethodName := ⟨RX10, "fails", "()V"⟩
abbrev cX10_isSign : ByteArray := prog_12_method_18_code
def yX10_isSign : MethodName := ⟨RX10, "isSign", "()Z"⟩
abbrev cX10_rule : ByteArray := prog_12_method_19_code
def yX10_rule : MethodName := ⟨RX10, "rule", "(I)V"⟩
abbrev cX10_rules : ByteArray := prog_12_method_20_code
def yX10_rules : MethodName := ⟨RX10, "rules", "()I"⟩
abbrev cX10_makes : ByteArray := prog_12_method_21_code
def yX10_makes : MethodName := ⟨RX10, "makes", "(I)V"⟩
abbrev cX10_times : ByteArray := prog_12_method_22_code
def yX10_times : MethodName := ⟨RX10, "times", "(I)V"⟩
abbrev cX10_reads : ByteArray := prog_12_method_23_code
def yX10_reads : MethodName := ⟨RX10, "reads", "(I)V"⟩
abbrev cX10_comes : ByteArray := prog_12_method_24_code
def yX10_comes : MethodName := ⟨RX10, "comes", "([II)I"⟩
abbrev cX10_word : ByteArray := prog_12_method_25_code
def yX10_word : MethodName := ⟨RX10, "word", "()I"⟩
abbrev cX10_at : ByteArray := prog_12_method_26_code
def yX10_at : MethodName := ⟨RX10, "at", "(II)I"⟩
abbrev cX10_drop : ByteArray := prog_12_method_27_code
def yX10_drop : MethodName := ⟨RX10, "drop", "()I"⟩
abbrev cX10_loads : ByteArray := prog_12_method_28_code
def yX10_loads : MethodName := ⟨RX10, "loads", "([III)I"⟩
abbrev cX10_isReady : ByteArray := prog_12_method_29_code
def yX10_isReady : MethodName := ⟨RX10, "isReady", "([II)Z"⟩
abbrev cX10_goes : ByteArray := prog_12_method_30_code
def yX10_goes : MethodName := ⟨RX10, "goes", "([III)V"⟩
abbrev cX10_takes : ByteArray := prog_12_method_31_code
def yX10_takes : MethodName := ⟨RX10, "takes", "([II[IZ)V"⟩
abbrev cX10_areAlike : ByteArray := prog_12_method_32_code
def yX10_areAlike : MethodName := ⟨RX10, "areAlike", "([I[II)Z"⟩
abbrev cX10_alike : ByteArray := prog_12_method_33_code
def yX10_alike : MethodName := ⟨RX10, "alike", "(II)I"⟩
abbrev cX10_block : ByteArray := prog_12_method_34_code
def yX10_block : MethodName := ⟨RX10, "block", "(I)I"⟩
abbrev cX10_blocks : ByteArray := prog_12_method_35_code
def yX10_blocks : MethodName := ⟨RX10, "blocks", "(II)I"⟩
abbrev cX10_least : ByteArray := prog_12_method_36_code
def yX10_least : MethodName := ⟨RX10, "least", "(III)I"⟩
abbrev cX10_orders : ByteArray := prog_12_method_37_code
def yX10_orders : MethodName := ⟨RX10, "orders", "(I)V"⟩
abbrev cX10_copies : ByteArray := prog_12_method_38_code
def yX10_copies : MethodName := ⟨RX10, "copies", "(I)J"⟩
abbrev cX10_seen : ByteArray := prog_12_method_39_code
def yX10_seen : MethodName := ⟨RX10, "seen", "(IIII)I"⟩
abbrev cX10_spread : ByteArray := prog_12_method_40_code
def yX10_spread : MethodName := ⟨RX10, "spread", "(IIII)I"⟩
abbrev cX10_common_ : ByteArray := prog_12_method_41_code
def yX10_common_ : MethodName := ⟨RX10, "common_", "(JJ)J"⟩
abbrev cX10_odds : ByteArray := prog_12_method_42_code
def yX10_odds : MethodName := ⟨RX10, "odds", "(II)J"⟩
abbrev cX10_placeOf : ByteArray := prog_12_method_43_code
def yX10_placeOf : MethodName := ⟨RX10, "placeOf", "([III)I"⟩
abbrev cX10_begins : ByteArray := prog_12_method_44_code
def yX10_begins : MethodName := ⟨RX10, "begins", "(III)I"⟩
abbrev cX10_common : ByteArray := prog_12_method_45_code
def yX10_common : MethodName := ⟨RX10, "common", "(III)I"⟩
abbrev cX10_product : ByteArray := prog_12_method_46_code
def yX10_product : MethodName := ⟨RX10, "product", "(II)I"⟩
abbrev cX10_power : ByteArray := prog_12_method_47_code
def yX10_power : MethodName := ⟨RX10, "power", "(II)I"⟩
abbrev cX10_changes : ByteArray := prog_12_method_48_code
def yX10_changes : MethodName := ⟨RX10, "changes", "(II)I"⟩
abbrev cX10_rootBy : ByteArray := prog_12_method_49_code
def yX10_rootBy : MethodName := ⟨RX10, "rootBy", "(II)I"⟩
abbrev cX10_isRoot : ByteArray := prog_12_method_50_code
def yX10_isRoot : MethodName := ⟨RX10, "isRoot", "(III)Z"⟩
abbrev cX10_root : ByteArray := prog_12_method_51_code
def yX10_root : MethodName := ⟨RX10, "root", "(II)I"⟩
abbrev cX10_stands : ByteArray := prog_12_method_52_code
def yX10_stands : MethodName := ⟨RX10, "stands", "(I)I"⟩
abbrev cX10_partOf : ByteArray := prog_12_method_53_code
def yX10_partOf : MethodName := ⟨RX10, "partOf", "(II)I"⟩
abbrev cX10_parts : ByteArray := prog_12_method_54_code
def yX10_parts : MethodName := ⟨RX10, "parts", "(II)I"⟩
abbrev cX10_numberOf : ByteArray := prog_12_method_55_code
def yX10_numberOf : MethodName := ⟨RX10, "numberOf", "([II)I"⟩
abbrev cX10_lays_ : ByteArray := prog_12_method_56_code
def yX10_lays_ : MethodName := ⟨RX10, "lays_", "(I[II)V"⟩
abbrev cX10_finds : ByteArray := prog_12_method_57_code
def yX10_finds : MethodName := ⟨RX10, "finds", "(II)V"⟩
abbrev cX10_turnsAll : ByteArray := prog_12_method_58_code
def yX10_turnsAll : MethodName := ⟨RX10, "turnsAll", "(I)V"⟩
abbrev cX10_turned : ByteArray := prog_12_method_59_code
def yX10_turned : MethodName := ⟨RX10, "turned", "(I)I"⟩
abbrev cX10_turn : ByteArray := prog_12_method_60_code
def yX10_turn : MethodName := ⟨RX10, "turn", "(III)I"⟩
abbrev cX10_apart : ByteArray := prog_12_method_61_code
def yX10_apart : MethodName := ⟨RX10, "apart", "(II)I"⟩
abbrev cX10_isFree : ByteArray := prog_12_method_62_code
def yX10_isFree : MethodName := ⟨RX10, "isFree", "(I)Z"⟩
abbrev cX10_unlike : ByteArray := prog_12_method_63_code
def yX10_unlike : MethodName := ⟨RX10, "unlike", "(II)J"⟩
abbrev cX10_free : ByteArray := prog_12_method_64_code
def yX10_free : MethodName := ⟨RX10, "free", "()I"⟩
abbrev cX10_lots : ByteArray := prog_12_method_65_code
def yX10_lots : MethodName := ⟨RX10, "lots", "(IIII)I"⟩
abbrev cX10_isList : ByteArray := prog_12_method_66_code
def yX10_isList : MethodName := ⟨RX10, "isList", "(I)Z"⟩
abbrev cX10_list : ByteArray := prog_12_method_67_code
def yX10_list : MethodName := ⟨RX10, "list", "(II)I"⟩
abbrev cX10_put : ByteArray := prog_12_method_68_code
def yX10_put : MethodName := ⟨RX10, "put", "(III)I"⟩
abbrev cX10_look : ByteArray := prog_12_method_69_code
def yX10_look : MethodName := ⟨RX10, "look", "(II)J"⟩
abbrev cX10_areThere : ByteArray := prog_12_method_70_code
def yX10_areThere : MethodName := ⟨RX10, "areThere", "(III)Z"⟩
abbrev cX10_from : ByteArray := prog_12_method_71_code
def yX10_from : MethodName := ⟨RX10, "from", "(III)I"⟩
abbrev cX10_lays : ByteArray := prog_12_method_72_code
def yX10_lays : MethodName := ⟨RX10, "lays", "(III)I"⟩
abbrev cX10_judge : ByteArray := prog_12_method_73_code
def yX10_judge : MethodName := ⟨RX10, "judge", "(II)I"⟩
abbrev cX10_undo : ByteArray := prog_12_method_74_code
def yX10_undo : MethodName := ⟨RX10, "undo", "()I"⟩
abbrev cX10_copies_ : ByteArray := prog_12_method_75_code
def yX10_copies_ : MethodName := ⟨RX10, "copies", "([I[I)V"⟩
abbrev cX10_image : ByteArray := prog_12_method_76_code
def yX10_image : MethodName := ⟨RX10, "image", "()I"⟩
abbrev cX10_on : ByteArray := prog_12_method_77_code
def yX10_on : MethodName := ⟨RX10, "on", "()I"⟩
abbrev cX10_count : ByteArray := prog_12_method_78_code
def yX10_count : MethodName := ⟨RX10, "count", "(I)I"⟩
def RJ6 : String := "java/lang/Integer"
def TJ6 : u_T := fun k => match k with
  | _ => ("", "", "", false)
def tyJ6 : Nat → FieldType := fun k => match k with
  | _ => .int
abbrev wsJ60 : List Cond := u_ws RJ6 TJ6 0
theorem nmJ6 : ∀ a, a < 0 → ∀ b, b < 0 → a ≠ b → (TJ6 a).2.1 ≠ (TJ6 b).2.1 := by decide +kernel
theorem tyJ6_ok : ∀ k, k < 0 → parseFieldDescriptor (TJ6 k).2.2.1 = some (tyJ6 k) := by decide +kernel
abbrev cJ6_numberOfTrailingZeros_0f7a4 : ByteArray := prog_13_method_48_code
def yJ6_numberOfTrailingZeros_0f7a4 : MethodName := ⟨RJ6, "numberOfTrailingZeros", "(I)I"⟩
abbrev cJ6_bitCount_0f7a4 : ByteArray := prog_13_method_49_code
def yJ6_bitCount_0f7a4 : MethodName := ⟨RJ6, "bitCount", "(I)I"⟩
def RJ9 : String := "java/lang/Math"
def TJ9 : u_T := fun k => match k with
  | _ => ("", "", "", false)
def tyJ9 : Nat → FieldType := fun k => match k with
  | _ => .int
abbrev wsJ90 : List Cond := u_ws RJ9 TJ9 0
theorem nmJ9 : ∀ a, a < 0 → ∀ b, b < 0 → a ≠ b → (TJ9 a).2.1 ≠ (TJ9 b).2.1 := by decide +kernel
theorem tyJ9_ok : ∀ k, k < 0 → parseFieldDescriptor (TJ9 k).2.2.1 = some (tyJ9 k) := by decide +kernel
abbrev cJ9_max_7cf53 : ByteArray := prog_14_method_65_code
def yJ9_max_7cf53 : MethodName := ⟨RJ9, "max", "(II)I"⟩
abbrev cJ9_min_7cf53 : ByteArray := prog_14_method_69_code
def yJ9_min_7cf53 : MethodName := ⟨RJ9, "min", "(II)I"⟩
def RL : String := "LettersThatPassLaw"
abbrev cL_law : ByteArray := code
def yL_law : MethodName := ⟨RL, "law", "([I)Z"⟩
abbrev vwCl : List vw_C := [(RX0, TX0, 4), (RX1, TX1, 3), (RX2, TX2, 2), (RX3, TX3, 3), (RX4, TX4, 4), (RX5, TX5, 2), (RX6, TX6, 3), (RX7, TX7, 7), (RX8, TX8, 10), (RX9, TX9, 16), (RX10, TX10, 36)]
end
section
/-! the methods, numbered; their code in blocks, each instruction with what its numbers mean -/
abbrev zIns : Type := Instr × List Nat
abbrev m_be_init : Nat := 0
abbrev m_be_arrange : Nat := 1
abbrev m_be_turnToBeTaken : Nat := 2
abbrev m_be_sameKind : Nat := 3
abbrev m_be_layBlocks : Nat := 4
abbrev m_be_takeBeginning : Nat := 5
abbrev m_be_takeCommon : Nat := 6
abbrev m_be_takeRoot : Nat := 7
abbrev m_be_isPower : Nat := 8
abbrev m_be_takeShare : Nat := 9
abbrev m_hi_init : Nat := 10
abbrev m_hi_size : Nat := 11
abbrev m_hi_clear : Nat := 12
abbrev m_hi_remember : Nat := 13
abbrev m_hi_takeBack : Nat := 14
abbrev m_la_init : Nat := 15
abbrev m_la_passedBy : Nat := 16
abbrev m_la_rankOf : Nat := 17
abbrev m_la_letPass : Nat := 18
abbrev m_la_flip : Nat := 19
abbrev m_la_swapRanks : Nat := 20
abbrev m_la_copy : Nat := 21
abbrev m_la_same : Nat := 22
abbrev m_la_howManyPairs : Nat := 23
abbrev m_la_readyLetters : Nat := 24
abbrev m_la_howManyLow : Nat := 25
abbrev m_la_howManyTied : Nat := 26
abbrev m_la_partOf : Nat := 27
abbrev m_la_howManyParts : Nat := 28
abbrev m_la_isFree : Nat := 29
abbrev m_la_howManyFree : Nat := 30
abbrev m_la_drawLots : Nat := 31
abbrev m_nu_init : Nat := 32
abbrev m_nu_lacks : Nat := 33
abbrev m_nu_row : Nat := 34
abbrev m_nu_begin : Nat := 35
abbrev m_pa_init : Nat := 36
abbrev m_pa_told : Nat := 37
abbrev m_pa_readWord : Nat := 38
abbrev m_pa_takeSign : Nat := 39
abbrev m_pa_takeOpening : Nat := 40
abbrev m_pa_takeClosing : Nat := 41
abbrev m_pa_takeTimes : Nat := 42
abbrev m_pa_readRules : Nat := 43
abbrev m_pa_change : Nat := 44
abbrev m_pa_isLetter : Nat := 45
abbrev m_ro_init : Nat := 46
abbrev m_ro_size : Nat := 47
abbrev m_ro_get : Nat := 48
abbrev m_ro_set : Nat := 49
abbrev m_ro_has : Nat := 50
abbrev m_ro_clear : Nat := 51
abbrev m_ro_shorten : Nat := 52
abbrev m_ro_add : Nat := 53
abbrev m_ro_insert : Nat := 54
abbrev m_ro_addTimes : Nat := 55
abbrev m_ro_append : Nat := 56
abbrev m_ro_appendPiece : Nat := 57
abbrev m_ro_appendTimes : Nat := 58
abbrev m_ro_appendOnly : Nat := 59
abbrev m_ro_copy : Nat := 60
abbrev m_ro_overwrite : Nat := 61
abbrev m_ro_swapWithNext : Nat := 62
abbrev m_ro_removeFirst : Nat := 63
abbrev m_ro_placeOfTime : Nat := 64
abbrev m_ro_timesOf : Nat := 65
abbrev m_ro_letters : Nat := 66
abbrev m_ro_isWord : Nat := 67
abbrev m_ro_same : Nat := 68
abbrev m_ro_firstOther : Nat := 69
abbrev m_ro_howManyOther : Nat := 70
abbrev m_sh_init : Nat := 71
abbrev m_sh_size : Nat := 72
abbrev m_sh_isFull : Nat := 73
abbrev m_sh_row : Nat := 74
abbrev m_sh_place : Nat := 75
abbrev m_sh_removeLast : Nat := 76
abbrev m_sh_copy : Nat := 77
abbrev m_sh_allLetters : Nat := 78
abbrev m_ta_init : Nat := 79
abbrev m_ta_countAlike : Nat := 80
abbrev m_ta_prepare : Nat := 81
abbrev m_ta_goOn : Nat := 82
abbrev m_ta_countUnlike : Nat := 83
abbrev m_tu_init : Nat := 84
abbrev m_tu_found : Nat := 85
abbrev m_tu_explore : Nat := 86
abbrev m_tu_moveAll : Nat := 87
abbrev m_tu_note : Nat := 88
abbrev m_tu_find : Nat := 89
abbrev m_tu_sortCodes : Nat := 90
abbrev m_tu_letterOf : Nat := 91
abbrev m_tu_movesTo : Nat := 92
abbrev m_tu_codeOf : Nat := 93
abbrev m_tu_decode : Nat := 94
abbrev m_lt_init : Nat := 95
abbrev m_lt_letter : Nat := 96
abbrev m_lt_passes : Nat := 97
abbrev m_lt_ranks : Nat := 98
abbrev m_lt_of : Nat := 99
abbrev m_lt_rules : Nat := 100
abbrev m_lt_word : Nat := 101
abbrev m_lt_at : Nat := 102
abbrev m_lt_drop : Nat := 103
abbrev m_lt_alike : Nat := 104
abbrev m_lt_blocks : Nat := 105
abbrev m_lt_least : Nat := 106
abbrev m_lt_copies : Nat := 107
abbrev m_lt_seen : Nat := 108
abbrev m_lt_spread : Nat := 109
abbrev m_lt_odds : Nat := 110
abbrev m_lt_begins : Nat := 111
abbrev m_lt_common : Nat := 112
abbrev m_lt_product : Nat := 113
abbrev m_lt_power : Nat := 114
abbrev m_lt_changes : Nat := 115
abbrev m_lt_root : Nat := 116
abbrev m_lt_parts : Nat := 117
abbrev m_lt_turned : Nat := 118
abbrev m_lt_turn : Nat := 119
abbrev m_lt_apart : Nat := 120
abbrev m_lt_unlike : Nat := 121
abbrev m_lt_free : Nat := 122
abbrev m_lt_lots : Nat := 123
abbrev m_lt_list : Nat := 124
abbrev m_lt_put : Nat := 125
abbrev m_lt_look : Nat := 126
abbrev m_lt_from : Nat := 127
abbrev m_lt_lays : Nat := 128
abbrev m_lt_judge : Nat := 129
abbrev m_lt_undo : Nat := 130
abbrev m_lt_image : Nat := 131
abbrev m_lt_on : Nat := 132
abbrev m_lt_count : Nat := 133
abbrev m_lt_refuse : Nat := 134
abbrev m_lt_refuseFar : Nat := 135
abbrev m_lt_noWord : Nat := 136
abbrev m_lt_tooLongToTurn : Nat := 137
abbrev m_lt_noLetter : Nat := 138
abbrev m_lt_notTwoLetters : Nat := 139
abbrev m_lt_noList : Nat := 140
abbrev m_lt_noSuch : Nat := 141
abbrev m_lt_answer : Nat := 142
abbrev m_lt_sizeOrCell : Nat := 143
abbrev m_lt_commonDivisor : Nat := 144
abbrev m_mo_init : Nat := 145
abbrev m_mo_isIn : Nat := 146
abbrev m_mo_no : Nat := 147
abbrev m_mo_noLong : Nat := 148
abbrev m_mo_isLetter : Nat := 149
abbrev m_mo_isWord : Nat := 150
abbrev m_mo_passes_ : Nat := 151
abbrev m_mo_letter : Nat := 152
abbrev m_mo_remembers : Nat := 153
abbrev m_mo_turns : Nat := 154
abbrev m_mo_swaps : Nat := 155
abbrev m_mo_areTwo : Nat := 156
abbrev m_mo_passes : Nat := 157
abbrev m_mo_ranks : Nat := 158
abbrev m_mo_of : Nat := 159
abbrev m_mo_here : Nat := 160
abbrev m_mo_fails : Nat := 161
abbrev m_mo_isSign : Nat := 162
abbrev m_mo_rule : Nat := 163
abbrev m_mo_rules : Nat := 164
abbrev m_mo_makes : Nat := 165
abbrev m_mo_times : Nat := 166
abbrev m_mo_reads : Nat := 167
abbrev m_mo_comes : Nat := 168
abbrev m_mo_word : Nat := 169
abbrev m_mo_at : Nat := 170
abbrev m_mo_drop : Nat := 171
abbrev m_mo_loads : Nat := 172
abbrev m_mo_isReady : Nat := 173
abbrev m_mo_goes : Nat := 174
abbrev m_mo_takes : Nat := 175
abbrev m_mo_areAlike : Nat := 176
abbrev m_mo_alike : Nat := 177
abbrev m_mo_block : Nat := 178
abbrev m_mo_blocks : Nat := 179
abbrev m_mo_least : Nat := 180
abbrev m_mo_orders : Nat := 181
abbrev m_mo_copies : Nat := 182
abbrev m_mo_seen : Nat := 183
abbrev m_mo_spread : Nat := 184
abbrev m_mo_common_ : Nat := 185
abbrev m_mo_odds : Nat := 186
abbrev m_mo_placeOf : Nat := 187
abbrev m_mo_begins : Nat := 188
abbrev m_mo_common : Nat := 189
abbrev m_mo_product : Nat := 190
abbrev m_mo_power : Nat := 191
abbrev m_mo_changes : Nat := 192
abbrev m_mo_rootBy : Nat := 193
abbrev m_mo_isRoot : Nat := 194
abbrev m_mo_root : Nat := 195
abbrev m_mo_stands : Nat := 196
abbrev m_mo_partOf : Nat := 197
abbrev m_mo_parts : Nat := 198
abbrev m_mo_numberOf : Nat := 199
abbrev m_mo_lays_ : Nat := 200
abbrev m_mo_finds : Nat := 201
abbrev m_mo_turnsAll : Nat := 202
abbrev m_mo_turned : Nat := 203
abbrev m_mo_turn : Nat := 204
abbrev m_mo_apart : Nat := 205
abbrev m_mo_isFree : Nat := 206
abbrev m_mo_unlike : Nat := 207
abbrev m_mo_free : Nat := 208
abbrev m_mo_lots : Nat := 209
abbrev m_mo_isList : Nat := 210
abbrev m_mo_list : Nat := 211
abbrev m_mo_put : Nat := 212
abbrev m_mo_look : Nat := 213
abbrev m_mo_areThere : Nat := 214
abbrev m_mo_from : Nat := 215
abbrev m_mo_lays : Nat := 216
abbrev m_mo_judge : Nat := 217
abbrev m_mo_undo : Nat := 218
abbrev m_mo_copies_ : Nat := 219
abbrev m_mo_image : Nat := 220
abbrev m_mo_on : Nat := 221
abbrev m_mo_count : Nat := 222
abbrev m_jd_numberOfTrailingZeros : Nat := 223
abbrev m_jd_bitCount : Nat := 224
def zc_be_init : List (Nat × List zIns) := [
  (0, [(.aload_n 0, []), (.invokespecial 3, [999, 184, 5]), (.aload_n 0, []), (.new 9, [5, 185, 2]), (.dup, []), (.bipush 28, []), (.invokespecial 11, [46, 186, 2, 2, 0, 5])]),
  (14, [(.putfield 14, [0, 1, 188, 2]), (.aload_n 0, []), (.new 9, [5, 185, 2]), (.dup, []), (.bipush 28, []), (.invokespecial 11, [46, 186, 2, 2, 0, 5])]),
  (27, [(.putfield 20, [0, 2, 189, 2]), (.aload_n 0, []), (.new 9, [5, 185, 2]), (.dup, []), (.bipush 28, []), (.invokespecial 11, [46, 186, 2, 2, 0, 5])]),
  (40, [(.putfield 23, [0, 3, 190, 2]), (.aload_n 0, []), (.aload_n 1, []), (.putfield 26, [0, 0, 187, 2]), (.return_, [])])]
def zc_be_arrange : List (Nat × List zIns) := [
  (0, [(.aload_n 0, []), (.getfield 14, [0, 1, 188, 2]), (.aload_n 1, []), (.invokevirtual 30, [60, 518, 0, 2, 0, 5])]),
  (8, [(.aload_n 3, []), (.invokevirtual 34, [51, 519, 0, 1, 0, 5])]),
  (12, [(.iconst 0, []), (.istore 4, [])]),
  (15, [(.iload 4, []), (.aload_n 0, []), (.getfield 14, [0, 1, 188, 2]), (.invokevirtual 37, [47, 513, 0, 1, 1, 5])]),
  (24, [(.if_icmp .ge 34, [58]), (.aload_n 0, []), (.getfield 14, [0, 1, 188, 2]), (.iload 4, []), (.invokevirtual 41, [48, 520, 0, 2, 1, 5])]),
  (36, [(.istore 5, []), (.aload_n 3, []), (.aload_n 0, []), (.aload_n 3, []), (.iload 5, []), (.iload_n 2, []), (.invokevirtual 45, [2, 521, 0, 4, 1, 0])]),
  (47, [(.iload 5, []), (.invokevirtual 49, [54, 527, 0, 3, 0, 5])]),
  (52, [(.iinc 4 1, []), (.goto (-40), [15])]),
  (58, [(.return_, [])])]
def zc_be_turnToBeTaken : List (Nat × List zIns) := [
  (0, [(.aload_n 1, []), (.invokevirtual 37, [47, 513, 0, 1, 1, 5])]),
  (4, [(.istore 4, []), (.aload_n 1, []), (.invokevirtual 37, [47, 513, 0, 1, 1, 5])]),
  (10, [(.iconst 1, []), (.isub, []), (.istore 5, [])]),
  (14, [(.iload 5, []), (.ifCond .lt 67, [83]), (.aload_n 0, []), (.getfield 26, [0, 0, 187, 2]), (.iload_n 2, []), (.aload_n 1, []), (.iload 5, []), (.invokevirtual 41, [48, 520, 0, 2, 1, 5])]),
  (30, [(.invokevirtual 53, [18, 525, 0, 3, 4, 2])]),
  (33, [(.ifCond .eq 50, [83]), (.aload_n 0, []), (.getfield 26, [0, 0, 187, 2]), (.iload_n 2, []), (.invokevirtual 59, [17, 526, 0, 2, 1, 2])]),
  (44, [(.aload_n 0, []), (.getfield 26, [0, 0, 187, 2]), (.aload_n 1, []), (.iload 5, []), (.invokevirtual 41, [48, 520, 0, 2, 1, 5])]),
  (54, [(.invokevirtual 59, [17, 526, 0, 2, 1, 2])]),
  (57, [(.if_icmp .le 7, [64]), (.iconst 1, []), (.goto 4, [65])]),
  (64, [(.iconst 0, [])]),
  (65, [(.istore 6, []), (.iload 6, []), (.iload_n 3, []), (.if_icmp .ne 7, [77]), (.iload 5, []), (.istore 4, [])]),
  (77, [(.iinc 5 (-1), []), (.goto (-66), [14])]),
  (83, [(.iload 4, []), (.ireturn, [])])]
def zc_be_sameKind : List (Nat × List zIns) := [
  (0, [(.aload_n 1, []), (.invokevirtual 37, [47, 513, 0, 1, 1, 5])]),
  (4, [(.aload_n 2, []), (.invokevirtual 37, [47, 513, 0, 1, 1, 5])]),
  (8, [(.if_icmp .eq 5, [13]), (.iconst 0, []), (.ireturn, [])]),
  (13, [(.aload_n 0, []), (.aload_n 1, []), (.iconst 0, []), (.aload_n 0, []), (.getfield 20, [0, 2, 189, 2]), (.invokevirtual 62, [1, 514, 0, 4, 0, 0])]),
  (23, [(.aload_n 0, []), (.aload_n 2, []), (.iconst 0, []), (.aload_n 0, []), (.getfield 23, [0, 3, 190, 2]), (.invokevirtual 62, [1, 514, 0, 4, 0, 0])]),
  (33, [(.aload_n 0, []), (.getfield 20, [0, 2, 189, 2]), (.aload_n 0, []), (.getfield 23, [0, 3, 190, 2]), (.invokevirtual 66, [68, 531, 0, 2, 4, 5])]),
  (44, [(.ireturn, [])])]
def zc_be_layBlocks : List (Nat × List zIns) := [
  (0, [(.aload_n 0, []), (.getfield 14, [0, 1, 188, 2]), (.aload_n 1, []), (.invokevirtual 30, [60, 518, 0, 2, 0, 5])]),
  (8, [(.aload_n 2, []), (.invokevirtual 34, [51, 519, 0, 1, 0, 5])]),
  (12, [(.aload_n 1, []), (.invokevirtual 37, [47, 513, 0, 1, 1, 5])]),
  (16, [(.istore_n 3, [])]),
  (17, [(.iload_n 3, []), (.ifCond .le 74, [92]), (.aload_n 0, []), (.getfield 14, [0, 1, 188, 2]), (.invokevirtual 37, [47, 513, 0, 1, 1, 5])]),
  (28, [(.ifCond .le 64, [92]), (.aload_n 0, []), (.getfield 26, [0, 0, 187, 2]), (.aload_n 0, []), (.getfield 14, [0, 1, 188, 2]), (.invokevirtual 70, [24, 548, 0, 2, 1, 2])]),
  (42, [(.istore 4, []), (.iconst 0, []), (.istore 5, [])]),
  (47, [(.iload 5, []), (.bipush 6, []), (.if_icmp .ge 29, [80]), (.iload 4, []), (.iload 5, []), (.ishr, []), (.iconst 1, []), (.iand, []), (.iconst 1, []), (.if_icmp .ne 12, [74]), (.aload_n 0, []), (.getfield 14, [0, 1, 188, 2]), (.iload 5, []), (.invokevirtual 74, [63, 554, 0, 2, 0, 5])]),
  (74, [(.iinc 5 1, []), (.goto (-30), [47])]),
  (80, [(.aload_n 2, []), (.iload 4, []), (.invokevirtual 77, [53, 562, 0, 2, 0, 5])]),
  (86, [(.iinc 3 (-1), []), (.goto (-72), [17])]),
  (92, [(.return_, [])])]
def zc_be_takeBeginning : List (Nat × List zIns) := [
  (0, [(.aload_n 3, []), (.aload_n 1, []), (.invokevirtual 30, [60, 518, 0, 2, 0, 5])]),
  (5, [(.iconst 0, []), (.istore 4, [])]),
  (8, [(.iload 4, []), (.aload_n 2, []), (.invokevirtual 37, [47, 513, 0, 1, 1, 5])]),
  (14, [(.if_icmp .ge 41, [55]), (.aload_n 2, []), (.iload 4, []), (.invokevirtual 41, [48, 520, 0, 2, 1, 5])]),
  (23, [(.istore 5, []), (.aload_n 0, []), (.getfield 26, [0, 0, 187, 2]), (.aload_n 3, []), (.invokevirtual 70, [24, 548, 0, 2, 1, 2])]),
  (33, [(.iload 5, []), (.ishr, []), (.iconst 1, []), (.iand, []), (.ifCond .ne 5, [43]), (.iconst 0, []), (.ireturn, [])]),
  (43, [(.aload_n 3, []), (.iload 5, []), (.invokevirtual 74, [63, 554, 0, 2, 0, 5])]),
  (49, [(.iinc 4 1, []), (.goto (-44), [8])]),
  (55, [(.aload_n 0, []), (.aload_n 3, []), (.iconst 0, []), (.aload_n 3, []), (.invokevirtual 62, [1, 514, 0, 4, 0, 0])]),
  (62, [(.iconst 1, []), (.ireturn, [])])]
def zc_be_takeCommon : List (Nat × List zIns) := [
  (0, [(.aload_n 0, []), (.getfield 20, [0, 2, 189, 2]), (.aload_n 1, []), (.invokevirtual 30, [60, 518, 0, 2, 0, 5])]),
  (8, [(.aload_n 0, []), (.getfield 23, [0, 3, 190, 2]), (.aload_n 2, []), (.invokevirtual 30, [60, 518, 0, 2, 0, 5])]),
  (16, [(.aload_n 3, []), (.invokevirtual 34, [51, 519, 0, 1, 0, 5])]),
  (20, [(.aload_n 1, []), (.invokevirtual 37, [47, 513, 0, 1, 1, 5])]),
  (24, [(.istore 4, [])]),
  (26, [(.iload 4, []), (.ifCond .le 73, [101]), (.aload_n 0, []), (.getfield 26, [0, 0, 187, 2]), (.aload_n 0, []), (.getfield 20, [0, 2, 189, 2]), (.invokevirtual 70, [24, 548, 0, 2, 1, 2])]),
  (42, [(.aload_n 0, []), (.getfield 26, [0, 0, 187, 2]), (.aload_n 0, []), (.getfield 23, [0, 3, 190, 2]), (.invokevirtual 70, [24, 548, 0, 2, 1, 2])]),
  (53, [(.iand, []), (.istore 5, []), (.iload 5, []), (.ifCond .ne 6, [64]), (.goto 40, [101])]),
  (64, [(.iload 5, []), (.invokestatic 80, [223, 650, 1, 1, 1, 99])]),
  (69, [(.istore 6, []), (.aload_n 0, []), (.getfield 20, [0, 2, 189, 2]), (.iload 6, []), (.invokevirtual 74, [63, 554, 0, 2, 0, 5])]),
  (80, [(.aload_n 0, []), (.getfield 23, [0, 3, 190, 2]), (.iload 6, []), (.invokevirtual 74, [63, 554, 0, 2, 0, 5])]),
  (89, [(.aload_n 3, []), (.iload 6, []), (.invokevirtual 77, [53, 562, 0, 2, 0, 5])]),
  (95, [(.iinc 4 (-1), []), (.goto (-72), [26])]),
  (101, [(.aload_n 0, []), (.aload_n 3, []), (.iconst 0, []), (.aload_n 3, []), (.invokevirtual 62, [1, 514, 0, 4, 0, 0])]),
  (108, [(.return_, [])])]
def zc_be_takeRoot : List (Nat × List zIns) := [
  (0, [(.iconst 1, []), (.istore_n 3, []), (.aload_n 1, []), (.invokevirtual 37, [47, 513, 0, 1, 1, 5])]),
  (6, [(.istore 4, [])]),
  (8, [(.iload 4, []), (.iconst 1, []), (.if_icmp .le 26, [37]), (.aload_n 0, []), (.aload_n 1, []), (.iload 4, []), (.aload_n 2, []), (.invokevirtual 85, [8, 682, 0, 4, 4, 0])]),
  (22, [(.ifCond .eq 9, [31]), (.iload 4, []), (.istore_n 3, []), (.goto 9, [37])]),
  (31, [(.iinc 4 (-1), []), (.goto (-26), [8])]),
  (37, [(.aload_n 1, []), (.iload_n 3, []), (.aload_n 2, []), (.invokestatic 89, [9, 690, 1, 3, 0, 0])]),
  (43, [(.aload_n 0, []), (.aload_n 2, []), (.iconst 0, []), (.aload_n 2, []), (.invokevirtual 62, [1, 514, 0, 4, 0, 0])]),
  (50, [(.iload_n 3, []), (.ireturn, [])])]
def zc_be_isPower : List (Nat × List zIns) := [
  (0, [(.iload_n 2, []), (.iconst 1, []), (.if_icmp .ge 5, [7]), (.iconst 0, []), (.ireturn, [])]),
  (7, [(.iconst 0, []), (.istore 4, [])]),
  (10, [(.iload 4, []), (.bipush 6, []), (.if_icmp .ge 22, [36]), (.aload_n 1, []), (.iload 4, []), (.invokevirtual 93, [65, 686, 0, 2, 1, 5])]),
  (23, [(.iload_n 2, []), (.irem, []), (.ifCond .eq 5, [30]), (.iconst 0, []), (.ireturn, [])]),
  (30, [(.iinc 4 1, []), (.goto (-23), [10])]),
  (36, [(.aload_n 1, []), (.iload_n 2, []), (.aload_n 3, []), (.invokestatic 89, [9, 690, 1, 3, 0, 0])]),
  (42, [(.aload_n 0, []), (.getfield 20, [0, 2, 189, 2]), (.invokevirtual 34, [51, 519, 0, 1, 0, 5])]),
  (49, [(.aload_n 0, []), (.getfield 20, [0, 2, 189, 2]), (.aload_n 3, []), (.iload_n 2, []), (.invokevirtual 96, [58, 693, 0, 3, 0, 5])]),
  (58, [(.aload_n 0, []), (.aload_n 0, []), (.getfield 20, [0, 2, 189, 2]), (.iconst 0, []), (.aload_n 0, []), (.getfield 20, [0, 2, 189, 2]), (.invokevirtual 62, [1, 514, 0, 4, 0, 0])]),
  (71, [(.aload_n 0, []), (.aload_n 1, []), (.iconst 0, []), (.aload_n 0, []), (.getfield 23, [0, 3, 190, 2]), (.invokevirtual 62, [1, 514, 0, 4, 0, 0])]),
  (81, [(.aload_n 0, []), (.getfield 20, [0, 2, 189, 2]), (.aload_n 0, []), (.getfield 23, [0, 3, 190, 2]), (.invokevirtual 66, [68, 531, 0, 2, 4, 5])]),
  (92, [(.ireturn, [])])]
def zc_be_takeShare : List (Nat × List zIns) := [
  (0, [(.aload_n 2, []), (.invokevirtual 34, [51, 519, 0, 1, 0, 5])]),
  (4, [(.iload_n 1, []), (.iconst 1, []), (.if_icmp .ge 4, [10]), (.return_, [])]),
  (10, [(.iconst 0, []), (.istore_n 3, [])]),
  (12, [(.iload_n 3, []), (.aload_n 0, []), (.invokevirtual 37, [47, 513, 0, 1, 1, 5])]),
  (17, [(.if_icmp .ge 39, [56]), (.aload_n 0, []), (.iload_n 3, []), (.invokevirtual 41, [48, 520, 0, 2, 1, 5])]),
  (25, [(.istore 4, []), (.aload_n 2, []), (.iload 4, []), (.invokevirtual 93, [65, 686, 0, 2, 1, 5])]),
  (33, [(.aload_n 0, []), (.iload 4, []), (.invokevirtual 93, [65, 686, 0, 2, 1, 5])]),
  (39, [(.iload_n 1, []), (.idiv, []), (.if_icmp .ge 9, [50]), (.aload_n 2, []), (.iload 4, []), (.invokevirtual 77, [53, 562, 0, 2, 0, 5])]),
  (50, [(.iinc 3 1, []), (.goto (-41), [12])]),
  (56, [(.return_, [])])]
def zc_hi_init : List (Nat × List zIns) := [
  (0, [(.aload_n 0, []), (.invokespecial 3, [999, 123, 5]), (.aload_n 0, []), (.bipush 8, []), (.anewarray 9, [23, 124]), (.putfield 11, [1, 0, 127, 2]), (.aload_n 0, []), (.iconst 0, []), (.putfield 17, [1, 1, 128, 0]), (.aload_n 0, []), (.iconst 0, []), (.putfield 21, [1, 2, 129, 0]), (.iconst 0, []), (.istore_n 1, [])]),
  (25, [(.iload_n 1, []), (.bipush 8, []), (.if_icmp .ge 22, [50]), (.aload_n 0, []), (.getfield 11, [1, 0, 127, 2]), (.iload_n 1, []), (.new 9, [2, 124, 2]), (.dup, []), (.invokespecial 24, [15, 126, 2, 1, 0, 2])]),
  (43, [(.aastore, [23]), (.iinc 1 1, []), (.goto (-22), [25])]),
  (50, [(.return_, [])])]
def zc_hi_size : List (Nat × List zIns) := [
  (0, [(.aload_n 0, []), (.getfield 17, [1, 1, 128, 0]), (.ireturn, [])])]
def zc_hi_clear : List (Nat × List zIns) := [
  (0, [(.aload_n 0, []), (.iconst 0, []), (.putfield 17, [1, 1, 128, 0]), (.return_, [])])]
def zc_hi_remember : List (Nat × List zIns) := [
  (0, [(.aload_n 0, []), (.getfield 11, [1, 0, 127, 2]), (.aload_n 0, []), (.getfield 21, [1, 2, 129, 0]), (.aaload, [23]), (.aload_n 1, []), (.invokevirtual 25, [21, 349, 0, 2, 0, 2])]),
  (13, [(.aload_n 0, []), (.aload_n 0, []), (.getfield 21, [1, 2, 129, 0]), (.iconst 1, []), (.iadd, []), (.bipush 8, []), (.irem, []), (.putfield 21, [1, 2, 129, 0]), (.aload_n 0, []), (.aload_n 0, []), (.getfield 17, [1, 1, 128, 0]), (.iconst 1, []), (.iadd, []), (.bipush 8, []), (.invokestatic 29, [998, 353, 7]), (.putfield 17, [1, 1, 128, 0]), (.return_, [])])]
def zc_hi_takeBack : List (Nat × List zIns) := [
  (0, [(.aload_n 0, []), (.getfield 17, [1, 1, 128, 0]), (.ifCond .ne 4, [8]), (.return_, [])]),
  (8, [(.aload_n 0, []), (.aload_n 0, []), (.getfield 21, [1, 2, 129, 0]), (.bipush 8, []), (.iadd, []), (.iconst 1, []), (.isub, []), (.bipush 8, []), (.irem, []), (.putfield 21, [1, 2, 129, 0]), (.aload_n 0, []), (.dup, []), (.getfield 17, [1, 1, 128, 0]), (.iconst 1, []), (.isub, []), (.putfield 17, [1, 1, 128, 0]), (.aload_n 1, []), (.aload_n 0, []), (.getfield 11, [1, 0, 127, 2]), (.aload_n 0, []), (.getfield 21, [1, 2, 129, 0]), (.aaload, [23]), (.invokevirtual 25, [21, 349, 0, 2, 0, 2])]),
  (47, [(.return_, [])])]
def zc_la_init : List (Nat × List zIns) := [
  (0, [(.aload_n 0, []), (.invokespecial 3, [999, 76, 5]), (.aload_n 0, []), (.bipush 6, []), (.newarray .int, [20]), (.putfield 9, [2, 0, 77, 2]), (.aload_n 0, []), (.bipush 6, []), (.newarray .int, [20]), (.putfield 15, [2, 1, 78, 2]), (.iconst 0, []), (.istore_n 1, [])]),
  (22, [(.iload_n 1, []), (.bipush 6, []), (.if_icmp .ge 16, [41]), (.aload_n 0, []), (.getfield 15, [2, 1, 78, 2]), (.iload_n 1, []), (.iload_n 1, []), (.iastore, []), (.iinc 1 1, []), (.goto (-16), [22])]),
  (41, [(.return_, [])])]
def zc_la_passedBy : List (Nat × List zIns) := [
  (0, [(.iload_n 1, []), (.invokestatic 18, [138, 369, 3, 1, 4, 9])]),
  (4, [(.ifCond .eq 7, [11]), (.iconst 0, []), (.goto 9, [17])]),
  (11, [(.aload_n 0, []), (.getfield 9, [2, 0, 77, 2]), (.iload_n 1, []), (.iaload, [])]),
  (17, [(.ireturn, [])])]
def zc_la_rankOf : List (Nat × List zIns) := [
  (0, [(.iload_n 1, []), (.invokestatic 18, [138, 369, 3, 1, 4, 9])]),
  (4, [(.ifCond .eq 8, [12]), (.bipush (-9), []), (.goto 9, [18])]),
  (12, [(.aload_n 0, []), (.getfield 15, [2, 1, 78, 2]), (.iload_n 1, []), (.iaload, [])]),
  (18, [(.ireturn, [])])]
def zc_la_letPass : List (Nat × List zIns) := [
  (0, [(.aload_n 0, []), (.iload_n 1, []), (.invokevirtual 22, [16, 365, 0, 2, 1, 2])]),
  (5, [(.iload_n 2, []), (.ishr, []), (.iconst 1, []), (.iand, []), (.iconst 1, []), (.if_icmp .ne 7, [17]), (.iconst 1, []), (.goto 4, [18])]),
  (17, [(.iconst 0, [])]),
  (18, [(.ireturn, [])])]
def zc_la_flip : List (Nat × List zIns) := [
  (0, [(.iload_n 1, []), (.iload_n 2, []), (.invokestatic 26, [139, 360, 3, 2, 4, 9])]),
  (5, [(.ifCond .eq 4, [9]), (.return_, [])]),
  (9, [(.aload_n 0, []), (.getfield 9, [2, 0, 77, 2]), (.iload_n 1, []), (.dup2, []), (.iaload, []), (.iconst 1, []), (.iload_n 2, []), (.ishl, []), (.ixor, []), (.iastore, []), (.aload_n 0, []), (.getfield 9, [2, 0, 77, 2]), (.iload_n 2, []), (.dup2, []), (.iaload, []), (.iconst 1, []), (.iload_n 1, []), (.ishl, []), (.ixor, []), (.iastore, []), (.return_, [])])]
def zc_la_swapRanks : List (Nat × List zIns) := [
  (0, [(.iload_n 1, []), (.iload_n 2, []), (.invokestatic 26, [139, 360, 3, 2, 4, 9])]),
  (5, [(.ifCond .eq 4, [9]), (.return_, [])]),
  (9, [(.aload_n 0, []), (.getfield 15, [2, 1, 78, 2]), (.iload_n 1, []), (.iaload, []), (.istore_n 3, []), (.aload_n 0, []), (.getfield 15, [2, 1, 78, 2]), (.iload_n 1, []), (.aload_n 0, []), (.getfield 15, [2, 1, 78, 2]), (.iload_n 2, []), (.iaload, []), (.iastore, []), (.aload_n 0, []), (.getfield 15, [2, 1, 78, 2]), (.iload_n 2, []), (.iload_n 3, []), (.iastore, []), (.return_, [])])]
def zc_la_copy : List (Nat × List zIns) := [
  (0, [(.iconst 0, []), (.istore_n 2, [])]),
  (2, [(.iload_n 2, []), (.bipush 6, []), (.if_icmp .ge 33, [38]), (.aload_n 0, []), (.getfield 9, [2, 0, 77, 2]), (.iload_n 2, []), (.aload_n 1, []), (.getfield 9, [2, 0, 77, 2]), (.iload_n 2, []), (.iaload, []), (.iastore, []), (.aload_n 0, []), (.getfield 15, [2, 1, 78, 2]), (.iload_n 2, []), (.aload_n 1, []), (.getfield 15, [2, 1, 78, 2]), (.iload_n 2, []), (.iaload, []), (.iastore, []), (.iinc 2 1, []), (.goto (-33), [2])]),
  (38, [(.return_, [])])]
def zc_la_same : List (Nat × List zIns) := [
  (0, [(.iconst 0, []), (.istore_n 2, [])]),
  (2, [(.iload_n 2, []), (.bipush 6, []), (.if_icmp .ge 41, [46]), (.aload_n 0, []), (.getfield 9, [2, 0, 77, 2]), (.iload_n 2, []), (.iaload, []), (.aload_n 1, []), (.getfield 9, [2, 0, 77, 2]), (.iload_n 2, []), (.iaload, []), (.if_icmp .ne 18, [38]), (.aload_n 0, []), (.getfield 15, [2, 1, 78, 2]), (.iload_n 2, []), (.iaload, []), (.aload_n 1, []), (.getfield 15, [2, 1, 78, 2]), (.iload_n 2, []), (.iaload, []), (.if_icmp .eq 5, [40])]),
  (38, [(.iconst 0, []), (.ireturn, [])]),
  (40, [(.iinc 2 1, []), (.goto (-41), [2])]),
  (46, [(.iconst 1, []), (.ireturn, [])])]
def zc_la_howManyPairs : List (Nat × List zIns) := [
  (0, [(.iconst 0, []), (.istore_n 1, []), (.iconst 0, []), (.istore_n 2, [])]),
  (4, [(.iload_n 2, []), (.bipush 6, []), (.if_icmp .ge 21, [28]), (.iload_n 1, []), (.aload_n 0, []), (.getfield 9, [2, 0, 77, 2]), (.iload_n 2, []), (.iaload, []), (.invokestatic 30, [224, 926, 1, 1, 1, 99])]),
  (20, [(.iadd, []), (.istore_n 1, []), (.iinc 2 1, []), (.goto (-21), [4])]),
  (28, [(.iload_n 1, []), (.iconst 2, []), (.idiv, []), (.ireturn, [])])]
def zc_la_readyLetters : List (Nat × List zIns) := [
  (0, [(.iconst 0, []), (.istore_n 2, []), (.iconst 0, []), (.istore_n 3, []), (.iconst 0, []), (.istore 4, [])]),
  (7, [(.iload 4, []), (.aload_n 1, []), (.invokevirtual 35, [47, 552, 0, 1, 1, 5])]),
  (13, [(.if_icmp .ge 44, [57]), (.aload_n 1, []), (.iload 4, []), (.invokevirtual 41, [48, 553, 0, 2, 1, 5])]),
  (22, [(.istore 5, []), (.iload_n 2, []), (.aload_n 0, []), (.iload 5, []), (.invokevirtual 22, [16, 365, 0, 2, 1, 2])]),
  (31, [(.iconst (-1), []), (.ixor, []), (.iand, []), (.ifCond .ne 10, [44]), (.iload_n 3, []), (.iconst 1, []), (.iload 5, []), (.ishl, []), (.ior, []), (.istore_n 3, [])]),
  (44, [(.iload_n 2, []), (.iconst 1, []), (.iload 5, []), (.ishl, []), (.ior, []), (.istore_n 2, []), (.iinc 4 1, []), (.goto (-47), [7])]),
  (57, [(.iload_n 3, []), (.ireturn, [])])]
def zc_la_howManyLow : List (Nat × List zIns) := [
  (0, [(.iconst 0, []), (.istore_n 2, []), (.iconst 0, []), (.istore_n 3, [])]),
  (4, [(.iload_n 3, []), (.bipush 6, []), (.if_icmp .ge 31, [38]), (.iload_n 1, []), (.iload_n 3, []), (.ishr, []), (.iconst 1, []), (.iand, []), (.iconst 1, []), (.if_icmp .ne 16, [32]), (.aload_n 0, []), (.getfield 15, [2, 1, 78, 2]), (.iload_n 3, []), (.iaload, []), (.iconst 3, []), (.if_icmp .ge 6, [32]), (.iinc 2 1, [])]),
  (32, [(.iinc 3 1, []), (.goto (-31), [4])]),
  (38, [(.iload_n 2, []), (.ireturn, [])])]
def zc_la_howManyTied : List (Nat × List zIns) := [
  (0, [(.iconst 1, []), (.aload_n 1, []), (.iload_n 2, []), (.invokevirtual 41, [48, 553, 0, 2, 1, 5])]),
  (6, [(.ishl, []), (.istore 4, []), (.iconst 0, []), (.istore 5, []), (.iload_n 2, []), (.iload_n 3, []), (.iadd, []), (.istore 6, [])]),
  (17, [(.iload_n 3, []), (.ifCond .eq 60, [78]), (.iload 6, []), (.ifCond .lt 55, [78]), (.iload 6, []), (.aload_n 1, []), (.invokevirtual 35, [47, 552, 0, 1, 1, 5])]),
  (32, [(.if_icmp .ge 46, [78]), (.aload_n 1, []), (.iload 6, []), (.invokevirtual 41, [48, 553, 0, 2, 1, 5])]),
  (41, [(.istore 7, []), (.iload 4, []), (.aload_n 0, []), (.iload 7, []), (.invokevirtual 22, [16, 365, 0, 2, 1, 2])]),
  (51, [(.iconst (-1), []), (.ixor, []), (.iand, []), (.ifCond .eq 15, [69]), (.iload 4, []), (.iconst 1, []), (.iload 7, []), (.ishl, []), (.ior, []), (.istore 4, []), (.iinc 5 1, [])]),
  (69, [(.iload 6, []), (.iload_n 3, []), (.iadd, []), (.istore 6, []), (.goto (-58), [17])]),
  (78, [(.iload 5, []), (.ireturn, [])])]
def zc_la_partOf : List (Nat × List zIns) := [
  (0, [(.iload_n 2, []), (.iconst 1, []), (.iload_n 1, []), (.ishl, []), (.iand, []), (.istore_n 3, []), (.iconst 0, []), (.istore 4, [])]),
  (9, [(.iload 4, []), (.bipush 6, []), (.if_icmp .ge 49, [62]), (.iconst 0, []), (.istore 5, [])]),
  (19, [(.iload 5, []), (.bipush 6, []), (.if_icmp .ge 33, [56]), (.iload_n 3, []), (.iload 5, []), (.ishr, []), (.iconst 1, []), (.iand, []), (.iconst 1, []), (.if_icmp .ne 17, [50]), (.iload_n 3, []), (.iload_n 2, []), (.aload_n 0, []), (.getfield 9, [2, 0, 77, 2]), (.iload 5, []), (.iaload, []), (.iconst (-1), []), (.ixor, []), (.iand, []), (.ior, []), (.istore_n 3, [])]),
  (50, [(.iinc 5 1, []), (.goto (-34), [19])]),
  (56, [(.iinc 4 1, []), (.goto (-50), [9])]),
  (62, [(.iload_n 3, []), (.ireturn, [])])]
def zc_la_howManyParts : List (Nat × List zIns) := [
  (0, [(.iload_n 1, []), (.istore_n 2, []), (.iconst 0, []), (.istore_n 3, []), (.iconst 0, []), (.istore 4, [])]),
  (7, [(.iload 4, []), (.bipush 6, []), (.if_icmp .ge 34, [45]), (.iload_n 2, []), (.iload 4, []), (.ishr, []), (.iconst 1, []), (.iand, []), (.iconst 1, []), (.if_icmp .ne 18, [39]), (.iload_n 2, []), (.aload_n 0, []), (.iload 4, []), (.iload_n 1, []), (.invokevirtual 44, [27, 706, 0, 3, 1, 2])]),
  (32, [(.iconst (-1), []), (.ixor, []), (.iand, []), (.istore_n 2, []), (.iinc 3 1, [])]),
  (39, [(.iinc 4 1, []), (.goto (-35), [7])]),
  (45, [(.iload_n 3, []), (.ireturn, [])])]
def zc_la_isFree : List (Nat × List zIns) := [
  (0, [(.iconst 0, []), (.istore_n 2, [])]),
  (2, [(.iload_n 2, []), (.bipush 6, []), (.if_icmp .ge 41, [46]), (.iload_n 1, []), (.iconst 1, []), (.iload_n 2, []), (.ishl, []), (.iconst (-1), []), (.ixor, []), (.iand, []), (.istore_n 3, []), (.iload_n 1, []), (.iload_n 2, []), (.ishr, []), (.iconst 1, []), (.iand, []), (.iconst 1, []), (.if_icmp .ne 18, [40]), (.iload_n 3, []), (.aload_n 0, []), (.getfield 9, [2, 0, 77, 2]), (.iload_n 2, []), (.iaload, []), (.iconst (-1), []), (.ixor, []), (.iand, []), (.ifCond .eq 5, [40]), (.iconst 0, []), (.ireturn, [])]),
  (40, [(.iinc 2 1, []), (.goto (-41), [2])]),
  (46, [(.iconst 1, []), (.ireturn, [])])]
def zc_la_howManyFree : List (Nat × List zIns) := [
  (0, [(.iconst 0, []), (.istore_n 1, []), (.iconst 0, []), (.istore_n 2, [])]),
  (4, [(.iload_n 2, []), (.bipush 64, []), (.if_icmp .ge 20, [27]), (.aload_n 0, []), (.iload_n 2, []), (.invokevirtual 48, [29, 800, 0, 2, 4, 2])]),
  (15, [(.ifCond .eq 6, [21]), (.iinc 1 1, [])]),
  (21, [(.iinc 2 1, []), (.goto (-20), [4])]),
  (27, [(.iload_n 1, []), (.ireturn, [])])]
def zc_la_drawLots : List (Nat × List zIns) := [
  (0, [(.aload_n 1, []), (.invokevirtual 35, [47, 552, 0, 1, 1, 5])]),
  (4, [(.iconst 1, []), (.isub, []), (.istore 4, []), (.iload 4, []), (.iconst 1, []), (.if_icmp .ge 5, [16]), (.iconst 0, []), (.ireturn, [])]),
  (16, [(.iload_n 3, []), (.istore 5, []), (.iconst 0, []), (.istore 6, []), (.iconst 0, []), (.istore 7, [])]),
  (25, [(.iload 7, []), (.iload_n 2, []), (.if_icmp .ge 63, [91]), (.iload 5, []), (.ldc 51, [1664525, 809]), (.imul, []), (.ldc 52, [1013904223, 810]), (.iadd, []), (.istore 5, []), (.iload 5, []), (.ldc 53, [2147483647, 811]), (.iand, []), (.sipush 256, []), (.idiv, []), (.iload 4, []), (.irem, []), (.istore 8, []), (.aload_n 0, []), (.aload_n 1, []), (.iload 8, []), (.invokevirtual 41, [48, 553, 0, 2, 1, 5])]),
  (62, [(.aload_n 1, []), (.iload 8, []), (.iconst 1, []), (.iadd, []), (.invokevirtual 41, [48, 553, 0, 2, 1, 5])]),
  (70, [(.invokevirtual 54, [18, 812, 0, 3, 4, 2])]),
  (73, [(.ifCond .eq 12, [85]), (.aload_n 1, []), (.iload 8, []), (.invokevirtual 57, [62, 813, 0, 2, 0, 5])]),
  (82, [(.iinc 6 1, [])]),
  (85, [(.iinc 7 1, []), (.goto (-63), [25])]),
  (91, [(.iload 6, []), (.ireturn, [])])]
def zc_nu_init : List (Nat × List zIns) := [
  (0, [(.aload_n 0, []), (.invokespecial 3, [999, 165, 5]), (.aload_n 0, []), (.iconst 3, []), (.anewarray 9, [24, 166]), (.putfield 11, [3, 0, 168, 2]), (.aload_n 0, []), (.iconst 3, []), (.newarray .boolean, [21]), (.putfield 17, [3, 1, 169, 2]), (.aload_n 0, []), (.new 9, [5, 166, 2]), (.dup, []), (.iconst 0, []), (.invokespecial 21, [46, 167, 2, 2, 0, 5])]),
  (28, [(.putfield 24, [3, 2, 170, 2]), (.iconst 0, []), (.istore_n 1, [])]),
  (33, [(.iload_n 1, []), (.iconst 3, []), (.if_icmp .ge 24, [59]), (.aload_n 0, []), (.getfield 11, [3, 0, 168, 2]), (.iload_n 1, []), (.new 9, [5, 166, 2]), (.dup, []), (.bipush 40, []), (.invokespecial 21, [46, 167, 2, 2, 0, 5])]),
  (52, [(.aastore, [24]), (.iinc 1 1, []), (.goto (-23), [33])]),
  (59, [(.return_, [])])]
def zc_nu_lacks : List (Nat × List zIns) := [
  (0, [(.iload_n 1, []), (.invokestatic 28, [140, 836, 3, 1, 4, 9])]),
  (4, [(.ifCond .ne 12, [16]), (.aload_n 0, []), (.getfield 17, [3, 1, 169, 2]), (.iload_n 1, []), (.baload, []), (.ifCond .ne 7, [20])]),
  (16, [(.iconst 1, []), (.goto 4, [21])]),
  (20, [(.iconst 0, [])]),
  (21, [(.ireturn, [])])]
def zc_nu_row : List (Nat × List zIns) := [
  (0, [(.iload_n 1, []), (.invokestatic 28, [140, 836, 3, 1, 4, 9])]),
  (4, [(.ifCond .eq 10, [14]), (.aload_n 0, []), (.getfield 24, [3, 2, 170, 2]), (.goto 9, [20])]),
  (14, [(.aload_n 0, []), (.getfield 11, [3, 0, 168, 2]), (.iload_n 1, []), (.aaload, [24])]),
  (20, [(.areturn, [])])]
def zc_nu_begin : List (Nat × List zIns) := [
  (0, [(.iload_n 1, []), (.invokestatic 28, [140, 836, 3, 1, 4, 9])]),
  (4, [(.ifCond .eq 4, [8]), (.return_, [])]),
  (8, [(.aload_n 0, []), (.getfield 17, [3, 1, 169, 2]), (.iload_n 1, []), (.iconst 1, []), (.bastore, []), (.aload_n 0, []), (.getfield 11, [3, 0, 168, 2]), (.iload_n 1, []), (.aaload, [24]), (.invokevirtual 32, [51, 837, 0, 1, 0, 5])]),
  (24, [(.aload_n 0, []), (.getfield 11, [3, 0, 168, 2]), (.iload_n 1, []), (.aaload, [24]), (.iconst 0, []), (.iload_n 2, []), (.invokevirtual 35, [55, 838, 0, 3, 0, 5])]),
  (35, [(.return_, [])])]
def zc_pa_init : List (Nat × List zIns) := [
  (0, [(.aload_n 0, []), (.invokespecial 3, [999, 144, 5]), (.aload_n 0, []), (.new 9, [5, 145, 2]), (.dup, []), (.bipush 15, []), (.invokespecial 11, [46, 146, 2, 2, 0, 5])]),
  (14, [(.putfield 14, [4, 0, 147, 2]), (.aload_n 0, []), (.iconst 5, []), (.newarray .int, [20]), (.putfield 20, [4, 1, 148, 2]), (.aload_n 0, []), (.iconst 0, []), (.putfield 24, [4, 2, 149, 0]), (.aload_n 0, []), (.bipush (-9), []), (.putfield 28, [4, 3, 150, 0]), (.return_, [])])]
def zc_pa_told : List (Nat × List zIns) := [
  (0, [(.aload_n 0, []), (.getfield 14, [4, 0, 147, 2]), (.areturn, [])])]
def zc_pa_readWord : List (Nat × List zIns) := [
  (0, [(.aload_n 0, []), (.getfield 14, [4, 0, 147, 2]), (.invokevirtual 31, [51, 427, 0, 1, 0, 5])]),
  (7, [(.aload_n 0, []), (.iconst 0, []), (.putfield 24, [4, 2, 149, 0]), (.aload_n 0, []), (.bipush (-9), []), (.putfield 28, [4, 3, 150, 0]), (.iconst 0, []), (.istore_n 2, [])]),
  (20, [(.iload_n 2, []), (.aload_n 1, []), (.invokevirtual 34, [47, 402, 0, 1, 1, 5])]),
  (25, [(.if_icmp .ge 27, [52]), (.aload_n 0, []), (.aload_n 1, []), (.iload_n 2, []), (.invokevirtual 38, [48, 403, 0, 2, 1, 5])]),
  (34, [(.invokevirtual 42, [39, 428, 0, 2, 4, 4])]),
  (37, [(.ifCond .ne 9, [46]), (.sipush (-1000), []), (.iload_n 2, []), (.isub, []), (.ireturn, [])]),
  (46, [(.iinc 2 1, []), (.goto (-29), [20])]),
  (52, [(.aload_n 0, []), (.getfield 24, [4, 2, 149, 0]), (.ifCond .le 14, [70]), (.sipush (-1000), []), (.aload_n 1, []), (.invokevirtual 34, [47, 402, 0, 1, 1, 5])]),
  (66, [(.isub, []), (.goto 4, [71])]),
  (70, [(.iconst 0, [])]),
  (71, [(.ireturn, [])])]
def zc_pa_takeSign : List (Nat × List zIns) := [
  (0, [(.iload_n 1, []), (.invokestatic 46, [45, 407, 1, 1, 4, 4])]),
  (4, [(.ifCond .eq 27, [31]), (.aload_n 0, []), (.aload_n 0, []), (.getfield 14, [4, 0, 147, 2]), (.invokevirtual 34, [47, 402, 0, 1, 1, 5])]),
  (15, [(.putfield 28, [4, 3, 150, 0]), (.aload_n 0, []), (.getfield 14, [4, 0, 147, 2]), (.iload_n 1, []), (.bipush 97, []), (.isub, []), (.invokevirtual 49, [53, 432, 0, 2, 0, 5])]),
  (29, [(.iconst 1, []), (.ireturn, [])]),
  (31, [(.iload_n 1, []), (.bipush 48, []), (.if_icmp .lt 18, [52]), (.iload_n 1, []), (.bipush 57, []), (.if_icmp .gt 12, [52]), (.aload_n 0, []), (.iload_n 1, []), (.bipush 48, []), (.isub, []), (.invokevirtual 52, [42, 433, 0, 2, 4, 4])]),
  (51, [(.ireturn, [])]),
  (52, [(.iload_n 1, []), (.bipush 40, []), (.if_icmp .ne 8, [63]), (.aload_n 0, []), (.invokevirtual 55, [40, 450, 0, 1, 4, 4])]),
  (62, [(.ireturn, [])]),
  (63, [(.iload_n 1, []), (.bipush 41, []), (.if_icmp .ne 14, [80]), (.aload_n 0, []), (.invokevirtual 59, [41, 454, 0, 1, 4, 4])]),
  (73, [(.ifCond .eq 7, [80]), (.iconst 1, []), (.goto 4, [81])]),
  (80, [(.iconst 0, [])]),
  (81, [(.ireturn, [])])]
def zc_pa_takeOpening : List (Nat × List zIns) := [
  (0, [(.aload_n 0, []), (.getfield 24, [4, 2, 149, 0]), (.iconst 5, []), (.if_icmp .lt 5, [10]), (.iconst 0, []), (.ireturn, [])]),
  (10, [(.aload_n 0, []), (.getfield 20, [4, 1, 148, 2]), (.aload_n 0, []), (.getfield 24, [4, 2, 149, 0]), (.aload_n 0, []), (.getfield 14, [4, 0, 147, 2]), (.invokevirtual 34, [47, 402, 0, 1, 1, 5])]),
  (25, [(.iastore, []), (.aload_n 0, []), (.dup, []), (.getfield 24, [4, 2, 149, 0]), (.iconst 1, []), (.iadd, []), (.putfield 24, [4, 2, 149, 0]), (.aload_n 0, []), (.bipush (-9), []), (.putfield 28, [4, 3, 150, 0]), (.iconst 1, []), (.ireturn, [])])]
def zc_pa_takeClosing : List (Nat × List zIns) := [
  (0, [(.aload_n 0, []), (.getfield 24, [4, 2, 149, 0]), (.ifCond .ne 5, [9]), (.iconst 0, []), (.ireturn, [])]),
  (9, [(.aload_n 0, []), (.dup, []), (.getfield 24, [4, 2, 149, 0]), (.iconst 1, []), (.isub, []), (.putfield 24, [4, 2, 149, 0]), (.aload_n 0, []), (.aload_n 0, []), (.getfield 20, [4, 1, 148, 2]), (.aload_n 0, []), (.getfield 24, [4, 2, 149, 0]), (.iaload, []), (.putfield 28, [4, 3, 150, 0]), (.iconst 1, []), (.ireturn, [])])]
def zc_pa_takeTimes : List (Nat × List zIns) := [
  (0, [(.aload_n 0, []), (.getfield 28, [4, 3, 150, 0]), (.bipush (-9), []), (.if_icmp .ne 5, [11]), (.iconst 0, []), (.ireturn, [])]),
  (11, [(.aload_n 0, []), (.getfield 14, [4, 0, 147, 2]), (.invokevirtual 34, [47, 402, 0, 1, 1, 5])]),
  (18, [(.aload_n 0, []), (.getfield 28, [4, 3, 150, 0]), (.isub, []), (.istore_n 2, []), (.iload_n 1, []), (.ifCond .ne 14, [39]), (.aload_n 0, []), (.getfield 14, [4, 0, 147, 2]), (.aload_n 0, []), (.getfield 28, [4, 3, 150, 0]), (.invokevirtual 62, [52, 437, 0, 2, 0, 5])]),
  (39, [(.iconst 1, []), (.istore_n 3, [])]),
  (41, [(.iload_n 3, []), (.iload_n 1, []), (.if_icmp .ge 25, [68]), (.aload_n 0, []), (.getfield 14, [4, 0, 147, 2]), (.aload_n 0, []), (.getfield 14, [4, 0, 147, 2]), (.aload_n 0, []), (.getfield 28, [4, 3, 150, 0]), (.iload_n 2, []), (.invokevirtual 65, [57, 441, 0, 4, 0, 5])]),
  (62, [(.iinc 3 1, []), (.goto (-24), [41])]),
  (68, [(.aload_n 0, []), (.bipush (-9), []), (.putfield 28, [4, 3, 150, 0]), (.iconst 1, []), (.ireturn, [])])]
def zc_pa_readRules : List (Nat × List zIns) := [
  (0, [(.iconst 0, []), (.istore_n 3, []), (.iconst 0, []), (.istore 4, []), (.bipush (-9), []), (.istore 5, []), (.iconst 0, []), (.istore 6, []), (.iconst 0, []), (.istore 7, [])]),
  (15, [(.iload 7, []), (.aload_n 1, []), (.invokevirtual 34, [47, 402, 0, 1, 1, 5])]),
  (21, [(.if_icmp .ge 141, [162]), (.aload_n 1, []), (.iload 7, []), (.invokevirtual 38, [48, 403, 0, 2, 1, 5])]),
  (30, [(.istore 8, []), (.iload 8, []), (.invokestatic 46, [45, 407, 1, 1, 4, 4])]),
  (37, [(.ifCond .eq 11, [48]), (.iload 8, []), (.bipush 97, []), (.isub, []), (.goto 5, [50])]),
  (48, [(.bipush (-9), [])]),
  (50, [(.istore 9, []), (.iload_n 3, []), (.ifCond .ne 18, [71]), (.iload 8, []), (.bipush 60, []), (.if_icmp .ne 11, [71]), (.iconst 1, []), (.istore 4, []), (.iconst 1, []), (.istore_n 3, []), (.goto 88, [156])]),
  (71, [(.iload_n 3, []), (.iconst 1, []), (.if_icmp .gt 19, [92]), (.iload 9, []), (.bipush (-9), []), (.if_icmp .eq 12, [92]), (.iload 9, []), (.istore 5, []), (.iconst 2, []), (.istore_n 3, []), (.goto 67, [156])]),
  (92, [(.iload_n 3, []), (.iconst 2, []), (.if_icmp .ne 35, [129]), (.iload 9, []), (.bipush (-9), []), (.if_icmp .eq 28, [129]), (.iload 9, []), (.iload 5, []), (.if_icmp .eq 21, [129]), (.aload_n 2, []), (.iload 4, []), (.iload 5, []), (.iload 9, []), (.invokestatic 69, [44, 410, 1, 4, 0, 4])]),
  (121, [(.iinc 6 1, []), (.iconst 3, []), (.istore_n 3, []), (.goto 30, [156])]),
  (129, [(.iload_n 3, []), (.iconst 3, []), (.if_icmp .ne 18, [149]), (.iload 8, []), (.bipush 44, []), (.if_icmp .ne 11, [149]), (.iconst 0, []), (.istore 4, []), (.iconst 0, []), (.istore_n 3, []), (.goto 10, [156])]),
  (149, [(.sipush (-1000), []), (.iload 7, []), (.isub, []), (.ireturn, [])]),
  (156, [(.iinc 7 1, []), (.goto (-144), [15])]),
  (162, [(.iload_n 3, []), (.iconst 3, []), (.if_icmp .ne 8, [172]), (.iload 6, []), (.goto 11, [180])]),
  (172, [(.sipush (-1000), []), (.aload_n 1, []), (.invokevirtual 34, [47, 402, 0, 1, 1, 5])]),
  (179, [(.isub, [])]),
  (180, [(.ireturn, [])])]
def zc_pa_change : List (Nat × List zIns) := [
  (0, [(.iload_n 1, []), (.ifCond .eq 12, [13]), (.aload_n 0, []), (.iload_n 2, []), (.iload_n 3, []), (.invokevirtual 73, [20, 413, 0, 3, 0, 2])]),
  (10, [(.goto 9, [19])]),
  (13, [(.aload_n 0, []), (.iload_n 2, []), (.iload_n 3, []), (.invokevirtual 79, [19, 414, 0, 3, 0, 2])]),
  (19, [(.return_, [])])]
def zc_pa_isLetter : List (Nat × List zIns) := [
  (0, [(.iload_n 0, []), (.bipush 97, []), (.if_icmp .lt 13, [16]), (.iload_n 0, []), (.bipush 103, []), (.if_icmp .ge 7, [16]), (.iconst 1, []), (.goto 4, [17])]),
  (16, [(.iconst 0, [])]),
  (17, [(.ireturn, [])])]
def zc_ro_init : List (Nat × List zIns) := [
  (0, [(.aload_n 0, []), (.invokespecial 3, [999, 97, 5]), (.aload_n 0, []), (.iconst 0, []), (.putfield 9, [5, 1, 102, 0]), (.aload_n 0, []), (.iload_n 1, []), (.iconst 0, []), (.invokestatic 15, [998, 98, 6]), (.newarray .int, [20]), (.putfield 21, [5, 0, 101, 2]), (.return_, [])])]
def zc_ro_size : List (Nat × List zIns) := [
  (0, [(.aload_n 0, []), (.getfield 9, [5, 1, 102, 0]), (.ireturn, [])])]
def zc_ro_get : List (Nat × List zIns) := [
  (0, [(.iload_n 1, []), (.ifCond .lt 20, [21]), (.iload_n 1, []), (.aload_n 0, []), (.getfield 9, [5, 1, 102, 0]), (.if_icmp .ge 12, [21]), (.aload_n 0, []), (.getfield 21, [5, 0, 101, 2]), (.iload_n 1, []), (.iaload, []), (.goto 5, [23])]),
  (21, [(.bipush (-9), [])]),
  (23, [(.ireturn, [])])]
def zc_ro_set : List (Nat × List zIns) := [
  (0, [(.iload_n 1, []), (.ifCond .lt 18, [19]), (.iload_n 1, []), (.aload_n 0, []), (.getfield 9, [5, 1, 102, 0]), (.if_icmp .ge 10, [19]), (.aload_n 0, []), (.getfield 21, [5, 0, 101, 2]), (.iload_n 1, []), (.iload_n 2, []), (.iastore, [])]),
  (19, [(.return_, [])])]
def zc_ro_has : List (Nat × List zIns) := [
  (0, [(.iload_n 2, []), (.ifCond .eq 25, [26]), (.iload_n 1, []), (.ifCond .lt 25, [30]), (.iload_n 2, []), (.ifCond .le 21, [30]), (.iload_n 1, []), (.i2l, []), (.iload_n 2, []), (.i2l, []), (.ladd, []), (.aload_n 0, []), (.getfield 9, [5, 1, 102, 0]), (.i2l, []), (.lcmp, []), (.ifCond .gt 7, [30])]),
  (26, [(.iconst 1, []), (.goto 4, [31])]),
  (30, [(.iconst 0, [])]),
  (31, [(.ireturn, [])])]
def zc_ro_clear : List (Nat × List zIns) := [
  (0, [(.aload_n 0, []), (.iconst 0, []), (.putfield 9, [5, 1, 102, 0]), (.return_, [])])]
def zc_ro_shorten : List (Nat × List zIns) := [
  (0, [(.iload_n 1, []), (.ifCond .lt 16, [17]), (.iload_n 1, []), (.aload_n 0, []), (.getfield 9, [5, 1, 102, 0]), (.if_icmp .ge 8, [17]), (.aload_n 0, []), (.iload_n 1, []), (.putfield 9, [5, 1, 102, 0])]),
  (17, [(.return_, [])])]
def zc_ro_add : List (Nat × List zIns) := [
  (0, [(.aload_n 0, []), (.getfield 9, [5, 1, 102, 0]), (.aload_n 0, []), (.getfield 21, [5, 0, 101, 2]), (.arraylength, []), (.if_icmp .ge 23, [32]), (.aload_n 0, []), (.getfield 21, [5, 0, 101, 2]), (.aload_n 0, []), (.getfield 9, [5, 1, 102, 0]), (.iload_n 1, []), (.iastore, []), (.aload_n 0, []), (.dup, []), (.getfield 9, [5, 1, 102, 0]), (.iconst 1, []), (.iadd, []), (.putfield 9, [5, 1, 102, 0])]),
  (32, [(.return_, [])])]
def zc_ro_insert : List (Nat × List zIns) := [
  (0, [(.iload_n 1, []), (.ifCond .lt 23, [24]), (.iload_n 1, []), (.aload_n 0, []), (.getfield 9, [5, 1, 102, 0]), (.if_icmp .gt 15, [24]), (.aload_n 0, []), (.getfield 9, [5, 1, 102, 0]), (.aload_n 0, []), (.getfield 21, [5, 0, 101, 2]), (.arraylength, []), (.if_icmp .lt 4, [25])]),
  (24, [(.return_, [])]),
  (25, [(.aload_n 0, []), (.getfield 9, [5, 1, 102, 0]), (.istore_n 3, [])]),
  (30, [(.iload_n 3, []), (.iload_n 1, []), (.if_icmp .le 23, [55]), (.aload_n 0, []), (.getfield 21, [5, 0, 101, 2]), (.iload_n 3, []), (.aload_n 0, []), (.getfield 21, [5, 0, 101, 2]), (.iload_n 3, []), (.iconst 1, []), (.isub, []), (.iaload, []), (.iastore, []), (.iinc 3 (-1), []), (.goto (-22), [30])]),
  (55, [(.aload_n 0, []), (.getfield 21, [5, 0, 101, 2]), (.iload_n 1, []), (.iload_n 2, []), (.iastore, []), (.aload_n 0, []), (.dup, []), (.getfield 9, [5, 1, 102, 0]), (.iconst 1, []), (.iadd, []), (.putfield 9, [5, 1, 102, 0]), (.return_, [])])]
def zc_ro_addTimes : List (Nat × List zIns) := [
  (0, [(.iload_n 2, []), (.aload_n 0, []), (.getfield 21, [5, 0, 101, 2]), (.arraylength, []), (.invokestatic 25, [998, 449, 7]), (.istore_n 3, []), (.iconst 0, []), (.istore 4, [])]),
  (13, [(.iload 4, []), (.iload_n 3, []), (.if_icmp .ge 14, [30]), (.aload_n 0, []), (.iload_n 1, []), (.invokevirtual 28, [53, 611, 0, 2, 0, 5])]),
  (24, [(.iinc 4 1, []), (.goto (-14), [13])]),
  (30, [(.return_, [])])]
def zc_ro_append : List (Nat × List zIns) := [
  (0, [(.aload_n 0, []), (.aload_n 1, []), (.iconst 0, []), (.aload_n 1, []), (.getfield 9, [5, 1, 102, 0]), (.invokevirtual 32, [57, 476, 0, 4, 0, 5])]),
  (10, [(.return_, [])])]
def zc_ro_appendPiece : List (Nat × List zIns) := [
  (0, [(.aload_n 1, []), (.iload_n 2, []), (.iload_n 3, []), (.invokevirtual 36, [50, 445, 0, 3, 4, 5])]),
  (6, [(.ifCond .ne 4, [10]), (.return_, [])]),
  (10, [(.iload_n 3, []), (.aload_n 0, []), (.getfield 21, [5, 0, 101, 2]), (.arraylength, []), (.aload_n 0, []), (.getfield 9, [5, 1, 102, 0]), (.isub, []), (.invokestatic 25, [998, 449, 7]), (.istore 4, []), (.iconst 0, []), (.istore 5, [])]),
  (29, [(.iload 5, []), (.iload 4, []), (.if_icmp .ge 30, [63]), (.aload_n 0, []), (.getfield 21, [5, 0, 101, 2]), (.aload_n 0, []), (.getfield 9, [5, 1, 102, 0]), (.iload 5, []), (.iadd, []), (.aload_n 1, []), (.getfield 21, [5, 0, 101, 2]), (.iload_n 2, []), (.iload 5, []), (.iadd, []), (.iaload, []), (.iastore, []), (.iinc 5 1, []), (.goto (-31), [29])]),
  (63, [(.aload_n 0, []), (.dup, []), (.getfield 9, [5, 1, 102, 0]), (.iload 4, []), (.iadd, []), (.putfield 9, [5, 1, 102, 0]), (.return_, [])])]
def zc_ro_appendTimes : List (Nat × List zIns) := [
  (0, [(.iload_n 2, []), (.aload_n 0, []), (.getfield 21, [5, 0, 101, 2]), (.arraylength, []), (.invokestatic 25, [998, 449, 7]), (.istore_n 3, []), (.iconst 0, []), (.istore 4, [])]),
  (13, [(.iload 4, []), (.iload_n 3, []), (.if_icmp .ge 14, [30]), (.aload_n 0, []), (.aload_n 1, []), (.invokevirtual 40, [56, 669, 0, 2, 0, 5])]),
  (24, [(.iinc 4 1, []), (.goto (-14), [13])]),
  (30, [(.return_, [])])]
def zc_ro_appendOnly : List (Nat × List zIns) := [
  (0, [(.iconst 0, []), (.istore_n 3, [])]),
  (2, [(.iload_n 3, []), (.aload_n 1, []), (.getfield 9, [5, 1, 102, 0]), (.if_icmp .ge 32, [39]), (.aload_n 1, []), (.iload_n 3, []), (.invokevirtual 44, [48, 539, 0, 2, 1, 5])]),
  (15, [(.istore 4, []), (.iload_n 2, []), (.iload 4, []), (.ishr, []), (.iconst 1, []), (.iand, []), (.iconst 1, []), (.if_icmp .ne 9, [33]), (.aload_n 0, []), (.iload 4, []), (.invokevirtual 28, [53, 611, 0, 2, 0, 5])]),
  (33, [(.iinc 3 1, []), (.goto (-34), [2])]),
  (39, [(.return_, [])])]
def zc_ro_copy : List (Nat × List zIns) := [
  (0, [(.aload_n 0, []), (.invokevirtual 48, [51, 475, 0, 1, 0, 5])]),
  (4, [(.aload_n 0, []), (.aload_n 1, []), (.iconst 0, []), (.aload_n 1, []), (.getfield 9, [5, 1, 102, 0]), (.invokevirtual 32, [57, 476, 0, 4, 0, 5])]),
  (14, [(.return_, [])])]
def zc_ro_overwrite : List (Nat × List zIns) := [
  (0, [(.iconst 0, []), (.istore_n 3, [])]),
  (2, [(.iload_n 3, []), (.aload_n 2, []), (.getfield 9, [5, 1, 102, 0]), (.if_icmp .ge 21, [28]), (.aload_n 0, []), (.iload_n 1, []), (.iload_n 3, []), (.iadd, []), (.aload_n 2, []), (.iload_n 3, []), (.invokevirtual 44, [48, 539, 0, 2, 1, 5])]),
  (19, [(.invokevirtual 51, [49, 817, 0, 3, 0, 5])]),
  (22, [(.iinc 3 1, []), (.goto (-23), [2])]),
  (28, [(.return_, [])])]
def zc_ro_swapWithNext : List (Nat × List zIns) := [
  (0, [(.aload_n 0, []), (.iload_n 1, []), (.invokevirtual 44, [48, 539, 0, 2, 1, 5])]),
  (5, [(.istore_n 2, []), (.aload_n 0, []), (.iload_n 1, []), (.aload_n 0, []), (.iload_n 1, []), (.iconst 1, []), (.iadd, []), (.invokevirtual 44, [48, 539, 0, 2, 1, 5])]),
  (15, [(.invokevirtual 51, [49, 817, 0, 3, 0, 5])]),
  (18, [(.aload_n 0, []), (.iload_n 1, []), (.iconst 1, []), (.iadd, []), (.iload_n 2, []), (.invokevirtual 51, [49, 817, 0, 3, 0, 5])]),
  (26, [(.return_, [])])]
def zc_ro_removeFirst : List (Nat × List zIns) := [
  (0, [(.aload_n 0, []), (.iload_n 1, []), (.iconst 0, []), (.invokevirtual 55, [64, 558, 0, 3, 1, 5])]),
  (6, [(.istore_n 2, []), (.iload_n 2, []), (.ifCond .ge 4, [12]), (.return_, [])]),
  (12, [(.iload_n 2, []), (.iconst 1, []), (.iadd, []), (.istore_n 3, [])]),
  (16, [(.iload_n 3, []), (.aload_n 0, []), (.getfield 9, [5, 1, 102, 0]), (.if_icmp .ge 23, [44]), (.aload_n 0, []), (.getfield 21, [5, 0, 101, 2]), (.iload_n 3, []), (.iconst 1, []), (.isub, []), (.aload_n 0, []), (.getfield 21, [5, 0, 101, 2]), (.iload_n 3, []), (.iaload, []), (.iastore, []), (.iinc 3 1, []), (.goto (-25), [16])]),
  (44, [(.aload_n 0, []), (.dup, []), (.getfield 9, [5, 1, 102, 0]), (.iconst 1, []), (.isub, []), (.putfield 9, [5, 1, 102, 0]), (.return_, [])])]
def zc_ro_placeOfTime : List (Nat × List zIns) := [
  (0, [(.iconst 0, []), (.istore_n 3, []), (.iconst 0, []), (.istore 4, [])]),
  (5, [(.iload 4, []), (.aload_n 0, []), (.getfield 9, [5, 1, 102, 0]), (.if_icmp .ge 31, [42]), (.aload_n 0, []), (.getfield 21, [5, 0, 101, 2]), (.iload 4, []), (.iaload, []), (.iload_n 1, []), (.if_icmp .ne 14, [36]), (.iload_n 3, []), (.iload_n 2, []), (.if_icmp .ne 6, [33]), (.iload 4, []), (.ireturn, [])]),
  (33, [(.iinc 3 1, [])]),
  (36, [(.iinc 4 1, []), (.goto (-34), [5])]),
  (42, [(.bipush (-9), []), (.ireturn, [])])]
def zc_ro_timesOf : List (Nat × List zIns) := [
  (0, [(.iconst 0, []), (.istore_n 2, []), (.iconst 0, []), (.istore_n 3, [])]),
  (4, [(.iload_n 3, []), (.aload_n 0, []), (.getfield 9, [5, 1, 102, 0]), (.if_icmp .ge 22, [31]), (.aload_n 0, []), (.getfield 21, [5, 0, 101, 2]), (.iload_n 3, []), (.iaload, []), (.iload_n 1, []), (.if_icmp .ne 6, [25]), (.iinc 2 1, [])]),
  (25, [(.iinc 3 1, []), (.goto (-24), [4])]),
  (31, [(.iload_n 2, []), (.ireturn, [])])]
def zc_ro_letters : List (Nat × List zIns) := [
  (0, [(.iconst 0, []), (.istore_n 1, []), (.iconst 0, []), (.istore_n 2, [])]),
  (4, [(.iload_n 2, []), (.aload_n 0, []), (.getfield 9, [5, 1, 102, 0]), (.if_icmp .ge 20, [29]), (.iload_n 1, []), (.iconst 1, []), (.aload_n 0, []), (.getfield 21, [5, 0, 101, 2]), (.iload_n 2, []), (.iaload, []), (.ishl, []), (.ior, []), (.istore_n 1, []), (.iinc 2 1, []), (.goto (-22), [4])]),
  (29, [(.iload_n 1, []), (.ireturn, [])])]
def zc_ro_isWord : List (Nat × List zIns) := [
  (0, [(.iconst 0, []), (.istore_n 1, [])]),
  (2, [(.iload_n 1, []), (.aload_n 0, []), (.getfield 9, [5, 1, 102, 0]), (.if_icmp .ge 23, [30]), (.aload_n 0, []), (.getfield 21, [5, 0, 101, 2]), (.iload_n 1, []), (.iaload, []), (.invokestatic 58, [138, 871, 3, 1, 4, 9])]),
  (19, [(.ifCond .eq 5, [24]), (.iconst 0, []), (.ireturn, [])]),
  (24, [(.iinc 1 1, []), (.goto (-25), [2])]),
  (30, [(.iconst 1, []), (.ireturn, [])])]
def zc_ro_same : List (Nat × List zIns) := [
  (0, [(.aload_n 0, []), (.getfield 9, [5, 1, 102, 0]), (.aload_n 1, []), (.getfield 9, [5, 1, 102, 0]), (.if_icmp .ne 17, [25]), (.aload_n 0, []), (.aload_n 1, []), (.invokevirtual 62, [69, 535, 0, 2, 1, 5])]),
  (16, [(.bipush (-9), []), (.if_icmp .ne 7, [25]), (.iconst 1, []), (.goto 4, [26])]),
  (25, [(.iconst 0, [])]),
  (26, [(.ireturn, [])])]
def zc_ro_firstOther : List (Nat × List zIns) := [
  (0, [(.iconst 0, []), (.istore_n 2, [])]),
  (2, [(.iload_n 2, []), (.aload_n 0, []), (.getfield 9, [5, 1, 102, 0]), (.if_icmp .ge 33, [40]), (.iload_n 2, []), (.aload_n 1, []), (.getfield 9, [5, 1, 102, 0]), (.if_icmp .ge 17, [32]), (.aload_n 0, []), (.getfield 21, [5, 0, 101, 2]), (.iload_n 2, []), (.iaload, []), (.aload_n 1, []), (.iload_n 2, []), (.invokevirtual 44, [48, 539, 0, 2, 1, 5])]),
  (29, [(.if_icmp .eq 5, [34])]),
  (32, [(.iload_n 2, []), (.ireturn, [])]),
  (34, [(.iinc 2 1, []), (.goto (-35), [2])]),
  (40, [(.bipush (-9), []), (.ireturn, [])])]
def zc_ro_howManyOther : List (Nat × List zIns) := [
  (0, [(.iconst 0, []), (.istore_n 2, []), (.iconst 0, []), (.istore_n 3, [])]),
  (4, [(.iload_n 3, []), (.aload_n 0, []), (.getfield 9, [5, 1, 102, 0]), (.if_icmp .ge 26, [35]), (.aload_n 0, []), (.getfield 21, [5, 0, 101, 2]), (.iload_n 3, []), (.iaload, []), (.aload_n 1, []), (.iload_n 3, []), (.invokevirtual 44, [48, 539, 0, 2, 1, 5])]),
  (23, [(.if_icmp .eq 6, [29]), (.iinc 2 1, [])]),
  (29, [(.iinc 3 1, []), (.goto (-28), [4])]),
  (35, [(.iload_n 2, []), (.ireturn, [])])]
def zc_sh_init : List (Nat × List zIns) := [
  (0, [(.aload_n 0, []), (.invokespecial 3, [999, 90, 5]), (.aload_n 0, []), (.iconst 5, []), (.anewarray 9, [24, 91]), (.putfield 11, [6, 0, 108, 2]), (.aload_n 0, []), (.new 9, [5, 91, 2]), (.dup, []), (.iconst 0, []), (.invokespecial 17, [46, 94, 2, 2, 0, 5])]),
  (21, [(.putfield 20, [6, 1, 109, 2]), (.aload_n 0, []), (.iconst 0, []), (.putfield 24, [6, 2, 110, 0]), (.iconst 0, []), (.istore_n 1, [])]),
  (31, [(.iload_n 1, []), (.iconst 5, []), (.if_icmp .ge 24, [57]), (.aload_n 0, []), (.getfield 11, [6, 0, 108, 2]), (.iload_n 1, []), (.new 9, [5, 91, 2]), (.dup, []), (.bipush 14, []), (.invokespecial 17, [46, 94, 2, 2, 0, 5])]),
  (50, [(.aastore, [24]), (.iinc 1 1, []), (.goto (-23), [31])]),
  (57, [(.return_, [])])]
def zc_sh_size : List (Nat × List zIns) := [
  (0, [(.aload_n 0, []), (.getfield 24, [6, 2, 110, 0]), (.ireturn, [])])]
def zc_sh_isFull : List (Nat × List zIns) := [
  (0, [(.aload_n 0, []), (.getfield 24, [6, 2, 110, 0]), (.iconst 5, []), (.if_icmp .lt 7, [12]), (.iconst 1, []), (.goto 4, [13])]),
  (12, [(.iconst 0, [])]),
  (13, [(.ireturn, [])])]
def zc_sh_row : List (Nat × List zIns) := [
  (0, [(.iload_n 1, []), (.ifCond .lt 20, [21]), (.iload_n 1, []), (.aload_n 0, []), (.getfield 24, [6, 2, 110, 0]), (.if_icmp .ge 12, [21]), (.aload_n 0, []), (.getfield 11, [6, 0, 108, 2]), (.iload_n 1, []), (.aaload, [24]), (.goto 7, [25])]),
  (21, [(.aload_n 0, []), (.getfield 20, [6, 1, 109, 2])]),
  (25, [(.areturn, [])])]
def zc_sh_place : List (Nat × List zIns) := [
  (0, [(.aload_n 0, []), (.invokevirtual 28, [73, 470, 0, 1, 4, 6])]),
  (4, [(.ifCond .eq 6, [10]), (.bipush (-9), []), (.ireturn, [])]),
  (10, [(.aload_n 0, []), (.getfield 11, [6, 0, 108, 2]), (.aload_n 0, []), (.getfield 24, [6, 2, 110, 0]), (.aaload, [24]), (.aload_n 1, []), (.invokevirtual 32, [60, 471, 0, 2, 0, 5])]),
  (23, [(.aload_n 0, []), (.dup, []), (.getfield 24, [6, 2, 110, 0]), (.iconst 1, []), (.iadd, []), (.putfield 24, [6, 2, 110, 0]), (.aload_n 0, []), (.getfield 24, [6, 2, 110, 0]), (.iconst 1, []), (.isub, []), (.ireturn, [])])]
def zc_sh_removeLast : List (Nat × List zIns) := [
  (0, [(.aload_n 0, []), (.getfield 24, [6, 2, 110, 0]), (.ifCond .le 13, [17]), (.aload_n 0, []), (.dup, []), (.getfield 24, [6, 2, 110, 0]), (.iconst 1, []), (.isub, []), (.putfield 24, [6, 2, 110, 0])]),
  (17, [(.return_, [])])]
def zc_sh_copy : List (Nat × List zIns) := [
  (0, [(.aload_n 0, []), (.aload_n 1, []), (.getfield 24, [6, 2, 110, 0]), (.putfield 24, [6, 2, 110, 0]), (.iconst 0, []), (.istore_n 2, [])]),
  (10, [(.iload_n 2, []), (.aload_n 0, []), (.getfield 24, [6, 2, 110, 0]), (.if_icmp .ge 24, [39]), (.aload_n 0, []), (.getfield 11, [6, 0, 108, 2]), (.iload_n 2, []), (.aaload, [24]), (.aload_n 1, []), (.getfield 11, [6, 0, 108, 2]), (.iload_n 2, []), (.aaload, [24]), (.invokevirtual 32, [60, 471, 0, 2, 0, 5])]),
  (33, [(.iinc 2 1, []), (.goto (-26), [10])]),
  (39, [(.return_, [])])]
def zc_sh_allLetters : List (Nat × List zIns) := [
  (0, [(.iconst 0, []), (.istore_n 1, []), (.iconst 0, []), (.istore_n 2, [])]),
  (4, [(.iload_n 2, []), (.aload_n 0, []), (.getfield 24, [6, 2, 110, 0]), (.if_icmp .ge 21, [30]), (.iload_n 1, []), (.aload_n 0, []), (.getfield 11, [6, 0, 108, 2]), (.iload_n 2, []), (.aaload, [24]), (.invokevirtual 36, [47, 921, 0, 1, 1, 5])]),
  (22, [(.iadd, []), (.istore_n 1, []), (.iinc 2 1, []), (.goto (-23), [4])]),
  (30, [(.iload_n 1, []), (.ireturn, [])])]
def zc_ta_init : List (Nat × List zIns) := [
  (0, [(.aload_n 0, []), (.invokespecial 3, [999, 205, 5]), (.aload_n 0, []), (.sipush 1296, []), (.newarray .long, [22]), (.putfield 11, [7, 0, 206, 2]), (.aload_n 0, []), (.sipush 1296, []), (.newarray .int, [20]), (.putfield 15, [7, 1, 207, 2]), (.aload_n 0, []), (.bipush 6, []), (.newarray .int, [20]), (.putfield 19, [7, 2, 208, 2]), (.aload_n 0, []), (.bipush 6, []), (.newarray .int, [20]), (.putfield 22, [7, 3, 209, 2]), (.aload_n 0, []), (.bipush 14, []), (.newarray .int, [20]), (.putfield 25, [7, 4, 210, 2]), (.aload_n 0, []), (.bipush 7, []), (.newarray .int, [20]), (.putfield 28, [7, 5, 211, 2]), (.aload_n 0, []), (.bipush 13, []), (.newarray .long, [22]), (.putfield 31, [7, 6, 212, 2]), (.return_, [])])]
def zc_ta_countAlike : List (Nat × List zIns) := [
  (0, [(.aload_n 1, []), (.invokevirtual 34, [47, 581, 0, 1, 1, 5])]),
  (4, [(.bipush 14, []), (.if_icmp .le 5, [11]), (.lconst 0, []), (.lreturn, [])]),
  (11, [(.aload_n 0, []), (.aload_n 1, []), (.aload_n 2, []), (.invokevirtual 40, [81, 582, 0, 3, 1, 7])]),
  (17, [(.istore_n 3, []), (.iload_n 3, []), (.iconst 1, []), (.if_icmp .lt 10, [30]), (.iload_n 3, []), (.sipush 1296, []), (.if_icmp .le 5, [32])]),
  (30, [(.lconst 0, []), (.lreturn, [])]),
  (32, [(.iconst 0, []), (.istore 4, [])]),
  (35, [(.iload 4, []), (.iload_n 3, []), (.if_icmp .ge 17, [55]), (.aload_n 0, []), (.getfield 11, [7, 0, 206, 2]), (.iload 4, []), (.lconst 0, []), (.lastore, []), (.iinc 4 1, []), (.goto (-17), [35])]),
  (55, [(.aload_n 0, []), (.getfield 11, [7, 0, 206, 2]), (.iconst 0, []), (.lconst 1, []), (.lastore, []), (.aload_n 0, []), (.getfield 15, [7, 1, 207, 2]), (.iconst 0, []), (.iconst 0, []), (.iastore, []), (.iconst 0, []), (.istore 4, [])]),
  (72, [(.iload 4, []), (.iload_n 3, []), (.if_icmp .ge 28, [103]), (.aload_n 0, []), (.getfield 11, [7, 0, 206, 2]), (.iload 4, []), (.laload, []), (.lconst 0, []), (.lcmp, []), (.ifCond .le 10, [97]), (.aload_n 0, []), (.iload 4, []), (.iload_n 3, []), (.invokevirtual 44, [82, 595, 0, 3, 0, 7])]),
  (97, [(.iinc 4 1, []), (.goto (-28), [72])]),
  (103, [(.aload_n 0, []), (.getfield 11, [7, 0, 206, 2]), (.iload_n 3, []), (.iconst 1, []), (.isub, []), (.laload, []), (.lreturn, [])])]
def zc_ta_prepare : List (Nat × List zIns) := [
  (0, [(.iconst 0, []), (.istore_n 3, [])]),
  (2, [(.iload_n 3, []), (.bipush 6, []), (.if_icmp .ge 16, [21]), (.aload_n 0, []), (.getfield 22, [7, 3, 209, 2]), (.iload_n 3, []), (.iconst 0, []), (.iastore, []), (.iinc 3 1, []), (.goto (-16), [2])]),
  (21, [(.iconst 0, []), (.istore_n 3, [])]),
  (23, [(.iload_n 3, []), (.aload_n 1, []), (.invokevirtual 34, [47, 581, 0, 1, 1, 5])]),
  (28, [(.if_icmp .ge 93, [121]), (.iload_n 3, []), (.bipush 14, []), (.if_icmp .ge 87, [121]), (.aload_n 1, []), (.iload_n 3, []), (.invokevirtual 48, [48, 586, 0, 2, 1, 5])]),
  (42, [(.istore 4, []), (.aload_n 0, []), (.getfield 25, [7, 4, 210, 2]), (.iload_n 3, []), (.iconst 0, []), (.iastore, []), (.iconst 0, []), (.istore 5, [])]),
  (54, [(.iload 5, []), (.bipush 6, []), (.if_icmp .ge 36, [94]), (.aload_n 2, []), (.iload 4, []), (.iload 5, []), (.invokevirtual 52, [18, 587, 0, 3, 4, 2])]),
  (69, [(.ifCond .ne 19, [88]), (.aload_n 0, []), (.getfield 25, [7, 4, 210, 2]), (.iload_n 3, []), (.dup2, []), (.iaload, []), (.aload_n 0, []), (.getfield 22, [7, 3, 209, 2]), (.iload 5, []), (.iaload, []), (.ior, []), (.iastore, [])]),
  (88, [(.iinc 5 1, []), (.goto (-37), [54])]),
  (94, [(.iload 4, []), (.invokestatic 58, [138, 588, 3, 1, 4, 9])]),
  (99, [(.ifCond .ne 16, [115]), (.aload_n 0, []), (.getfield 22, [7, 3, 209, 2]), (.iload 4, []), (.dup2, []), (.iaload, []), (.iconst 1, []), (.iload_n 3, []), (.ishl, []), (.ior, []), (.iastore, [])]),
  (115, [(.iinc 3 1, []), (.goto (-95), [23])]),
  (121, [(.iconst 1, []), (.istore_n 3, []), (.iconst 0, []), (.istore 4, [])]),
  (126, [(.iload 4, []), (.bipush 6, []), (.if_icmp .ge 32, [162]), (.aload_n 0, []), (.getfield 19, [7, 2, 208, 2]), (.iload 4, []), (.iload_n 3, []), (.iastore, []), (.iload_n 3, []), (.aload_n 0, []), (.getfield 22, [7, 3, 209, 2]), (.iload 4, []), (.iaload, []), (.invokestatic 62, [224, 589, 1, 1, 1, 99])]),
  (152, [(.iconst 1, []), (.iadd, []), (.imul, []), (.istore_n 3, []), (.iinc 4 1, []), (.goto (-33), [126])]),
  (162, [(.iload_n 3, []), (.ireturn, [])])]
def zc_ta_goOn : List (Nat × List zIns) := [
  (0, [(.iconst 0, []), (.istore_n 3, [])]),
  (2, [(.iload_n 3, []), (.bipush 6, []), (.if_icmp .ge 112, [117]), (.aload_n 0, []), (.getfield 22, [7, 3, 209, 2]), (.iload_n 3, []), (.iaload, []), (.aload_n 0, []), (.getfield 15, [7, 1, 207, 2]), (.iload_n 1, []), (.iaload, []), (.iconst (-1), []), (.ixor, []), (.iand, []), (.istore 4, []), (.iload 4, []), (.invokestatic 67, [223, 599, 1, 1, 1, 99])]),
  (30, [(.istore 5, []), (.iload 5, []), (.bipush 14, []), (.if_icmp .ge 75, [111]), (.aload_n 0, []), (.getfield 25, [7, 4, 210, 2]), (.iload 5, []), (.iaload, []), (.aload_n 0, []), (.getfield 15, [7, 1, 207, 2]), (.iload_n 1, []), (.iaload, []), (.iconst (-1), []), (.ixor, []), (.iand, []), (.ifCond .eq 6, [61]), (.goto 53, [111])]),
  (61, [(.iload_n 1, []), (.aload_n 0, []), (.getfield 19, [7, 2, 208, 2]), (.iload_n 3, []), (.iaload, []), (.iadd, []), (.istore 6, []), (.iload 6, []), (.iload_n 2, []), (.if_icmp .ge 37, [111]), (.aload_n 0, []), (.getfield 11, [7, 0, 206, 2]), (.iload 6, []), (.dup2, []), (.laload, []), (.aload_n 0, []), (.getfield 11, [7, 0, 206, 2]), (.iload_n 1, []), (.laload, []), (.ladd, []), (.lastore, []), (.aload_n 0, []), (.getfield 15, [7, 1, 207, 2]), (.iload 6, []), (.aload_n 0, []), (.getfield 15, [7, 1, 207, 2]), (.iload_n 1, []), (.iaload, []), (.iconst 1, []), (.iload 5, []), (.ishl, []), (.ior, []), (.iastore, [])]),
  (111, [(.iinc 3 1, []), (.goto (-112), [2])]),
  (117, [(.return_, [])])]
def zc_ta_countUnlike : List (Nat × List zIns) := [
  (0, [(.iconst 0, []), (.istore 4, [])]),
  (3, [(.iload 4, []), (.bipush 6, []), (.if_icmp .gt 17, [24]), (.aload_n 0, []), (.getfield 28, [7, 5, 211, 2]), (.iload 4, []), (.iconst 0, []), (.iastore, []), (.iinc 4 1, []), (.goto (-18), [3])]),
  (24, [(.iconst 0, []), (.istore 4, [])]),
  (27, [(.iload 4, []), (.iconst 1, []), (.iload_n 2, []), (.bipush 6, []), (.invokestatic 70, [998, 787, 7]), (.ishl, []), (.if_icmp .ge 32, [69]), (.aload_n 3, []), (.iload 4, []), (.invokevirtual 76, [29, 788, 0, 2, 4, 2])]),
  (46, [(.ifCond .eq 17, [63]), (.aload_n 0, []), (.getfield 28, [7, 5, 211, 2]), (.iload 4, []), (.invokestatic 62, [224, 589, 1, 1, 1, 99])]),
  (58, [(.dup2, []), (.iaload, []), (.iconst 1, []), (.iadd, []), (.iastore, [])]),
  (63, [(.iinc 4 1, []), (.goto (-39), [27])]),
  (69, [(.aload_n 0, []), (.getfield 31, [7, 6, 212, 2]), (.iconst 0, []), (.lconst 1, []), (.lastore, []), (.iload_n 1, []), (.bipush 12, []), (.invokestatic 70, [998, 787, 7]), (.istore 4, []), (.iconst 1, []), (.istore 5, [])]),
  (87, [(.iload 5, []), (.iload 4, []), (.if_icmp .gt 86, [177]), (.lconst 0, []), (.lstore 6, []), (.iconst 1, []), (.istore 8, [])]),
  (100, [(.iload 8, []), (.bipush 6, []), (.if_icmp .gt 58, [162]), (.iload 8, []), (.iload 5, []), (.if_icmp .gt 51, [162]), (.aload_n 0, []), (.getfield 28, [7, 5, 211, 2]), (.iload 8, []), (.iaload, []), (.i2l, []), (.aload_n 0, []), (.getfield 31, [7, 6, 212, 2]), (.iload 5, []), (.iload 8, []), (.isub, []), (.laload, []), (.lmul, []), (.lstore 9, []), (.lload 6, []), (.iload 8, []), (.iconst 2, []), (.irem, []), (.iconst 1, []), (.if_icmp .ne 8, [150]), (.lload 9, []), (.goto 6, [153])]),
  (150, [(.lload 9, []), (.lneg, [])]),
  (153, [(.ladd, []), (.lstore 6, []), (.iinc 8 1, []), (.goto (-59), [100])]),
  (162, [(.aload_n 0, []), (.getfield 31, [7, 6, 212, 2]), (.iload 5, []), (.lload 6, []), (.lastore, []), (.iinc 5 1, []), (.goto (-87), [87])]),
  (177, [(.iload 4, []), (.ifCond .lt 13, [192]), (.aload_n 0, []), (.getfield 31, [7, 6, 212, 2]), (.iload 4, []), (.laload, []), (.goto 4, [193])]),
  (192, [(.lconst 0, [])]),
  (193, [(.lreturn, [])])]
def zc_tu_init : List (Nat × List zIns) := [
  (0, [(.aload_n 0, []), (.invokespecial 3, [999, 234, 5]), (.aload_n 0, []), (.new 9, [2, 235, 2]), (.dup, []), (.invokespecial 11, [15, 236, 2, 1, 0, 2])]),
  (12, [(.putfield 12, [8, 2, 241, 2]), (.aload_n 0, []), (.new 18, [5, 237, 2]), (.dup, []), (.bipush 7, []), (.invokespecial 20, [46, 238, 2, 2, 0, 5])]),
  (25, [(.putfield 23, [8, 3, 242, 2]), (.aload_n 0, []), (.new 18, [5, 237, 2]), (.dup, []), (.bipush 7, []), (.invokespecial 20, [46, 238, 2, 2, 0, 5])]),
  (38, [(.putfield 27, [8, 4, 243, 2]), (.aload_n 0, []), (.bipush 64, []), (.newarray .int, [20]), (.putfield 30, [8, 5, 244, 2]), (.aload_n 0, []), (.bipush 64, []), (.newarray .int, [20]), (.putfield 34, [8, 6, 245, 2]), (.aload_n 0, []), (.bipush 64, []), (.newarray .int, [20]), (.putfield 37, [8, 7, 246, 2]), (.aload_n 0, []), (.iconst 0, []), (.putfield 40, [8, 8, 247, 0]), (.aload_n 0, []), (.iconst 0, []), (.putfield 44, [8, 9, 248, 0]), (.aload_n 0, []), (.aload_n 1, []), (.putfield 47, [8, 0, 239, 2]), (.aload_n 0, []), (.aload_n 2, []), (.putfield 50, [8, 1, 240, 2]), (.return_, [])])]
def zc_tu_found : List (Nat × List zIns) := [
  (0, [(.aload_n 0, []), (.getfield 40, [8, 8, 247, 0]), (.ireturn, [])])]
def zc_tu_explore : List (Nat × List zIns) := [
  (0, [(.aload_n 0, []), (.getfield 50, [8, 1, 240, 2]), (.aload_n 1, []), (.iconst 0, []), (.aload_n 0, []), (.getfield 23, [8, 3, 242, 2]), (.invokevirtual 54, [1, 723, 0, 4, 0, 0])]),
  (13, [(.aload_n 0, []), (.getfield 23, [8, 3, 242, 2]), (.invokestatic 60, [93, 724, 1, 1, 1, 8])]),
  (20, [(.istore_n 2, []), (.aload_n 0, []), (.getfield 40, [8, 8, 247, 0]), (.ifCond .le 28, [53]), (.aload_n 0, []), (.getfield 30, [8, 5, 244, 2]), (.iconst 0, []), (.iaload, []), (.iload_n 2, []), (.if_icmp .ne 18, [53]), (.aload_n 0, []), (.getfield 12, [8, 2, 241, 2]), (.aload_n 0, []), (.getfield 47, [8, 0, 239, 2]), (.invokevirtual 64, [22, 729, 0, 2, 4, 2])]),
  (49, [(.ifCond .eq 4, [53]), (.return_, [])]),
  (53, [(.aload_n 0, []), (.getfield 12, [8, 2, 241, 2]), (.aload_n 0, []), (.getfield 47, [8, 0, 239, 2]), (.invokevirtual 68, [21, 733, 0, 2, 0, 2])]),
  (64, [(.aload_n 0, []), (.aload_n 0, []), (.getfield 23, [8, 3, 242, 2]), (.invokevirtual 72, [47, 727, 0, 1, 1, 5])]),
  (72, [(.putfield 44, [8, 9, 248, 0]), (.aload_n 0, []), (.iconst 0, []), (.putfield 40, [8, 8, 247, 0]), (.aload_n 0, []), (.iload_n 2, []), (.iconst 0, []), (.invokevirtual 76, [88, 734, 0, 3, 0, 8])]),
  (86, [(.iconst 0, []), (.istore_n 3, [])]),
  (88, [(.iload_n 3, []), (.aload_n 0, []), (.getfield 40, [8, 8, 247, 0]), (.if_icmp .ge 20, [113]), (.iload_n 3, []), (.bipush 64, []), (.if_icmp .ge 14, [113]), (.aload_n 0, []), (.iload_n 3, []), (.invokevirtual 80, [87, 742, 0, 2, 0, 8])]),
  (107, [(.iinc 3 1, []), (.goto (-22), [88])]),
  (113, [(.aload_n 0, []), (.invokevirtual 83, [90, 755, 0, 1, 0, 8])]),
  (117, [(.return_, [])])]
def zc_tu_moveAll : List (Nat × List zIns) := [
  (0, [(.aload_n 0, []), (.aload_n 0, []), (.getfield 30, [8, 5, 244, 2]), (.iload_n 1, []), (.iaload, []), (.invokevirtual 86, [94, 746, 0, 2, 0, 8])]),
  (10, [(.aload_n 0, []), (.getfield 47, [8, 0, 239, 2]), (.aload_n 0, []), (.getfield 23, [8, 3, 242, 2]), (.invokevirtual 89, [24, 752, 0, 2, 1, 2])]),
  (21, [(.istore_n 2, []), (.iconst 0, []), (.istore_n 3, [])]),
  (24, [(.iload_n 3, []), (.bipush 6, []), (.if_icmp .ge 80, [107]), (.iload_n 2, []), (.iload_n 3, []), (.ishr, []), (.iconst 1, []), (.iand, []), (.iconst 1, []), (.if_icmp .ne 65, [101]), (.aload_n 0, []), (.getfield 27, [8, 4, 243, 2]), (.aload_n 0, []), (.getfield 23, [8, 3, 242, 2]), (.invokevirtual 92, [60, 753, 0, 2, 0, 5])]),
  (50, [(.aload_n 0, []), (.getfield 27, [8, 4, 243, 2]), (.iload_n 3, []), (.invokevirtual 95, [63, 754, 0, 2, 0, 5])]),
  (58, [(.aload_n 0, []), (.getfield 27, [8, 4, 243, 2]), (.iload_n 3, []), (.invokevirtual 98, [53, 751, 0, 2, 0, 5])]),
  (66, [(.aload_n 0, []), (.getfield 50, [8, 1, 240, 2]), (.aload_n 0, []), (.getfield 27, [8, 4, 243, 2]), (.iconst 0, []), (.aload_n 0, []), (.getfield 27, [8, 4, 243, 2]), (.invokevirtual 54, [1, 723, 0, 4, 0, 0])]),
  (82, [(.aload_n 0, []), (.aload_n 0, []), (.getfield 27, [8, 4, 243, 2]), (.invokestatic 60, [93, 724, 1, 1, 1, 8])]),
  (90, [(.aload_n 0, []), (.getfield 34, [8, 6, 245, 2]), (.iload_n 1, []), (.iaload, []), (.iconst 1, []), (.iadd, []), (.invokevirtual 76, [88, 734, 0, 3, 0, 8])]),
  (101, [(.iinc 3 1, []), (.goto (-80), [24])]),
  (107, [(.return_, [])])]
def zc_tu_note : List (Nat × List zIns) := [
  (0, [(.aload_n 0, []), (.iload_n 1, []), (.invokevirtual 101, [89, 738, 0, 2, 1, 8])]),
  (5, [(.ifCond .ge 42, [47]), (.aload_n 0, []), (.getfield 40, [8, 8, 247, 0]), (.bipush 64, []), (.if_icmp .ge 33, [47]), (.aload_n 0, []), (.getfield 30, [8, 5, 244, 2]), (.aload_n 0, []), (.getfield 40, [8, 8, 247, 0]), (.iload_n 1, []), (.iastore, []), (.aload_n 0, []), (.getfield 34, [8, 6, 245, 2]), (.aload_n 0, []), (.getfield 40, [8, 8, 247, 0]), (.iload_n 2, []), (.iastore, []), (.aload_n 0, []), (.dup, []), (.getfield 40, [8, 8, 247, 0]), (.iconst 1, []), (.iadd, []), (.putfield 40, [8, 8, 247, 0])]),
  (47, [(.return_, [])])]
def zc_tu_find : List (Nat × List zIns) := [
  (0, [(.iconst 0, []), (.istore_n 2, [])]),
  (2, [(.iload_n 2, []), (.aload_n 0, []), (.getfield 40, [8, 8, 247, 0]), (.if_icmp .ge 27, [34]), (.iload_n 2, []), (.bipush 64, []), (.if_icmp .ge 21, [34]), (.aload_n 0, []), (.getfield 30, [8, 5, 244, 2]), (.iload_n 2, []), (.iaload, []), (.iload_n 1, []), (.if_icmp .ne 5, [28]), (.iload_n 2, []), (.ireturn, [])]),
  (28, [(.iinc 2 1, []), (.goto (-29), [2])]),
  (34, [(.bipush (-9), []), (.ireturn, [])])]
def zc_tu_sortCodes : List (Nat × List zIns) := [
  (0, [(.iconst 0, []), (.istore_n 1, [])]),
  (2, [(.iload_n 1, []), (.aload_n 0, []), (.getfield 40, [8, 8, 247, 0]), (.if_icmp .ge 67, [74]), (.iload_n 1, []), (.bipush 64, []), (.if_icmp .ge 61, [74]), (.aload_n 0, []), (.getfield 30, [8, 5, 244, 2]), (.iload_n 1, []), (.iaload, []), (.istore_n 2, []), (.iload_n 1, []), (.istore_n 3, [])]),
  (25, [(.iload_n 3, []), (.ifCond .le 35, [61]), (.aload_n 0, []), (.getfield 37, [8, 7, 246, 2]), (.iload_n 3, []), (.iconst 1, []), (.isub, []), (.iaload, []), (.iload_n 2, []), (.if_icmp .le 23, [61]), (.aload_n 0, []), (.getfield 37, [8, 7, 246, 2]), (.iload_n 3, []), (.aload_n 0, []), (.getfield 37, [8, 7, 246, 2]), (.iload_n 3, []), (.iconst 1, []), (.isub, []), (.iaload, []), (.iastore, []), (.iinc 3 (-1), []), (.goto (-33), [25])]),
  (61, [(.aload_n 0, []), (.getfield 37, [8, 7, 246, 2]), (.iload_n 3, []), (.iload_n 2, []), (.iastore, []), (.iinc 1 1, []), (.goto (-69), [2])]),
  (74, [(.return_, [])])]
def zc_tu_letterOf : List (Nat × List zIns) := [
  (0, [(.iload_n 1, []), (.ifCond .lt 17, [18]), (.iload_n 1, []), (.aload_n 0, []), (.getfield 40, [8, 8, 247, 0]), (.if_icmp .ge 9, [18]), (.iload_n 1, []), (.bipush 64, []), (.if_icmp .lt 6, [21])]),
  (18, [(.bipush (-9), []), (.ireturn, [])]),
  (21, [(.aload_n 0, []), (.aload_n 0, []), (.getfield 37, [8, 7, 246, 2]), (.iload_n 1, []), (.iaload, []), (.invokevirtual 86, [94, 746, 0, 2, 0, 8])]),
  (31, [(.aload_n 0, []), (.getfield 23, [8, 3, 242, 2]), (.iload_n 2, []), (.invokevirtual 105, [48, 728, 0, 2, 1, 5])]),
  (39, [(.ireturn, [])])]
def zc_tu_movesTo : List (Nat × List zIns) := [
  (0, [(.aload_n 0, []), (.getfield 50, [8, 1, 240, 2]), (.aload_n 1, []), (.iconst 0, []), (.aload_n 0, []), (.getfield 27, [8, 4, 243, 2]), (.invokevirtual 54, [1, 723, 0, 4, 0, 0])]),
  (13, [(.aload_n 0, []), (.aload_n 0, []), (.getfield 27, [8, 4, 243, 2]), (.invokestatic 60, [93, 724, 1, 1, 1, 8])]),
  (21, [(.invokevirtual 101, [89, 738, 0, 2, 1, 8])]),
  (24, [(.istore_n 2, []), (.iload_n 2, []), (.ifCond .ge 8, [34]), (.bipush (-9), []), (.goto 9, [40])]),
  (34, [(.aload_n 0, []), (.getfield 34, [8, 6, 245, 2]), (.iload_n 2, []), (.iaload, [])]),
  (40, [(.ireturn, [])])]
def zc_tu_codeOf : List (Nat × List zIns) := [
  (0, [(.iconst 1, []), (.istore_n 1, []), (.iconst 0, []), (.istore_n 2, [])]),
  (4, [(.iload_n 2, []), (.aload_n 0, []), (.invokevirtual 72, [47, 727, 0, 1, 1, 5])]),
  (9, [(.if_icmp .ge 25, [34]), (.iload_n 2, []), (.bipush 7, []), (.if_icmp .ge 19, [34]), (.iload_n 1, []), (.iconst 3, []), (.ishl, []), (.aload_n 0, []), (.iload_n 2, []), (.invokevirtual 105, [48, 728, 0, 2, 1, 5])]),
  (26, [(.ior, []), (.istore_n 1, []), (.iinc 2 1, []), (.goto (-27), [4])]),
  (34, [(.iload_n 1, []), (.ireturn, [])])]
def zc_tu_decode : List (Nat × List zIns) := [
  (0, [(.aload_n 0, []), (.getfield 23, [8, 3, 242, 2]), (.invokevirtual 108, [51, 750, 0, 1, 0, 5])]),
  (7, [(.aload_n 0, []), (.getfield 44, [8, 9, 248, 0]), (.iconst 1, []), (.isub, []), (.istore_n 2, [])]),
  (14, [(.iload_n 2, []), (.ifCond .lt 24, [39]), (.aload_n 0, []), (.getfield 23, [8, 3, 242, 2]), (.iload_n 1, []), (.iconst 3, []), (.iload_n 2, []), (.imul, []), (.ishr, []), (.bipush 7, []), (.iand, []), (.invokevirtual 98, [53, 751, 0, 2, 0, 5])]),
  (33, [(.iinc 2 (-1), []), (.goto (-22), [14])]),
  (39, [(.return_, [])])]
def zc_lt_init : List (Nat × List zIns) := [
  (0, [(.aload_n 0, []), (.invokespecial 3, [999, 68, 5]), (.aload_n 0, []), (.new 9, [2, 71, 2]), (.dup, []), (.invokespecial 11, [15, 73, 2, 1, 0, 2])]),
  (12, [(.putfield 12, [9, 0, 270, 2]), (.aload_n 0, []), (.new 9, [2, 71, 2]), (.dup, []), (.invokespecial 11, [15, 73, 2, 1, 0, 2])]),
  (23, [(.putfield 16, [9, 1, 271, 2]), (.aload_n 0, []), (.new 19, [6, 85, 3]), (.dup, []), (.invokespecial 21, [71, 87, 2, 1, 0, 6])]),
  (34, [(.putfield 22, [9, 2, 272, 2]), (.aload_n 0, []), (.new 26, [1, 118, 3]), (.dup, []), (.invokespecial 28, [10, 120, 2, 1, 0, 1])]),
  (45, [(.putfield 29, [9, 3, 273, 2]), (.aload_n 0, []), (.new 9, [2, 71, 2]), (.dup, []), (.invokespecial 11, [15, 73, 2, 1, 0, 2])]),
  (56, [(.putfield 33, [9, 4, 274, 2]), (.aload_n 0, []), (.new 19, [6, 85, 3]), (.dup, []), (.invokespecial 21, [71, 87, 2, 1, 0, 6])]),
  (67, [(.putfield 36, [9, 5, 275, 2]), (.aload_n 0, []), (.iconst 0, []), (.putfield 39, [9, 6, 276, 1]), (.aload_n 0, []), (.new 43, [5, 137, 2]), (.dup, []), (.bipush 72, []), (.invokespecial 45, [46, 138, 2, 2, 0, 5])]),
  (85, [(.putfield 48, [9, 7, 277, 2]), (.aload_n 0, []), (.new 52, [4, 139, 4]), (.dup, []), (.invokespecial 54, [36, 141, 4, 1, 0, 4])]),
  (96, [(.putfield 55, [9, 8, 278, 2]), (.aload_n 0, []), (.new 59, [3, 160, 3]), (.dup, []), (.invokespecial 61, [32, 162, 2, 1, 0, 3])]),
  (107, [(.putfield 62, [9, 9, 279, 2]), (.aload_n 0, []), (.bipush 6, []), (.newarray .int, [20]), (.putfield 66, [9, 10, 280, 2]), (.aload_n 0, []), (.new 70, [0, 179, 4]), (.dup, []), (.aload_n 0, []), (.getfield 12, [9, 0, 270, 2]), (.invokespecial 72, [0, 181, 2, 2, 0, 0])]),
  (130, [(.putfield 75, [9, 11, 281, 2]), (.aload_n 0, []), (.new 79, [7, 200, 7]), (.dup, []), (.invokespecial 81, [79, 202, 4, 1, 0, 7])]),
  (141, [(.putfield 82, [9, 12, 282, 2]), (.aload_n 0, []), (.new 86, [8, 229, 10]), (.dup, []), (.aload_n 0, []), (.getfield 12, [9, 0, 270, 2]), (.aload_n 0, []), (.getfield 75, [9, 11, 281, 2]), (.invokespecial 88, [84, 231, 2, 3, 0, 8])]),
  (160, [(.putfield 91, [9, 13, 283, 2]), (.aload_n 0, []), (.new 43, [5, 137, 2]), (.dup, []), (.bipush 28, []), (.invokespecial 45, [46, 138, 2, 2, 0, 5])]),
  (173, [(.putfield 95, [9, 14, 284, 2]), (.aload_n 0, []), (.new 43, [5, 137, 2]), (.dup, []), (.bipush 28, []), (.invokespecial 45, [46, 138, 2, 2, 0, 5])]),
  (186, [(.putfield 98, [9, 15, 285, 2]), (.return_, [])])]
def zc_lt_letter : List (Nat × List zIns) := [
  (0, [(.iload_n 1, []), (.ifCond .ge 10, [11]), (.aload_n 0, []), (.bipush (-4), []), (.invokevirtual 101, [134, 323, 0, 2, 1, 9])]),
  (10, [(.ireturn, [])]),
  (11, [(.iload_n 1, []), (.sipush 255, []), (.if_icmp .gt 15, [30]), (.aload_n 0, []), (.getfield 48, [9, 7, 277, 2]), (.invokevirtual 105, [47, 327, 0, 1, 1, 5])]),
  (25, [(.bipush 72, []), (.if_icmp .lt 10, [37])]),
  (30, [(.aload_n 0, []), (.bipush (-6), []), (.invokevirtual 101, [134, 323, 0, 2, 1, 9])]),
  (36, [(.ireturn, [])]),
  (37, [(.aload_n 0, []), (.getfield 48, [9, 7, 277, 2]), (.iload_n 1, []), (.invokevirtual 109, [53, 331, 0, 2, 0, 5])]),
  (45, [(.aload_n 0, []), (.getfield 48, [9, 7, 277, 2]), (.invokevirtual 105, [47, 327, 0, 1, 1, 5])]),
  (52, [(.ireturn, [])])]
def zc_lt_passes : List (Nat × List zIns) := [
  (0, [(.iload_n 1, []), (.iload_n 2, []), (.invokestatic 112, [139, 339, 1, 2, 4, 9])]),
  (5, [(.ifCond .eq 9, [14]), (.aload_n 0, []), (.iconst (-1), []), (.invokevirtual 101, [134, 323, 0, 2, 1, 9])]),
  (13, [(.ireturn, [])]),
  (14, [(.aload_n 0, []), (.getfield 29, [9, 3, 273, 2]), (.aload_n 0, []), (.getfield 12, [9, 0, 270, 2]), (.invokevirtual 116, [13, 345, 0, 2, 0, 1])]),
  (25, [(.aload_n 0, []), (.getfield 12, [9, 0, 270, 2]), (.iload_n 1, []), (.iload_n 2, []), (.invokevirtual 119, [19, 356, 0, 3, 0, 2])]),
  (34, [(.aload_n 0, []), (.getfield 12, [9, 0, 270, 2]), (.iload_n 1, []), (.iload_n 2, []), (.invokevirtual 123, [18, 361, 0, 3, 4, 2])]),
  (43, [(.invokestatic 126, [142, 370, 1, 1, 1, 9])]),
  (46, [(.ireturn, [])])]
def zc_lt_ranks : List (Nat × List zIns) := [
  (0, [(.iload_n 1, []), (.iload_n 2, []), (.invokestatic 112, [139, 339, 1, 2, 4, 9])]),
  (5, [(.ifCond .eq 9, [14]), (.aload_n 0, []), (.iconst (-1), []), (.invokevirtual 101, [134, 323, 0, 2, 1, 9])]),
  (13, [(.ireturn, [])]),
  (14, [(.aload_n 0, []), (.getfield 29, [9, 3, 273, 2]), (.aload_n 0, []), (.getfield 12, [9, 0, 270, 2]), (.invokevirtual 116, [13, 345, 0, 2, 0, 1])]),
  (25, [(.aload_n 0, []), (.getfield 12, [9, 0, 270, 2]), (.iload_n 1, []), (.iload_n 2, []), (.invokevirtual 130, [20, 377, 0, 3, 0, 2])]),
  (34, [(.aload_n 0, []), (.getfield 12, [9, 0, 270, 2]), (.iload_n 1, []), (.invokevirtual 133, [17, 381, 0, 2, 1, 2])]),
  (42, [(.ireturn, [])])]
def zc_lt_of : List (Nat × List zIns) := [
  (0, [(.iload_n 1, []), (.invokestatic 136, [138, 342, 1, 1, 4, 9])]),
  (4, [(.ifCond .eq 9, [13]), (.aload_n 0, []), (.iconst (-1), []), (.invokevirtual 101, [134, 323, 0, 2, 1, 9])]),
  (12, [(.ireturn, [])]),
  (13, [(.iload_n 2, []), (.invokestatic 140, [141, 389, 1, 1, 4, 9])]),
  (17, [(.ifCond .eq 10, [27]), (.aload_n 0, []), (.bipush (-2), []), (.invokevirtual 101, [134, 323, 0, 2, 1, 9])]),
  (26, [(.ireturn, [])]),
  (27, [(.iload_n 2, []), (.ifCond .ne 14, [42]), (.aload_n 0, []), (.getfield 12, [9, 0, 270, 2]), (.iload_n 1, []), (.invokevirtual 133, [17, 381, 0, 2, 1, 2])]),
  (39, [(.goto 11, [50])]),
  (42, [(.aload_n 0, []), (.getfield 12, [9, 0, 270, 2]), (.iload_n 1, []), (.invokevirtual 143, [16, 392, 0, 2, 1, 2])]),
  (50, [(.ireturn, [])])]
def zc_lt_rules : List (Nat × List zIns) := [
  (0, [(.aload_n 0, []), (.getfield 16, [9, 1, 271, 2]), (.aload_n 0, []), (.getfield 12, [9, 0, 270, 2]), (.invokevirtual 146, [21, 397, 0, 2, 0, 2])]),
  (11, [(.aload_n 0, []), (.getfield 55, [9, 8, 278, 2]), (.aload_n 0, []), (.getfield 48, [9, 7, 277, 2]), (.aload_n 0, []), (.getfield 16, [9, 1, 271, 2]), (.invokevirtual 149, [43, 398, 0, 3, 1, 4])]),
  (26, [(.istore_n 1, []), (.aload_n 0, []), (.getfield 48, [9, 7, 277, 2]), (.invokevirtual 153, [51, 415, 0, 1, 0, 5])]),
  (34, [(.iload_n 1, []), (.ifCond .le 25, [60]), (.aload_n 0, []), (.getfield 29, [9, 3, 273, 2]), (.aload_n 0, []), (.getfield 12, [9, 0, 270, 2]), (.invokevirtual 116, [13, 345, 0, 2, 0, 1])]),
  (49, [(.aload_n 0, []), (.getfield 12, [9, 0, 270, 2]), (.aload_n 0, []), (.getfield 16, [9, 1, 271, 2]), (.invokevirtual 146, [21, 397, 0, 2, 0, 2])]),
  (60, [(.iload_n 1, []), (.ireturn, [])])]
def zc_lt_word : List (Nat × List zIns) := [
  (0, [(.aload_n 0, []), (.getfield 55, [9, 8, 278, 2]), (.aload_n 0, []), (.getfield 48, [9, 7, 277, 2]), (.invokevirtual 156, [38, 423, 0, 2, 1, 4])]),
  (11, [(.istore_n 1, []), (.aload_n 0, []), (.getfield 48, [9, 7, 277, 2]), (.invokevirtual 153, [51, 415, 0, 1, 0, 5])]),
  (19, [(.iload_n 1, []), (.ifCond .ge 5, [25]), (.iload_n 1, []), (.ireturn, [])]),
  (25, [(.aload_n 0, []), (.getfield 55, [9, 8, 278, 2]), (.invokevirtual 160, [37, 458, 0, 1, 3, 4])]),
  (32, [(.astore_n 2, []), (.aload_n 2, []), (.invokevirtual 105, [47, 327, 0, 1, 1, 5])]),
  (37, [(.bipush 14, []), (.if_icmp .gt 13, [52]), (.aload_n 0, []), (.getfield 22, [9, 2, 272, 2]), (.invokevirtual 164, [73, 462, 0, 1, 4, 6])]),
  (49, [(.ifCond .eq 7, [56])]),
  (52, [(.sipush (-2000), []), (.ireturn, [])]),
  (56, [(.aload_n 0, []), (.getfield 22, [9, 2, 272, 2]), (.aload_n 2, []), (.invokevirtual 168, [75, 466, 0, 2, 1, 6])]),
  (64, [(.ireturn, [])])]
def zc_lt_at : List (Nat × List zIns) := [
  (0, [(.aload_n 0, []), (.iload_n 1, []), (.invokevirtual 171, [136, 481, 0, 2, 4, 9])]),
  (5, [(.ifCond .eq 9, [14]), (.aload_n 0, []), (.iconst (-1), []), (.invokevirtual 101, [134, 323, 0, 2, 1, 9])]),
  (13, [(.ireturn, [])]),
  (14, [(.iload_n 2, []), (.iconst (-1), []), (.if_icmp .ge 10, [26]), (.aload_n 0, []), (.bipush (-4), []), (.invokevirtual 101, [134, 323, 0, 2, 1, 9])]),
  (25, [(.ireturn, [])]),
  (26, [(.aload_n 0, []), (.getfield 22, [9, 2, 272, 2]), (.iload_n 1, []), (.invokevirtual 174, [74, 489, 0, 2, 3, 6])]),
  (34, [(.iload_n 2, []), (.invokestatic 178, [143, 493, 1, 2, 1, 9])]),
  (38, [(.ireturn, [])])]
def zc_lt_drop : List (Nat × List zIns) := [
  (0, [(.aload_n 0, []), (.getfield 22, [9, 2, 272, 2]), (.invokevirtual 182, [72, 485, 0, 1, 1, 6])]),
  (7, [(.ifCond .ne 10, [17]), (.aload_n 0, []), (.bipush (-3), []), (.invokevirtual 101, [134, 323, 0, 2, 1, 9])]),
  (16, [(.ireturn, [])]),
  (17, [(.aload_n 0, []), (.getfield 22, [9, 2, 272, 2]), (.invokevirtual 183, [76, 501, 0, 1, 0, 6])]),
  (24, [(.aload_n 0, []), (.getfield 22, [9, 2, 272, 2]), (.invokevirtual 182, [72, 485, 0, 1, 1, 6])]),
  (31, [(.ireturn, [])])]
def zc_lt_alike : List (Nat × List zIns) := [
  (0, [(.aload_n 0, []), (.iload_n 1, []), (.invokevirtual 171, [136, 481, 0, 2, 4, 9])]),
  (5, [(.ifCond .ne 11, [16]), (.aload_n 0, []), (.iload_n 2, []), (.invokevirtual 171, [136, 481, 0, 2, 4, 9])]),
  (13, [(.ifCond .eq 9, [22])]),
  (16, [(.aload_n 0, []), (.iconst (-1), []), (.invokevirtual 101, [134, 323, 0, 2, 1, 9])]),
  (21, [(.ireturn, [])]),
  (22, [(.aload_n 0, []), (.getfield 75, [9, 11, 281, 2]), (.aload_n 0, []), (.getfield 22, [9, 2, 272, 2]), (.iload_n 1, []), (.invokevirtual 174, [74, 489, 0, 2, 3, 6])]),
  (34, [(.aload_n 0, []), (.getfield 22, [9, 2, 272, 2]), (.iload_n 2, []), (.invokevirtual 174, [74, 489, 0, 2, 3, 6])]),
  (42, [(.invokevirtual 186, [3, 509, 0, 3, 4, 0])]),
  (45, [(.invokestatic 126, [142, 370, 1, 1, 1, 9])]),
  (48, [(.ireturn, [])])]
def zc_lt_blocks : List (Nat × List zIns) := [
  (0, [(.aload_n 0, []), (.iload_n 1, []), (.invokevirtual 171, [136, 481, 0, 2, 4, 9])]),
  (5, [(.ifCond .eq 9, [14]), (.aload_n 0, []), (.iconst (-1), []), (.invokevirtual 101, [134, 323, 0, 2, 1, 9])]),
  (13, [(.ireturn, [])]),
  (14, [(.iload_n 2, []), (.iconst (-1), []), (.if_icmp .ge 10, [26]), (.aload_n 0, []), (.bipush (-4), []), (.invokevirtual 101, [134, 323, 0, 2, 1, 9])]),
  (25, [(.ireturn, [])]),
  (26, [(.aload_n 0, []), (.getfield 75, [9, 11, 281, 2]), (.aload_n 0, []), (.getfield 22, [9, 2, 272, 2]), (.iload_n 1, []), (.invokevirtual 174, [74, 489, 0, 2, 3, 6])]),
  (38, [(.aload_n 0, []), (.getfield 95, [9, 14, 284, 2]), (.invokevirtual 190, [4, 544, 0, 3, 0, 0])]),
  (45, [(.iload_n 2, []), (.iconst (-1), []), (.if_icmp .ne 11, [58]), (.aload_n 0, []), (.getfield 95, [9, 14, 284, 2]), (.invokevirtual 105, [47, 327, 0, 1, 1, 5])]),
  (57, [(.ireturn, [])]),
  (58, [(.iload_n 2, []), (.aload_n 0, []), (.getfield 95, [9, 14, 284, 2]), (.invokevirtual 105, [47, 327, 0, 1, 1, 5])]),
  (66, [(.if_icmp .ge 14, [80]), (.aload_n 0, []), (.getfield 95, [9, 14, 284, 2]), (.iload_n 2, []), (.invokevirtual 194, [48, 496, 0, 2, 1, 5])]),
  (77, [(.goto 4, [81])]),
  (80, [(.iconst 0, [])]),
  (81, [(.ireturn, [])])]
def zc_lt_least : List (Nat × List zIns) := [
  (0, [(.aload_n 0, []), (.iload_n 1, []), (.invokevirtual 171, [136, 481, 0, 2, 4, 9])]),
  (5, [(.ifCond .eq 9, [14]), (.aload_n 0, []), (.iconst (-1), []), (.invokevirtual 101, [134, 323, 0, 2, 1, 9])]),
  (13, [(.ireturn, [])]),
  (14, [(.iload_n 2, []), (.ifCond .ge 10, [25]), (.aload_n 0, []), (.bipush (-4), []), (.invokevirtual 101, [134, 323, 0, 2, 1, 9])]),
  (24, [(.ireturn, [])]),
  (25, [(.iload_n 3, []), (.invokestatic 140, [141, 389, 1, 1, 4, 9])]),
  (29, [(.ifCond .eq 10, [39]), (.aload_n 0, []), (.bipush (-2), []), (.invokevirtual 101, [134, 323, 0, 2, 1, 9])]),
  (38, [(.ireturn, [])]),
  (39, [(.aload_n 0, []), (.getfield 75, [9, 11, 281, 2]), (.aload_n 0, []), (.getfield 22, [9, 2, 272, 2]), (.iload_n 1, []), (.invokevirtual 174, [74, 489, 0, 2, 3, 6])]),
  (51, [(.iload_n 3, []), (.iconst 1, []), (.if_icmp .ne 7, [60]), (.iconst 1, []), (.goto 4, [61])]),
  (60, [(.iconst 0, [])]),
  (61, [(.aload_n 0, []), (.getfield 95, [9, 14, 284, 2]), (.invokevirtual 197, [1, 567, 0, 4, 0, 0])]),
  (68, [(.aload_n 0, []), (.getfield 95, [9, 14, 284, 2]), (.iload_n 2, []), (.invokevirtual 194, [48, 496, 0, 2, 1, 5])]),
  (76, [(.ireturn, [])])]
def zc_lt_copies : List (Nat × List zIns) := [
  (0, [(.aload_n 0, []), (.iload_n 1, []), (.invokevirtual 171, [136, 481, 0, 2, 4, 9])]),
  (5, [(.ifCond .eq 9, [14]), (.aload_n 0, []), (.iconst (-1), []), (.invokevirtual 201, [135, 572, 0, 2, 2, 9])]),
  (13, [(.lreturn, [])]),
  (14, [(.aload_n 0, []), (.getfield 82, [9, 12, 282, 2]), (.aload_n 0, []), (.getfield 22, [9, 2, 272, 2]), (.iload_n 1, []), (.invokevirtual 174, [74, 489, 0, 2, 3, 6])]),
  (26, [(.aload_n 0, []), (.getfield 12, [9, 0, 270, 2]), (.invokevirtual 205, [80, 577, 0, 3, 2, 7])]),
  (33, [(.lreturn, [])])]
def zc_lt_seen : List (Nat × List zIns) := [
  (0, [(.aload_n 0, []), (.iload_n 1, []), (.invokevirtual 171, [136, 481, 0, 2, 4, 9])]),
  (5, [(.ifCond .ne 17, [22]), (.iload_n 2, []), (.invokestatic 136, [138, 342, 1, 1, 4, 9])]),
  (12, [(.ifCond .ne 10, [22]), (.iload_n 3, []), (.invokestatic 136, [138, 342, 1, 1, 4, 9])]),
  (19, [(.ifCond .eq 9, [28])]),
  (22, [(.aload_n 0, []), (.iconst (-1), []), (.invokevirtual 101, [134, 323, 0, 2, 1, 9])]),
  (27, [(.ireturn, [])]),
  (28, [(.iload 4, []), (.ifCond .ge 10, [40]), (.aload_n 0, []), (.bipush (-4), []), (.invokevirtual 101, [134, 323, 0, 2, 1, 9])]),
  (39, [(.ireturn, [])]),
  (40, [(.aload_n 0, []), (.getfield 95, [9, 14, 284, 2]), (.invokevirtual 153, [51, 415, 0, 1, 0, 5])]),
  (47, [(.aload_n 0, []), (.getfield 95, [9, 14, 284, 2]), (.aload_n 0, []), (.getfield 22, [9, 2, 272, 2]), (.iload_n 1, []), (.invokevirtual 174, [74, 489, 0, 2, 3, 6])]),
  (59, [(.iconst 1, []), (.iload_n 2, []), (.ishl, []), (.iconst 1, []), (.iload_n 3, []), (.ishl, []), (.ior, []), (.invokevirtual 209, [59, 607, 0, 3, 0, 5])]),
  (69, [(.aload_n 0, []), (.getfield 95, [9, 14, 284, 2]), (.iload 4, []), (.invokevirtual 194, [48, 496, 0, 2, 1, 5])]),
  (78, [(.ireturn, [])])]
def zc_lt_spread : List (Nat × List zIns) := [
  (0, [(.aload_n 0, []), (.iload_n 1, []), (.invokevirtual 171, [136, 481, 0, 2, 4, 9])]),
  (5, [(.ifCond .ne 10, [15]), (.iload_n 2, []), (.invokestatic 136, [138, 342, 1, 1, 4, 9])]),
  (12, [(.ifCond .eq 9, [21])]),
  (15, [(.aload_n 0, []), (.iconst (-1), []), (.invokevirtual 101, [134, 323, 0, 2, 1, 9])]),
  (20, [(.ireturn, [])]),
  (21, [(.iload_n 3, []), (.ifCond .ge 10, [32]), (.aload_n 0, []), (.bipush (-4), []), (.invokevirtual 101, [134, 323, 0, 2, 1, 9])]),
  (31, [(.ireturn, [])]),
  (32, [(.iload 4, []), (.invokestatic 140, [141, 389, 1, 1, 4, 9])]),
  (37, [(.ifCond .eq 10, [47]), (.aload_n 0, []), (.bipush (-2), []), (.invokevirtual 101, [134, 323, 0, 2, 1, 9])]),
  (46, [(.ireturn, [])]),
  (47, [(.aload_n 0, []), (.getfield 22, [9, 2, 272, 2]), (.iload_n 1, []), (.invokevirtual 174, [74, 489, 0, 2, 3, 6])]),
  (55, [(.astore 5, []), (.aload 5, []), (.iload_n 2, []), (.iload_n 3, []), (.invokevirtual 213, [64, 616, 0, 3, 1, 5])]),
  (64, [(.istore 6, []), (.iload 6, []), (.ifCond .ge 6, [74]), (.bipush (-9), []), (.ireturn, [])]),
  (74, [(.iload 4, []), (.ifCond .ne 16, [92]), (.aload_n 0, []), (.getfield 12, [9, 0, 270, 2]), (.aload 5, []), (.iload 6, []), (.iconst (-1), []), (.invokevirtual 217, [26, 617, 0, 4, 1, 2])]),
  (91, [(.ireturn, [])]),
  (92, [(.aload 5, []), (.invokevirtual 105, [47, 327, 0, 1, 1, 5])]),
  (97, [(.iconst 1, []), (.isub, []), (.aload_n 0, []), (.getfield 12, [9, 0, 270, 2]), (.aload 5, []), (.iload 6, []), (.iconst 1, []), (.invokevirtual 217, [26, 617, 0, 4, 1, 2])]),
  (111, [(.isub, []), (.ireturn, [])])]
def zc_lt_odds : List (Nat × List zIns) := [
  (0, [(.aload_n 0, []), (.iload_n 1, []), (.invokevirtual 171, [136, 481, 0, 2, 4, 9])]),
  (5, [(.ifCond .eq 9, [14]), (.aload_n 0, []), (.iconst (-1), []), (.invokevirtual 201, [135, 572, 0, 2, 2, 9])]),
  (13, [(.lreturn, [])]),
  (14, [(.iload_n 2, []), (.invokestatic 140, [141, 389, 1, 1, 4, 9])]),
  (18, [(.ifCond .eq 10, [28]), (.aload_n 0, []), (.bipush (-2), []), (.invokevirtual 201, [135, 572, 0, 2, 2, 9])]),
  (27, [(.lreturn, [])]),
  (28, [(.aload_n 0, []), (.getfield 12, [9, 0, 270, 2]), (.aload_n 0, []), (.getfield 22, [9, 2, 272, 2]), (.iload_n 1, []), (.invokevirtual 174, [74, 489, 0, 2, 3, 6])]),
  (40, [(.invokevirtual 221, [24, 625, 0, 2, 1, 2])]),
  (43, [(.istore_n 3, []), (.iload_n 3, []), (.invokestatic 224, [224, 626, 1, 1, 1, 99])]),
  (48, [(.istore 4, []), (.aload_n 0, []), (.getfield 12, [9, 0, 270, 2]), (.iload_n 3, []), (.invokevirtual 229, [25, 627, 0, 2, 1, 2])]),
  (58, [(.istore 5, []), (.iload 5, []), (.ifCond .ne 6, [68]), (.iload_n 2, []), (.i2l, []), (.lreturn, [])]),
  (68, [(.iload 5, []), (.iload 4, []), (.invokestatic 232, [144, 631, 1, 2, 1, 9])]),
  (75, [(.istore 6, []), (.iload_n 2, []), (.ifCond .ne 12, [90]), (.iload 5, []), (.iload 6, []), (.idiv, []), (.i2l, []), (.goto 9, [96])]),
  (90, [(.iload 4, []), (.iload 6, []), (.idiv, []), (.i2l, [])]),
  (96, [(.lreturn, [])])]
def zc_lt_begins : List (Nat × List zIns) := [
  (0, [(.aload_n 0, []), (.iload_n 1, []), (.invokevirtual 171, [136, 481, 0, 2, 4, 9])]),
  (5, [(.ifCond .ne 11, [16]), (.aload_n 0, []), (.iload_n 2, []), (.invokevirtual 171, [136, 481, 0, 2, 4, 9])]),
  (13, [(.ifCond .eq 9, [22])]),
  (16, [(.aload_n 0, []), (.iconst (-1), []), (.invokevirtual 101, [134, 323, 0, 2, 1, 9])]),
  (21, [(.ireturn, [])]),
  (22, [(.iload_n 3, []), (.iconst (-1), []), (.if_icmp .ge 10, [34]), (.aload_n 0, []), (.bipush (-4), []), (.invokevirtual 101, [134, 323, 0, 2, 1, 9])]),
  (33, [(.ireturn, [])]),
  (34, [(.aload_n 0, []), (.getfield 75, [9, 11, 281, 2]), (.aload_n 0, []), (.getfield 22, [9, 2, 272, 2]), (.iload_n 1, []), (.invokevirtual 174, [74, 489, 0, 2, 3, 6])]),
  (46, [(.aload_n 0, []), (.getfield 22, [9, 2, 272, 2]), (.iload_n 2, []), (.invokevirtual 174, [74, 489, 0, 2, 3, 6])]),
  (54, [(.aload_n 0, []), (.getfield 95, [9, 14, 284, 2]), (.invokevirtual 235, [5, 638, 0, 4, 4, 0])]),
  (61, [(.istore 4, []), (.iload_n 3, []), (.iconst (-1), []), (.if_icmp .ne 9, [74]), (.iload 4, []), (.invokestatic 126, [142, 370, 1, 1, 1, 9])]),
  (73, [(.ireturn, [])]),
  (74, [(.iload 4, []), (.ifCond .eq 14, [90]), (.aload_n 0, []), (.getfield 95, [9, 14, 284, 2]), (.iload_n 3, []), (.invokevirtual 194, [48, 496, 0, 2, 1, 5])]),
  (87, [(.goto 5, [92])]),
  (90, [(.bipush (-9), [])]),
  (92, [(.ireturn, [])])]
def zc_lt_common : List (Nat × List zIns) := [
  (0, [(.aload_n 0, []), (.iload_n 1, []), (.invokevirtual 171, [136, 481, 0, 2, 4, 9])]),
  (5, [(.ifCond .ne 11, [16]), (.aload_n 0, []), (.iload_n 2, []), (.invokevirtual 171, [136, 481, 0, 2, 4, 9])]),
  (13, [(.ifCond .eq 9, [22])]),
  (16, [(.aload_n 0, []), (.iconst (-1), []), (.invokevirtual 101, [134, 323, 0, 2, 1, 9])]),
  (21, [(.ireturn, [])]),
  (22, [(.iload_n 3, []), (.iconst (-1), []), (.if_icmp .ge 10, [34]), (.aload_n 0, []), (.bipush (-4), []), (.invokevirtual 101, [134, 323, 0, 2, 1, 9])]),
  (33, [(.ireturn, [])]),
  (34, [(.aload_n 0, []), (.getfield 75, [9, 11, 281, 2]), (.aload_n 0, []), (.getfield 22, [9, 2, 272, 2]), (.iload_n 1, []), (.invokevirtual 174, [74, 489, 0, 2, 3, 6])]),
  (46, [(.aload_n 0, []), (.getfield 22, [9, 2, 272, 2]), (.iload_n 2, []), (.invokevirtual 174, [74, 489, 0, 2, 3, 6])]),
  (54, [(.aload_n 0, []), (.getfield 95, [9, 14, 284, 2]), (.invokevirtual 239, [6, 646, 0, 4, 0, 0])]),
  (61, [(.aload_n 0, []), (.getfield 95, [9, 14, 284, 2]), (.iload_n 3, []), (.invokestatic 178, [143, 493, 1, 2, 1, 9])]),
  (69, [(.ireturn, [])])]
def zc_lt_product : List (Nat × List zIns) := [
  (0, [(.aload_n 0, []), (.iload_n 1, []), (.invokevirtual 171, [136, 481, 0, 2, 4, 9])]),
  (5, [(.ifCond .ne 11, [16]), (.aload_n 0, []), (.iload_n 2, []), (.invokevirtual 171, [136, 481, 0, 2, 4, 9])]),
  (13, [(.ifCond .eq 9, [22])]),
  (16, [(.aload_n 0, []), (.iconst (-1), []), (.invokevirtual 101, [134, 323, 0, 2, 1, 9])]),
  (21, [(.ireturn, [])]),
  (22, [(.aload_n 0, []), (.getfield 95, [9, 14, 284, 2]), (.aload_n 0, []), (.getfield 22, [9, 2, 272, 2]), (.iload_n 1, []), (.invokevirtual 174, [74, 489, 0, 2, 3, 6])]),
  (34, [(.invokevirtual 243, [60, 655, 0, 2, 0, 5])]),
  (37, [(.aload_n 0, []), (.getfield 95, [9, 14, 284, 2]), (.aload_n 0, []), (.getfield 22, [9, 2, 272, 2]), (.iload_n 2, []), (.invokevirtual 174, [74, 489, 0, 2, 3, 6])]),
  (49, [(.invokevirtual 246, [56, 656, 0, 2, 0, 5])]),
  (52, [(.aload_n 0, []), (.getfield 95, [9, 14, 284, 2]), (.invokevirtual 105, [47, 327, 0, 1, 1, 5])]),
  (59, [(.bipush 14, []), (.if_icmp .gt 13, [74]), (.aload_n 0, []), (.getfield 22, [9, 2, 272, 2]), (.invokevirtual 164, [73, 462, 0, 1, 4, 6])]),
  (71, [(.ifCond .eq 10, [81])]),
  (74, [(.aload_n 0, []), (.bipush (-6), []), (.invokevirtual 101, [134, 323, 0, 2, 1, 9])]),
  (80, [(.ireturn, [])]),
  (81, [(.aload_n 0, []), (.getfield 22, [9, 2, 272, 2]), (.aload_n 0, []), (.getfield 95, [9, 14, 284, 2]), (.invokevirtual 168, [75, 466, 0, 2, 1, 6])]),
  (92, [(.ireturn, [])])]
def zc_lt_power : List (Nat × List zIns) := [
  (0, [(.aload_n 0, []), (.iload_n 1, []), (.invokevirtual 171, [136, 481, 0, 2, 4, 9])]),
  (5, [(.ifCond .eq 9, [14]), (.aload_n 0, []), (.iconst (-1), []), (.invokevirtual 101, [134, 323, 0, 2, 1, 9])]),
  (13, [(.ireturn, [])]),
  (14, [(.iload_n 2, []), (.ifCond .ge 10, [25]), (.aload_n 0, []), (.bipush (-4), []), (.invokevirtual 101, [134, 323, 0, 2, 1, 9])]),
  (24, [(.ireturn, [])]),
  (25, [(.aload_n 0, []), (.getfield 22, [9, 2, 272, 2]), (.iload_n 1, []), (.invokevirtual 174, [74, 489, 0, 2, 3, 6])]),
  (33, [(.astore_n 3, []), (.aload_n 3, []), (.invokevirtual 105, [47, 327, 0, 1, 1, 5])]),
  (38, [(.i2l, []), (.iload_n 2, []), (.i2l, []), (.lmul, []), (.ldc2_w 249, [14, 664]), (.lcmp, []), (.ifCond .gt 13, [59]), (.aload_n 0, []), (.getfield 22, [9, 2, 272, 2]), (.invokevirtual 164, [73, 462, 0, 1, 4, 6])]),
  (56, [(.ifCond .eq 10, [66])]),
  (59, [(.aload_n 0, []), (.bipush (-6), []), (.invokevirtual 101, [134, 323, 0, 2, 1, 9])]),
  (65, [(.ireturn, [])]),
  (66, [(.aload_n 0, []), (.getfield 95, [9, 14, 284, 2]), (.invokevirtual 153, [51, 415, 0, 1, 0, 5])]),
  (73, [(.aload_n 0, []), (.getfield 95, [9, 14, 284, 2]), (.aload_n 3, []), (.iload_n 2, []), (.invokevirtual 251, [58, 665, 0, 3, 0, 5])]),
  (82, [(.aload_n 0, []), (.getfield 22, [9, 2, 272, 2]), (.aload_n 0, []), (.getfield 95, [9, 14, 284, 2]), (.invokevirtual 168, [75, 466, 0, 2, 1, 6])]),
  (93, [(.ireturn, [])])]
def zc_lt_changes : List (Nat × List zIns) := [
  (0, [(.aload_n 0, []), (.iload_n 1, []), (.invokevirtual 171, [136, 481, 0, 2, 4, 9])]),
  (5, [(.ifCond .ne 11, [16]), (.aload_n 0, []), (.iload_n 2, []), (.invokevirtual 171, [136, 481, 0, 2, 4, 9])]),
  (13, [(.ifCond .eq 9, [22])]),
  (16, [(.aload_n 0, []), (.iconst (-1), []), (.invokevirtual 101, [134, 323, 0, 2, 1, 9])]),
  (21, [(.ireturn, [])]),
  (22, [(.aload_n 0, []), (.getfield 95, [9, 14, 284, 2]), (.aload_n 0, []), (.getfield 22, [9, 2, 272, 2]), (.iload_n 1, []), (.invokevirtual 174, [74, 489, 0, 2, 3, 6])]),
  (34, [(.invokevirtual 243, [60, 655, 0, 2, 0, 5])]),
  (37, [(.aload_n 0, []), (.getfield 95, [9, 14, 284, 2]), (.aload_n 0, []), (.getfield 22, [9, 2, 272, 2]), (.iload_n 2, []), (.invokevirtual 174, [74, 489, 0, 2, 3, 6])]),
  (49, [(.invokevirtual 246, [56, 656, 0, 2, 0, 5])]),
  (52, [(.aload_n 0, []), (.getfield 98, [9, 15, 285, 2]), (.aload_n 0, []), (.getfield 22, [9, 2, 272, 2]), (.iload_n 2, []), (.invokevirtual 174, [74, 489, 0, 2, 3, 6])]),
  (64, [(.invokevirtual 243, [60, 655, 0, 2, 0, 5])]),
  (67, [(.aload_n 0, []), (.getfield 98, [9, 15, 285, 2]), (.aload_n 0, []), (.getfield 22, [9, 2, 272, 2]), (.iload_n 1, []), (.invokevirtual 174, [74, 489, 0, 2, 3, 6])]),
  (79, [(.invokevirtual 246, [56, 656, 0, 2, 0, 5])]),
  (82, [(.aload_n 0, []), (.getfield 75, [9, 11, 281, 2]), (.aload_n 0, []), (.getfield 95, [9, 14, 284, 2]), (.aload_n 0, []), (.getfield 98, [9, 15, 285, 2]), (.invokevirtual 186, [3, 509, 0, 3, 4, 0])]),
  (97, [(.invokestatic 126, [142, 370, 1, 1, 1, 9])]),
  (100, [(.ireturn, [])])]
def zc_lt_root : List (Nat × List zIns) := [
  (0, [(.aload_n 0, []), (.iload_n 1, []), (.invokevirtual 171, [136, 481, 0, 2, 4, 9])]),
  (5, [(.ifCond .eq 9, [14]), (.aload_n 0, []), (.iconst (-1), []), (.invokevirtual 101, [134, 323, 0, 2, 1, 9])]),
  (13, [(.ireturn, [])]),
  (14, [(.iload_n 2, []), (.iconst (-1), []), (.if_icmp .ge 10, [26]), (.aload_n 0, []), (.bipush (-4), []), (.invokevirtual 101, [134, 323, 0, 2, 1, 9])]),
  (25, [(.ireturn, [])]),
  (26, [(.aload_n 0, []), (.getfield 22, [9, 2, 272, 2]), (.iload_n 1, []), (.invokevirtual 174, [74, 489, 0, 2, 3, 6])]),
  (34, [(.astore_n 3, []), (.aload_n 3, []), (.invokevirtual 105, [47, 327, 0, 1, 1, 5])]),
  (39, [(.ifCond .ne 10, [49]), (.aload_n 0, []), (.bipush (-3), []), (.invokevirtual 101, [134, 323, 0, 2, 1, 9])]),
  (48, [(.ireturn, [])]),
  (49, [(.aload_n 0, []), (.getfield 75, [9, 11, 281, 2]), (.aload_n 3, []), (.aload_n 0, []), (.getfield 95, [9, 14, 284, 2]), (.invokevirtual 254, [7, 678, 0, 3, 1, 0])]),
  (61, [(.istore 4, []), (.iload_n 2, []), (.iconst (-1), []), (.if_icmp .ne 8, [73]), (.iload 4, []), (.goto 11, [81])]),
  (73, [(.aload_n 0, []), (.getfield 95, [9, 14, 284, 2]), (.iload_n 2, []), (.invokevirtual 194, [48, 496, 0, 2, 1, 5])]),
  (81, [(.ireturn, [])])]
def zc_lt_parts : List (Nat × List zIns) := [
  (0, [(.aload_n 0, []), (.iload_n 1, []), (.invokevirtual 171, [136, 481, 0, 2, 4, 9])]),
  (5, [(.ifCond .ne 14, [19]), (.iload_n 2, []), (.iconst (-1), []), (.if_icmp .lt 9, [19]), (.iload_n 2, []), (.bipush 6, []), (.if_icmp .lt 9, [25])]),
  (19, [(.aload_n 0, []), (.iconst (-1), []), (.invokevirtual 101, [134, 323, 0, 2, 1, 9])]),
  (24, [(.ireturn, [])]),
  (25, [(.aload_n 0, []), (.getfield 22, [9, 2, 272, 2]), (.iload_n 1, []), (.invokevirtual 174, [74, 489, 0, 2, 3, 6])]),
  (33, [(.invokevirtual 258, [66, 698, 0, 1, 1, 5])]),
  (36, [(.istore_n 3, []), (.iload_n 2, []), (.iconst (-1), []), (.if_icmp .ne 14, [53]), (.aload_n 0, []), (.getfield 12, [9, 0, 270, 2]), (.iload_n 3, []), (.invokevirtual 261, [28, 702, 0, 2, 1, 2])]),
  (50, [(.goto 12, [62])]),
  (53, [(.aload_n 0, []), (.getfield 12, [9, 0, 270, 2]), (.iload_n 2, []), (.iload_n 3, []), (.invokevirtual 264, [27, 710, 0, 3, 1, 2])]),
  (62, [(.ireturn, [])])]
def zc_lt_turned : List (Nat × List zIns) := [
  (0, [(.aload_n 0, []), (.iload_n 1, []), (.invokevirtual 171, [136, 481, 0, 2, 4, 9])]),
  (5, [(.ifCond .eq 9, [14]), (.aload_n 0, []), (.iconst (-1), []), (.invokevirtual 101, [134, 323, 0, 2, 1, 9])]),
  (13, [(.ireturn, [])]),
  (14, [(.aload_n 0, []), (.iload_n 1, []), (.invokevirtual 267, [137, 715, 0, 2, 4, 9])]),
  (19, [(.ifCond .eq 10, [29]), (.aload_n 0, []), (.bipush (-6), []), (.invokevirtual 101, [134, 323, 0, 2, 1, 9])]),
  (28, [(.ireturn, [])]),
  (29, [(.aload_n 0, []), (.getfield 91, [9, 13, 283, 2]), (.aload_n 0, []), (.getfield 22, [9, 2, 272, 2]), (.iload_n 1, []), (.invokevirtual 174, [74, 489, 0, 2, 3, 6])]),
  (41, [(.invokevirtual 270, [86, 719, 0, 2, 0, 8])]),
  (44, [(.aload_n 0, []), (.getfield 91, [9, 13, 283, 2]), (.invokevirtual 273, [85, 759, 0, 1, 1, 8])]),
  (51, [(.ireturn, [])])]
def zc_lt_turn : List (Nat × List zIns) := [
  (0, [(.aload_n 0, []), (.iload_n 1, []), (.invokevirtual 171, [136, 481, 0, 2, 4, 9])]),
  (5, [(.ifCond .eq 9, [14]), (.aload_n 0, []), (.iconst (-1), []), (.invokevirtual 101, [134, 323, 0, 2, 1, 9])]),
  (13, [(.ireturn, [])]),
  (14, [(.iload_n 2, []), (.ifCond .lt 7, [22]), (.iload_n 3, []), (.ifCond .ge 10, [29])]),
  (22, [(.aload_n 0, []), (.bipush (-4), []), (.invokevirtual 101, [134, 323, 0, 2, 1, 9])]),
  (28, [(.ireturn, [])]),
  (29, [(.aload_n 0, []), (.iload_n 1, []), (.invokevirtual 267, [137, 715, 0, 2, 4, 9])]),
  (34, [(.ifCond .eq 10, [44]), (.aload_n 0, []), (.bipush (-6), []), (.invokevirtual 101, [134, 323, 0, 2, 1, 9])]),
  (43, [(.ireturn, [])]),
  (44, [(.aload_n 0, []), (.getfield 91, [9, 13, 283, 2]), (.aload_n 0, []), (.getfield 22, [9, 2, 272, 2]), (.iload_n 1, []), (.invokevirtual 174, [74, 489, 0, 2, 3, 6])]),
  (56, [(.invokevirtual 270, [86, 719, 0, 2, 0, 8])]),
  (59, [(.aload_n 0, []), (.getfield 91, [9, 13, 283, 2]), (.iload_n 2, []), (.iload_n 3, []), (.invokevirtual 276, [91, 767, 0, 3, 1, 8])]),
  (68, [(.ireturn, [])])]
def zc_lt_apart : List (Nat × List zIns) := [
  (0, [(.aload_n 0, []), (.iload_n 1, []), (.invokevirtual 171, [136, 481, 0, 2, 4, 9])]),
  (5, [(.ifCond .ne 11, [16]), (.aload_n 0, []), (.iload_n 2, []), (.invokevirtual 171, [136, 481, 0, 2, 4, 9])]),
  (13, [(.ifCond .eq 9, [22])]),
  (16, [(.aload_n 0, []), (.iconst (-1), []), (.invokevirtual 101, [134, 323, 0, 2, 1, 9])]),
  (21, [(.ireturn, [])]),
  (22, [(.aload_n 0, []), (.iload_n 1, []), (.invokevirtual 267, [137, 715, 0, 2, 4, 9])]),
  (27, [(.ifCond .ne 11, [38]), (.aload_n 0, []), (.iload_n 2, []), (.invokevirtual 267, [137, 715, 0, 2, 4, 9])]),
  (35, [(.ifCond .eq 10, [45])]),
  (38, [(.aload_n 0, []), (.bipush (-6), []), (.invokevirtual 101, [134, 323, 0, 2, 1, 9])]),
  (44, [(.ireturn, [])]),
  (45, [(.aload_n 0, []), (.getfield 91, [9, 13, 283, 2]), (.aload_n 0, []), (.getfield 22, [9, 2, 272, 2]), (.iload_n 1, []), (.invokevirtual 174, [74, 489, 0, 2, 3, 6])]),
  (57, [(.invokevirtual 270, [86, 719, 0, 2, 0, 8])]),
  (60, [(.aload_n 0, []), (.getfield 91, [9, 13, 283, 2]), (.aload_n 0, []), (.getfield 22, [9, 2, 272, 2]), (.iload_n 2, []), (.invokevirtual 174, [74, 489, 0, 2, 3, 6])]),
  (72, [(.invokevirtual 279, [92, 775, 0, 2, 1, 8])]),
  (75, [(.ireturn, [])])]
def zc_lt_unlike : List (Nat × List zIns) := [
  (0, [(.iload_n 1, []), (.ifCond .lt 8, [9]), (.iload_n 2, []), (.iconst 1, []), (.if_icmp .ge 10, [16])]),
  (9, [(.aload_n 0, []), (.bipush (-4), []), (.invokevirtual 201, [135, 572, 0, 2, 2, 9])]),
  (15, [(.lreturn, [])]),
  (16, [(.iload_n 1, []), (.bipush 12, []), (.if_icmp .gt 9, [28]), (.iload_n 2, []), (.bipush 6, []), (.if_icmp .le 10, [35])]),
  (28, [(.aload_n 0, []), (.bipush (-6), []), (.invokevirtual 201, [135, 572, 0, 2, 2, 9])]),
  (34, [(.lreturn, [])]),
  (35, [(.aload_n 0, []), (.getfield 82, [9, 12, 282, 2]), (.iload_n 1, []), (.iload_n 2, []), (.aload_n 0, []), (.getfield 12, [9, 0, 270, 2]), (.invokevirtual 282, [83, 783, 0, 4, 2, 7])]),
  (48, [(.lreturn, [])])]
def zc_lt_free : List (Nat × List zIns) := [
  (0, [(.aload_n 0, []), (.getfield 12, [9, 0, 270, 2]), (.invokevirtual 286, [30, 796, 0, 1, 1, 2])]),
  (7, [(.ireturn, [])])]
def zc_lt_lots : List (Nat × List zIns) := [
  (0, [(.aload_n 0, []), (.iload_n 1, []), (.invokevirtual 171, [136, 481, 0, 2, 4, 9])]),
  (5, [(.ifCond .eq 9, [14]), (.aload_n 0, []), (.iconst (-1), []), (.invokevirtual 101, [134, 323, 0, 2, 1, 9])]),
  (13, [(.ireturn, [])]),
  (14, [(.iload_n 2, []), (.iconst 1, []), (.if_icmp .ge 10, [26]), (.aload_n 0, []), (.bipush (-4), []), (.invokevirtual 101, [134, 323, 0, 2, 1, 9])]),
  (25, [(.ireturn, [])]),
  (26, [(.iload_n 2, []), (.bipush 60, []), (.if_icmp .le 10, [39]), (.aload_n 0, []), (.bipush (-6), []), (.invokevirtual 101, [134, 323, 0, 2, 1, 9])]),
  (38, [(.ireturn, [])]),
  (39, [(.iload 4, []), (.invokestatic 140, [141, 389, 1, 1, 4, 9])]),
  (44, [(.ifCond .eq 10, [54]), (.aload_n 0, []), (.bipush (-2), []), (.invokevirtual 101, [134, 323, 0, 2, 1, 9])]),
  (53, [(.ireturn, [])]),
  (54, [(.aload_n 0, []), (.getfield 22, [9, 2, 272, 2]), (.iload_n 1, []), (.invokevirtual 174, [74, 489, 0, 2, 3, 6])]),
  (62, [(.astore 5, []), (.aload 5, []), (.invokevirtual 105, [47, 327, 0, 1, 1, 5])]),
  (69, [(.iconst 2, []), (.if_icmp .ge 10, [80]), (.aload_n 0, []), (.bipush (-3), []), (.invokevirtual 101, [134, 323, 0, 2, 1, 9])]),
  (79, [(.ireturn, [])]),
  (80, [(.aload_n 0, []), (.getfield 95, [9, 14, 284, 2]), (.aload 5, []), (.invokevirtual 243, [60, 655, 0, 2, 0, 5])]),
  (89, [(.aload_n 0, []), (.getfield 12, [9, 0, 270, 2]), (.aload_n 0, []), (.getfield 95, [9, 14, 284, 2]), (.iload_n 2, []), (.iload_n 3, []), (.invokevirtual 289, [31, 805, 0, 4, 1, 2])]),
  (102, [(.istore 6, []), (.iload 4, []), (.ifCond .ne 8, [114]), (.iload 6, []), (.goto 12, [123])]),
  (114, [(.aload_n 0, []), (.getfield 95, [9, 14, 284, 2]), (.aload 5, []), (.invokevirtual 292, [70, 821, 0, 2, 1, 5])]),
  (123, [(.ireturn, [])])]
def zc_lt_list : List (Nat × List zIns) := [
  (0, [(.iload_n 1, []), (.invokestatic 295, [140, 829, 1, 1, 4, 9])]),
  (4, [(.ifCond .eq 9, [13]), (.aload_n 0, []), (.iconst (-1), []), (.invokevirtual 101, [134, 323, 0, 2, 1, 9])]),
  (12, [(.ireturn, [])]),
  (13, [(.iload_n 2, []), (.bipush 40, []), (.if_icmp .le 10, [26]), (.aload_n 0, []), (.bipush (-6), []), (.invokevirtual 101, [134, 323, 0, 2, 1, 9])]),
  (25, [(.ireturn, [])]),
  (26, [(.iload_n 2, []), (.ifCond .ge 6, [33]), (.bipush (-14), []), (.ireturn, [])]),
  (33, [(.aload_n 0, []), (.getfield 62, [9, 9, 279, 2]), (.iload_n 1, []), (.iload_n 2, []), (.invokevirtual 298, [35, 832, 0, 3, 0, 3])]),
  (42, [(.iconst 1, []), (.ireturn, [])])]
def zc_lt_put : List (Nat × List zIns) := [
  (0, [(.iload_n 1, []), (.invokestatic 295, [140, 829, 1, 1, 4, 9])]),
  (4, [(.ifCond .eq 9, [13]), (.aload_n 0, []), (.iconst (-1), []), (.invokevirtual 101, [134, 323, 0, 2, 1, 9])]),
  (12, [(.ireturn, [])]),
  (13, [(.aload_n 0, []), (.getfield 62, [9, 9, 279, 2]), (.iload_n 1, []), (.invokevirtual 301, [33, 846, 0, 2, 4, 3])]),
  (21, [(.ifCond .eq 6, [27]), (.bipush (-11), []), (.ireturn, [])]),
  (27, [(.aload_n 0, []), (.getfield 62, [9, 9, 279, 2]), (.iload_n 1, []), (.invokevirtual 304, [34, 850, 0, 2, 3, 3])]),
  (35, [(.astore 4, []), (.aload 4, []), (.iload_n 2, []), (.iconst 1, []), (.invokevirtual 305, [50, 854, 0, 3, 4, 5])]),
  (44, [(.ifCond .ne 6, [50]), (.bipush (-13), []), (.ireturn, [])]),
  (50, [(.aload 4, []), (.iload_n 2, []), (.iload_n 3, []), (.invokevirtual 308, [49, 855, 0, 3, 0, 5])]),
  (57, [(.iconst 1, []), (.ireturn, [])])]
def zc_lt_look : List (Nat × List zIns) := [
  (0, [(.iload_n 1, []), (.invokestatic 295, [140, 829, 1, 1, 4, 9])]),
  (4, [(.ifCond .eq 9, [13]), (.aload_n 0, []), (.iconst (-1), []), (.invokevirtual 201, [135, 572, 0, 2, 2, 9])]),
  (12, [(.lreturn, [])]),
  (13, [(.aload_n 0, []), (.getfield 62, [9, 9, 279, 2]), (.iload_n 1, []), (.invokevirtual 301, [33, 846, 0, 2, 4, 3])]),
  (21, [(.ifCond .eq 7, [28]), (.ldc2_w 311, [4000000000000000011, 860]), (.lreturn, [])]),
  (28, [(.aload_n 0, []), (.getfield 62, [9, 9, 279, 2]), (.iload_n 1, []), (.invokevirtual 304, [34, 850, 0, 2, 3, 3])]),
  (36, [(.astore_n 3, []), (.aload_n 3, []), (.iload_n 2, []), (.iconst 1, []), (.invokevirtual 305, [50, 854, 0, 3, 4, 5])]),
  (43, [(.ifCond .ne 7, [50]), (.ldc2_w 313, [4000000000000000013, 861]), (.lreturn, [])]),
  (50, [(.aload_n 3, []), (.iload_n 2, []), (.invokevirtual 194, [48, 496, 0, 2, 1, 5])]),
  (55, [(.i2l, []), (.lreturn, [])])]
def zc_lt_from : List (Nat × List zIns) := [
  (0, [(.iload_n 1, []), (.invokestatic 295, [140, 829, 1, 1, 4, 9])]),
  (4, [(.ifCond .eq 9, [13]), (.aload_n 0, []), (.iconst (-1), []), (.invokevirtual 101, [134, 323, 0, 2, 1, 9])]),
  (12, [(.ireturn, [])]),
  (13, [(.iload_n 3, []), (.ifCond .ge 10, [24]), (.aload_n 0, []), (.bipush (-4), []), (.invokevirtual 101, [134, 323, 0, 2, 1, 9])]),
  (23, [(.ireturn, [])]),
  (24, [(.iload_n 3, []), (.bipush 14, []), (.if_icmp .gt 13, [40]), (.aload_n 0, []), (.getfield 22, [9, 2, 272, 2]), (.invokevirtual 164, [73, 462, 0, 1, 4, 6])]),
  (37, [(.ifCond .eq 10, [47])]),
  (40, [(.aload_n 0, []), (.bipush (-6), []), (.invokevirtual 101, [134, 323, 0, 2, 1, 9])]),
  (46, [(.ireturn, [])]),
  (47, [(.aload_n 0, []), (.getfield 62, [9, 9, 279, 2]), (.iload_n 1, []), (.invokevirtual 301, [33, 846, 0, 2, 4, 3])]),
  (55, [(.ifCond .eq 6, [61]), (.bipush (-11), []), (.ireturn, [])]),
  (61, [(.aload_n 0, []), (.getfield 62, [9, 9, 279, 2]), (.iload_n 1, []), (.invokevirtual 304, [34, 850, 0, 2, 3, 3])]),
  (69, [(.astore 4, []), (.aload 4, []), (.iload_n 2, []), (.iload_n 3, []), (.invokevirtual 305, [50, 854, 0, 3, 4, 5])]),
  (78, [(.ifCond .ne 6, [84]), (.bipush (-13), []), (.ireturn, [])]),
  (84, [(.aload_n 0, []), (.getfield 95, [9, 14, 284, 2]), (.invokevirtual 153, [51, 415, 0, 1, 0, 5])]),
  (91, [(.aload_n 0, []), (.getfield 95, [9, 14, 284, 2]), (.aload 4, []), (.iload_n 2, []), (.iload_n 3, []), (.invokevirtual 315, [57, 866, 0, 4, 0, 5])]),
  (102, [(.aload_n 0, []), (.getfield 95, [9, 14, 284, 2]), (.invokevirtual 319, [67, 867, 0, 1, 4, 5])]),
  (109, [(.ifCond .ne 10, [119]), (.aload_n 0, []), (.bipush (-3), []), (.invokevirtual 101, [134, 323, 0, 2, 1, 9])]),
  (118, [(.ireturn, [])]),
  (119, [(.aload_n 0, []), (.getfield 22, [9, 2, 272, 2]), (.aload_n 0, []), (.getfield 95, [9, 14, 284, 2]), (.invokevirtual 168, [75, 466, 0, 2, 1, 6])]),
  (130, [(.ireturn, [])])]
def zc_lt_lays : List (Nat × List zIns) := [
  (0, [(.iload_n 1, []), (.invokestatic 295, [140, 829, 1, 1, 4, 9])]),
  (4, [(.ifCond .ne 11, [15]), (.aload_n 0, []), (.iload_n 3, []), (.invokevirtual 171, [136, 481, 0, 2, 4, 9])]),
  (12, [(.ifCond .eq 9, [21])]),
  (15, [(.aload_n 0, []), (.iconst (-1), []), (.invokevirtual 101, [134, 323, 0, 2, 1, 9])]),
  (20, [(.ireturn, [])]),
  (21, [(.aload_n 0, []), (.getfield 62, [9, 9, 279, 2]), (.iload_n 1, []), (.invokevirtual 301, [33, 846, 0, 2, 4, 3])]),
  (29, [(.ifCond .eq 6, [35]), (.bipush (-11), []), (.ireturn, [])]),
  (35, [(.aload_n 0, []), (.getfield 62, [9, 9, 279, 2]), (.iload_n 1, []), (.invokevirtual 304, [34, 850, 0, 2, 3, 3])]),
  (43, [(.astore 4, []), (.aload_n 0, []), (.getfield 22, [9, 2, 272, 2]), (.iload_n 3, []), (.invokevirtual 174, [74, 489, 0, 2, 3, 6])]),
  (53, [(.astore 5, []), (.aload 4, []), (.iload_n 2, []), (.aload 5, []), (.invokevirtual 105, [47, 327, 0, 1, 1, 5])]),
  (63, [(.invokevirtual 305, [50, 854, 0, 3, 4, 5])]),
  (66, [(.ifCond .ne 6, [72]), (.bipush (-13), []), (.ireturn, [])]),
  (72, [(.aload_n 0, []), (.getfield 75, [9, 11, 281, 2]), (.aload 5, []), (.iconst 0, []), (.aload_n 0, []), (.getfield 95, [9, 14, 284, 2]), (.invokevirtual 197, [1, 567, 0, 4, 0, 0])]),
  (86, [(.aload 4, []), (.iload_n 2, []), (.aload_n 0, []), (.getfield 95, [9, 14, 284, 2]), (.invokevirtual 322, [61, 876, 0, 3, 0, 5])]),
  (96, [(.aload_n 0, []), (.getfield 95, [9, 14, 284, 2]), (.invokevirtual 105, [47, 327, 0, 1, 1, 5])]),
  (103, [(.ireturn, [])])]
def zc_lt_judge : List (Nat × List zIns) := [
  (0, [(.iload_n 1, []), (.invokestatic 295, [140, 829, 1, 1, 4, 9])]),
  (4, [(.ifCond .ne 11, [15]), (.aload_n 0, []), (.iload_n 2, []), (.invokevirtual 171, [136, 481, 0, 2, 4, 9])]),
  (12, [(.ifCond .eq 9, [21])]),
  (15, [(.aload_n 0, []), (.iconst (-1), []), (.invokevirtual 101, [134, 323, 0, 2, 1, 9])]),
  (20, [(.ireturn, [])]),
  (21, [(.aload_n 0, []), (.getfield 62, [9, 9, 279, 2]), (.iload_n 1, []), (.invokevirtual 301, [33, 846, 0, 2, 4, 3])]),
  (29, [(.ifCond .eq 6, [35]), (.bipush (-11), []), (.ireturn, [])]),
  (35, [(.aload_n 0, []), (.getfield 62, [9, 9, 279, 2]), (.iload_n 1, []), (.invokevirtual 304, [34, 850, 0, 2, 3, 3])]),
  (43, [(.aload_n 0, []), (.getfield 22, [9, 2, 272, 2]), (.iload_n 2, []), (.invokevirtual 174, [74, 489, 0, 2, 3, 6])]),
  (51, [(.invokevirtual 326, [69, 884, 0, 2, 1, 5])]),
  (54, [(.ireturn, [])])]
def zc_lt_undo : List (Nat × List zIns) := [
  (0, [(.aload_n 0, []), (.getfield 29, [9, 3, 273, 2]), (.invokevirtual 329, [11, 889, 0, 1, 1, 1])]),
  (7, [(.ifCond .ne 10, [17]), (.aload_n 0, []), (.bipush (-3), []), (.invokevirtual 101, [134, 323, 0, 2, 1, 9])]),
  (16, [(.ireturn, [])]),
  (17, [(.aload_n 0, []), (.getfield 29, [9, 3, 273, 2]), (.aload_n 0, []), (.getfield 12, [9, 0, 270, 2]), (.invokevirtual 330, [14, 893, 0, 2, 0, 1])]),
  (28, [(.aload_n 0, []), (.getfield 29, [9, 3, 273, 2]), (.invokevirtual 329, [11, 889, 0, 1, 1, 1])]),
  (35, [(.ireturn, [])])]
def zc_lt_image : List (Nat × List zIns) := [
  (0, [(.aload_n 0, []), (.getfield 33, [9, 4, 274, 2]), (.aload_n 0, []), (.getfield 12, [9, 0, 270, 2]), (.invokevirtual 146, [21, 397, 0, 2, 0, 2])]),
  (11, [(.aload_n 0, []), (.getfield 36, [9, 5, 275, 2]), (.aload_n 0, []), (.getfield 22, [9, 2, 272, 2]), (.invokevirtual 333, [77, 901, 0, 2, 0, 6])]),
  (22, [(.aload_n 0, []), (.iconst 1, []), (.putfield 39, [9, 6, 276, 1]), (.aload_n 0, []), (.getfield 22, [9, 2, 272, 2]), (.invokevirtual 182, [72, 485, 0, 1, 1, 6])]),
  (34, [(.ireturn, [])])]
def zc_lt_on : List (Nat × List zIns) := [
  (0, [(.aload_n 0, []), (.getfield 39, [9, 6, 276, 1]), (.ifCond .ne 10, [14]), (.aload_n 0, []), (.bipush (-3), []), (.invokevirtual 101, [134, 323, 0, 2, 1, 9])]),
  (13, [(.ireturn, [])]),
  (14, [(.aload_n 0, []), (.getfield 12, [9, 0, 270, 2]), (.aload_n 0, []), (.getfield 33, [9, 4, 274, 2]), (.invokevirtual 146, [21, 397, 0, 2, 0, 2])]),
  (25, [(.aload_n 0, []), (.getfield 22, [9, 2, 272, 2]), (.aload_n 0, []), (.getfield 36, [9, 5, 275, 2]), (.invokevirtual 333, [77, 901, 0, 2, 0, 6])]),
  (36, [(.aload_n 0, []), (.getfield 29, [9, 3, 273, 2]), (.invokevirtual 336, [12, 909, 0, 1, 0, 1])]),
  (43, [(.aload_n 0, []), (.getfield 22, [9, 2, 272, 2]), (.invokevirtual 182, [72, 485, 0, 1, 1, 6])]),
  (50, [(.ireturn, [])])]
def zc_lt_count : List (Nat × List zIns) := [
  (0, [(.iload_n 1, []), (.bipush 11, []), (.if_icmp .lt 19, [22]), (.iload_n 1, []), (.bipush 16, []), (.if_icmp .gt 13, [22]), (.aload_n 0, []), (.getfield 66, [9, 10, 280, 2]), (.iload_n 1, []), (.bipush 11, []), (.isub, []), (.iaload, []), (.ireturn, [])]),
  (22, [(.iload_n 1, []), (.tableswitch 73 0 4 #[33, 41, 49, 57, 65], [])]),
  (56, [(.aload_n 0, []), (.getfield 22, [9, 2, 272, 2]), (.invokevirtual 182, [72, 485, 0, 1, 1, 6])]),
  (63, [(.ireturn, [])]),
  (64, [(.aload_n 0, []), (.getfield 48, [9, 7, 277, 2]), (.invokevirtual 105, [47, 327, 0, 1, 1, 5])]),
  (71, [(.ireturn, [])]),
  (72, [(.aload_n 0, []), (.getfield 22, [9, 2, 272, 2]), (.invokevirtual 337, [78, 917, 0, 1, 1, 6])]),
  (79, [(.ireturn, [])]),
  (80, [(.aload_n 0, []), (.getfield 12, [9, 0, 270, 2]), (.invokevirtual 340, [23, 922, 0, 1, 1, 2])]),
  (87, [(.ireturn, [])]),
  (88, [(.aload_n 0, []), (.getfield 29, [9, 3, 273, 2]), (.invokevirtual 329, [11, 889, 0, 1, 1, 1])]),
  (95, [(.ireturn, [])]),
  (96, [(.bipush (-9), []), (.ireturn, [])])]
def zc_lt_refuse : List (Nat × List zIns) := [
  (0, [(.iload_n 1, []), (.ineg, []), (.iconst 1, []), (.isub, []), (.istore_n 2, []), (.iload_n 2, []), (.ifCond .lt 22, [28]), (.iload_n 2, []), (.aload_n 0, []), (.getfield 66, [9, 10, 280, 2]), (.arraylength, []), (.if_icmp .ge 13, [28]), (.aload_n 0, []), (.getfield 66, [9, 10, 280, 2]), (.iload_n 2, []), (.dup2, []), (.iaload, []), (.iconst 1, []), (.iadd, []), (.iastore, [])]),
  (28, [(.iload_n 1, []), (.ireturn, [])])]
def zc_lt_refuseFar : List (Nat × List zIns) := [
  (0, [(.ldc2_w 343, [4000000000000000000, 576]), (.aload_n 0, []), (.iload_n 1, []), (.invokevirtual 101, [134, 323, 0, 2, 1, 9])]),
  (8, [(.i2l, []), (.lsub, []), (.lreturn, [])])]
def zc_lt_noWord : List (Nat × List zIns) := [
  (0, [(.iload_n 1, []), (.ifCond .lt 14, [15]), (.iload_n 1, []), (.aload_n 0, []), (.getfield 22, [9, 2, 272, 2]), (.invokevirtual 182, [72, 485, 0, 1, 1, 6])]),
  (12, [(.if_icmp .lt 7, [19])]),
  (15, [(.iconst 1, []), (.goto 4, [20])]),
  (19, [(.iconst 0, [])]),
  (20, [(.ireturn, [])])]
def zc_lt_tooLongToTurn : List (Nat × List zIns) := [
  (0, [(.aload_n 0, []), (.getfield 22, [9, 2, 272, 2]), (.iload_n 1, []), (.invokevirtual 174, [74, 489, 0, 2, 3, 6])]),
  (8, [(.invokevirtual 105, [47, 327, 0, 1, 1, 5])]),
  (11, [(.bipush 7, []), (.if_icmp .le 7, [20]), (.iconst 1, []), (.goto 4, [21])]),
  (20, [(.iconst 0, [])]),
  (21, [(.ireturn, [])])]
def zc_lt_noLetter : List (Nat × List zIns) := [
  (0, [(.iload_n 0, []), (.ifCond .lt 9, [10]), (.iload_n 0, []), (.bipush 6, []), (.if_icmp .lt 7, [14])]),
  (10, [(.iconst 1, []), (.goto 4, [15])]),
  (14, [(.iconst 0, [])]),
  (15, [(.ireturn, [])])]
def zc_lt_notTwoLetters : List (Nat × List zIns) := [
  (0, [(.iload_n 0, []), (.invokestatic 136, [138, 342, 1, 1, 4, 9])]),
  (4, [(.ifCond .ne 15, [19]), (.iload_n 1, []), (.invokestatic 136, [138, 342, 1, 1, 4, 9])]),
  (11, [(.ifCond .ne 8, [19]), (.iload_n 0, []), (.iload_n 1, []), (.if_icmp .ne 7, [23])]),
  (19, [(.iconst 1, []), (.goto 4, [24])]),
  (23, [(.iconst 0, [])]),
  (24, [(.ireturn, [])])]
def zc_lt_noList : List (Nat × List zIns) := [
  (0, [(.iload_n 0, []), (.ifCond .lt 8, [9]), (.iload_n 0, []), (.iconst 3, []), (.if_icmp .lt 7, [13])]),
  (9, [(.iconst 1, []), (.goto 4, [14])]),
  (13, [(.iconst 0, [])]),
  (14, [(.ireturn, [])])]
def zc_lt_noSuch : List (Nat × List zIns) := [
  (0, [(.iload_n 0, []), (.ifCond .eq 12, [13]), (.iload_n 0, []), (.iconst 1, []), (.if_icmp .eq 7, [13]), (.iconst 1, []), (.goto 4, [14])]),
  (13, [(.iconst 0, [])]),
  (14, [(.ireturn, [])])]
def zc_lt_answer : List (Nat × List zIns) := [
  (0, [(.iload_n 0, []), (.ifCond .eq 7, [8]), (.iconst 1, []), (.goto 4, [9])]),
  (8, [(.iconst 0, [])]),
  (9, [(.ireturn, [])])]
def zc_lt_sizeOrCell : List (Nat × List zIns) := [
  (0, [(.iload_n 1, []), (.iconst (-1), []), (.if_icmp .ne 10, [12]), (.aload_n 0, []), (.invokevirtual 105, [47, 327, 0, 1, 1, 5])]),
  (9, [(.goto 8, [17])]),
  (12, [(.aload_n 0, []), (.iload_n 1, []), (.invokevirtual 194, [48, 496, 0, 2, 1, 5])]),
  (17, [(.ireturn, [])])]
def zc_lt_commonDivisor : List (Nat × List zIns) := [
  (0, [(.iconst 1, []), (.istore_n 2, []), (.iconst 2, []), (.istore_n 3, [])]),
  (4, [(.iload_n 3, []), (.iload_n 0, []), (.if_icmp .gt 28, [34]), (.iload_n 3, []), (.iload_n 1, []), (.if_icmp .gt 23, [34]), (.iload_n 0, []), (.iload_n 3, []), (.irem, []), (.ifCond .ne 11, [28]), (.iload_n 1, []), (.iload_n 3, []), (.irem, []), (.ifCond .ne 5, [28]), (.iload_n 3, []), (.istore_n 2, [])]),
  (28, [(.iinc 3 1, []), (.goto (-27), [4])]),
  (34, [(.iload_n 2, []), (.ireturn, [])])]
def zc_mo_init : List (Nat × List zIns) := [
  (0, [(.aload_n 0, []), (.invokespecial 3, [999, 932, 5]), (.aload_n 0, []), (.bipush 6, []), (.newarray .int, [20]), (.putfield 9, [10, 0, 933, 2]), (.aload_n 0, []), (.bipush 6, []), (.newarray .int, [20]), (.putfield 13, [10, 1, 934, 2]), (.aload_n 0, []), (.iconst 5, []), (.newarray .int, [20]), (.putfield 16, [10, 3, 936, 2]), (.aload_n 0, []), (.bipush 70, []), (.newarray .int, [20]), (.putfield 19, [10, 4, 937, 2]), (.aload_n 0, []), (.bipush 7, []), (.newarray .int, [20]), (.putfield 22, [10, 5, 938, 2]), (.aload_n 0, []), (.bipush 72, []), (.newarray .int, [20]), (.putfield 25, [10, 6, 939, 2]), (.aload_n 0, []), (.bipush 96, []), (.newarray .int, [20]), (.putfield 28, [10, 9, 942, 2]), (.aload_n 0, []), (.bipush 6, []), (.newarray .int, [20]), (.putfield 31, [10, 12, 945, 2]), (.aload_n 0, []), (.bipush 6, []), (.newarray .int, [20]), (.putfield 34, [10, 13, 946, 2]), (.aload_n 0, []), (.iconst 5, []), (.newarray .int, [20]), (.putfield 37, [10, 14, 947, 2]), (.aload_n 0, []), (.bipush 70, []), (.newarray .int, [20]), (.putfield 40, [10, 15, 948, 2]), (.aload_n 0, []), (.iconst 3, []), (.newarray .int, [20]), (.putfield 43, [10, 16, 949, 2]), (.aload_n 0, []), (.bipush 120, []), (.newarray .int, [20]), (.putfield 46, [10, 17, 950, 2]), (.aload_n 0, []), (.sipush 216, []), (.newarray .int, [20]), (.putfield 49, [10, 20, 953, 2]), (.aload_n 0, []), (.bipush 14, []), (.newarray .int, [20]), (.putfield 52, [10, 22, 955, 2]), (.aload_n 0, []), (.bipush 28, []), (.newarray .int, [20]), (.putfield 55, [10, 23, 956, 2]), (.aload_n 0, []), (.bipush 28, []), (.newarray .int, [20]), (.putfield 58, [10, 24, 957, 2]), (.aload_n 0, []), (.bipush 28, []), (.newarray .int, [20]), (.putfield 61, [10, 25, 958, 2]), (.aload_n 0, []), (.bipush 28, []), (.newarray .int, [20]), (.putfield 64, [10, 26, 959, 2]), (.aload_n 0, []), (.bipush 28, []), (.newarray .int, [20]), (.putfield 67, [10, 27, 960, 2]), (.aload_n 0, []), (.bipush 14, []), (.newarray .int, [20]), (.putfield 70, [10, 28, 961, 2]), (.aload_n 0, []), (.bipush 14, []), (.newarray .int, [20]), (.putfield 73, [10, 29, 962, 2]), (.aload_n 0, []), (.sipush 16384, []), (.newarray .long, [22]), (.putfield 76, [10, 30, 963, 2]), (.aload_n 0, []), (.bipush 14, []), (.newarray .int, [20]), (.putfield 80, [10, 31, 964, 2]), (.aload_n 0, []), (.bipush 6, []), (.newarray .int, [20]), (.putfield 83, [10, 32, 965, 2]), (.aload_n 0, []), (.sipush 5040, []), (.newarray .int, [20]), (.putfield 86, [10, 34, 967, 2]), (.aload_n 0, []), (.sipush 5040, []), (.newarray .int, [20]), (.putfield 89, [10, 35, 968, 2]), (.iconst 0, []), (.istore_n 1, [])]),
  (223, [(.iload_n 1, []), (.bipush 6, []), (.if_icmp .ge 16, [242]), (.aload_n 0, []), (.getfield 13, [10, 1, 934, 2]), (.iload_n 1, []), (.iload_n 1, []), (.iastore, []), (.iinc 1 1, []), (.goto (-16), [223])]),
  (242, [(.iconst 0, []), (.istore_n 1, [])]),
  (244, [(.iload_n 1, []), (.iconst 3, []), (.if_icmp .ge 17, [263]), (.aload_n 0, []), (.getfield 43, [10, 16, 949, 2]), (.iload_n 1, []), (.bipush (-9), []), (.iastore, []), (.iinc 1 1, []), (.goto (-16), [244])]),
  (263, [(.return_, [])])]
def zc_mo_isIn : List (Nat × List zIns) := [
  (0, [(.iload_n 0, []), (.iload_n 1, []), (.if_icmp .lt 12, [14]), (.iload_n 0, []), (.iload_n 2, []), (.if_icmp .gt 7, [14]), (.iconst 1, []), (.goto 4, [15])]),
  (14, [(.iconst 0, [])]),
  (15, [(.ireturn, [])])]
def zc_mo_no : List (Nat × List zIns) := [
  (0, [(.aload_n 0, []), (.getfield 22, [10, 5, 938, 2]), (.iload_n 1, []), (.ineg, []), (.dup2, []), (.iaload, []), (.iconst 1, []), (.iadd, []), (.iastore, []), (.iload_n 1, []), (.ireturn, [])])]
def zc_mo_noLong : List (Nat × List zIns) := [
  (0, [(.aload_n 0, []), (.getfield 22, [10, 5, 938, 2]), (.iload_n 1, []), (.ineg, []), (.dup2, []), (.iaload, []), (.iconst 1, []), (.iadd, []), (.iastore, []), (.ldc2_w 92, [4000000000000000000, 1182]), (.iload_n 1, []), (.i2l, []), (.lsub, []), (.lreturn, [])])]
def zc_mo_isLetter : List (Nat × List zIns) := [
  (0, [(.iload_n 0, []), (.iconst 0, []), (.iconst 5, []), (.invokestatic 94, [146, 1060, 1, 3, 4, 10])]),
  (6, [(.ireturn, [])])]
def zc_mo_isWord : List (Nat × List zIns) := [
  (0, [(.iload_n 1, []), (.iconst 0, []), (.aload_n 0, []), (.getfield 98, [10, 2, 935, 0]), (.iconst 1, []), (.isub, []), (.invokestatic 94, [146, 1060, 1, 3, 4, 10])]),
  (11, [(.ireturn, [])])]
def zc_mo_passes_ : List (Nat × List zIns) := [
  (0, [(.aload_n 0, []), (.getfield 9, [10, 0, 933, 2]), (.iload_n 1, []), (.iaload, []), (.iload_n 2, []), (.ishr, []), (.iconst 1, []), (.iand, []), (.iconst 1, []), (.if_icmp .ne 7, [18]), (.iconst 1, []), (.goto 4, [19])]),
  (18, [(.iconst 0, [])]),
  (19, [(.ireturn, [])])]
def zc_mo_letter : List (Nat × List zIns) := [
  (0, [(.iload_n 1, []), (.ifCond .ge 10, [11]), (.aload_n 0, []), (.bipush (-4), []), (.invokevirtual 102, [147, 1046, 0, 2, 1, 10])]),
  (10, [(.ireturn, [])]),
  (11, [(.iload_n 1, []), (.sipush 255, []), (.if_icmp .gt 12, [27]), (.aload_n 0, []), (.getfield 106, [10, 7, 940, 0]), (.bipush 72, []), (.if_icmp .ne 10, [34])]),
  (27, [(.aload_n 0, []), (.bipush (-6), []), (.invokevirtual 102, [147, 1046, 0, 2, 1, 10])]),
  (33, [(.ireturn, [])]),
  (34, [(.aload_n 0, []), (.getfield 25, [10, 6, 939, 2]), (.aload_n 0, []), (.getfield 106, [10, 7, 940, 0]), (.iload_n 1, []), (.iastore, []), (.aload_n 0, []), (.dup, []), (.getfield 106, [10, 7, 940, 0]), (.iconst 1, []), (.iadd, []), (.putfield 106, [10, 7, 940, 0]), (.aload_n 0, []), (.getfield 106, [10, 7, 940, 0]), (.ireturn, [])])]
def zc_mo_remembers : List (Nat × List zIns) := [
  (0, [(.aload_n 0, []), (.getfield 109, [10, 8, 941, 0]), (.bipush 8, []), (.if_icmp .ne 42, [48]), (.iconst 0, []), (.istore_n 1, [])]),
  (11, [(.iload_n 1, []), (.bipush 84, []), (.if_icmp .ge 24, [38]), (.aload_n 0, []), (.getfield 28, [10, 9, 942, 2]), (.iload_n 1, []), (.aload_n 0, []), (.getfield 28, [10, 9, 942, 2]), (.iload_n 1, []), (.bipush 12, []), (.iadd, []), (.iaload, []), (.iastore, []), (.iinc 1 1, []), (.goto (-24), [11])]),
  (38, [(.aload_n 0, []), (.dup, []), (.getfield 109, [10, 8, 941, 0]), (.iconst 1, []), (.isub, []), (.putfield 109, [10, 8, 941, 0])]),
  (48, [(.iconst 0, []), (.istore_n 1, [])]),
  (50, [(.iload_n 1, []), (.bipush 6, []), (.if_icmp .ge 52, [105]), (.aload_n 0, []), (.getfield 28, [10, 9, 942, 2]), (.bipush 12, []), (.aload_n 0, []), (.getfield 109, [10, 8, 941, 0]), (.imul, []), (.iload_n 1, []), (.iadd, []), (.aload_n 0, []), (.getfield 9, [10, 0, 933, 2]), (.iload_n 1, []), (.iaload, []), (.iastore, []), (.aload_n 0, []), (.getfield 28, [10, 9, 942, 2]), (.bipush 12, []), (.aload_n 0, []), (.getfield 109, [10, 8, 941, 0]), (.imul, []), (.bipush 6, []), (.iadd, []), (.iload_n 1, []), (.iadd, []), (.aload_n 0, []), (.getfield 13, [10, 1, 934, 2]), (.iload_n 1, []), (.iaload, []), (.iastore, []), (.iinc 1 1, []), (.goto (-52), [50])]),
  (105, [(.aload_n 0, []), (.dup, []), (.getfield 109, [10, 8, 941, 0]), (.iconst 1, []), (.iadd, []), (.putfield 109, [10, 8, 941, 0]), (.return_, [])])]
def zc_mo_turns : List (Nat × List zIns) := [
  (0, [(.aload_n 0, []), (.getfield 9, [10, 0, 933, 2]), (.iload_n 1, []), (.dup2, []), (.iaload, []), (.iconst 1, []), (.iload_n 2, []), (.ishl, []), (.ixor, []), (.iastore, []), (.aload_n 0, []), (.getfield 9, [10, 0, 933, 2]), (.iload_n 2, []), (.dup2, []), (.iaload, []), (.iconst 1, []), (.iload_n 1, []), (.ishl, []), (.ixor, []), (.iastore, []), (.return_, [])])]
def zc_mo_swaps : List (Nat × List zIns) := [
  (0, [(.aload_n 0, []), (.getfield 13, [10, 1, 934, 2]), (.iload_n 1, []), (.iaload, []), (.istore_n 3, []), (.aload_n 0, []), (.getfield 13, [10, 1, 934, 2]), (.iload_n 1, []), (.aload_n 0, []), (.getfield 13, [10, 1, 934, 2]), (.iload_n 2, []), (.iaload, []), (.iastore, []), (.aload_n 0, []), (.getfield 13, [10, 1, 934, 2]), (.iload_n 2, []), (.iload_n 3, []), (.iastore, []), (.return_, [])])]
def zc_mo_areTwo : List (Nat × List zIns) := [
  (0, [(.iload_n 0, []), (.invokestatic 112, [149, 1057, 1, 1, 4, 10])]),
  (4, [(.ifCond .eq 19, [23]), (.iload_n 1, []), (.invokestatic 112, [149, 1057, 1, 1, 4, 10])]),
  (11, [(.ifCond .eq 12, [23]), (.iload_n 0, []), (.iload_n 1, []), (.if_icmp .eq 7, [23]), (.iconst 1, []), (.goto 4, [24])]),
  (23, [(.iconst 0, [])]),
  (24, [(.ireturn, [])])]
def zc_mo_passes : List (Nat × List zIns) := [
  (0, [(.iload_n 1, []), (.iload_n 2, []), (.invokestatic 116, [156, 1054, 1, 2, 4, 10])]),
  (5, [(.ifCond .ne 9, [14]), (.aload_n 0, []), (.iconst (-1), []), (.invokevirtual 102, [147, 1046, 0, 2, 1, 10])]),
  (13, [(.ireturn, [])]),
  (14, [(.aload_n 0, []), (.invokevirtual 120, [153, 1063, 0, 1, 0, 10])]),
  (18, [(.aload_n 0, []), (.iload_n 1, []), (.iload_n 2, []), (.invokevirtual 123, [154, 1067, 0, 3, 0, 10])]),
  (24, [(.aload_n 0, []), (.iload_n 1, []), (.iload_n 2, []), (.invokevirtual 127, [151, 1071, 0, 3, 4, 10])]),
  (30, [(.ifCond .eq 7, [37]), (.iconst 1, []), (.goto 4, [38])]),
  (37, [(.iconst 0, [])]),
  (38, [(.ireturn, [])])]
def zc_mo_ranks : List (Nat × List zIns) := [
  (0, [(.iload_n 1, []), (.iload_n 2, []), (.invokestatic 116, [156, 1054, 1, 2, 4, 10])]),
  (5, [(.ifCond .ne 9, [14]), (.aload_n 0, []), (.iconst (-1), []), (.invokevirtual 102, [147, 1046, 0, 2, 1, 10])]),
  (13, [(.ireturn, [])]),
  (14, [(.aload_n 0, []), (.invokevirtual 120, [153, 1063, 0, 1, 0, 10])]),
  (18, [(.aload_n 0, []), (.iload_n 1, []), (.iload_n 2, []), (.invokevirtual 130, [155, 1079, 0, 3, 0, 10])]),
  (24, [(.aload_n 0, []), (.getfield 13, [10, 1, 934, 2]), (.iload_n 1, []), (.iaload, []), (.ireturn, [])])]
def zc_mo_of : List (Nat × List zIns) := [
  (0, [(.iload_n 1, []), (.invokestatic 112, [149, 1057, 1, 1, 4, 10])]),
  (4, [(.ifCond .ne 9, [13]), (.aload_n 0, []), (.iconst (-1), []), (.invokevirtual 102, [147, 1046, 0, 2, 1, 10])]),
  (12, [(.ireturn, [])]),
  (13, [(.iload_n 2, []), (.iconst 0, []), (.iconst 1, []), (.invokestatic 94, [146, 1060, 1, 3, 4, 10])]),
  (19, [(.ifCond .ne 10, [29]), (.aload_n 0, []), (.bipush (-2), []), (.invokevirtual 102, [147, 1046, 0, 2, 1, 10])]),
  (28, [(.ireturn, [])]),
  (29, [(.iload_n 2, []), (.ifCond .ne 12, [42]), (.aload_n 0, []), (.getfield 13, [10, 1, 934, 2]), (.iload_n 1, []), (.iaload, []), (.goto 9, [48])]),
  (42, [(.aload_n 0, []), (.getfield 9, [10, 0, 933, 2]), (.iload_n 1, []), (.iaload, [])]),
  (48, [(.ireturn, [])])]
def zc_mo_here : List (Nat × List zIns) := [
  (0, [(.aload_n 0, []), (.getfield 133, [10, 18, 951, 0]), (.aload_n 0, []), (.getfield 106, [10, 7, 940, 0]), (.if_icmp .ge 15, [23]), (.aload_n 0, []), (.getfield 25, [10, 6, 939, 2]), (.aload_n 0, []), (.getfield 133, [10, 18, 951, 0]), (.iaload, []), (.goto 5, [25])]),
  (23, [(.bipush (-9), [])]),
  (25, [(.ireturn, [])])]
def zc_mo_fails : List (Nat × List zIns) := [
  (0, [(.aload_n 0, []), (.getfield 136, [10, 19, 952, 0]), (.bipush (-9), []), (.if_icmp .ne 11, [17]), (.aload_n 0, []), (.aload_n 0, []), (.getfield 133, [10, 18, 951, 0]), (.putfield 136, [10, 19, 952, 0])]),
  (17, [(.return_, [])])]
def zc_mo_isSign : List (Nat × List zIns) := [
  (0, [(.aload_n 0, []), (.invokevirtual 139, [160, 1095, 0, 1, 1, 10])]),
  (4, [(.bipush 97, []), (.bipush 102, []), (.invokestatic 94, [146, 1060, 1, 3, 4, 10])]),
  (11, [(.ireturn, [])])]
def zc_mo_rule : List (Nat × List zIns) := [
  (0, [(.aload_n 0, []), (.getfield 49, [10, 20, 953, 2]), (.iconst 3, []), (.iload_n 1, []), (.imul, []), (.aload_n 0, []), (.invokevirtual 139, [160, 1095, 0, 1, 1, 10])]),
  (11, [(.bipush 60, []), (.if_icmp .ne 7, [20]), (.iconst 1, []), (.goto 4, [21])]),
  (20, [(.iconst 0, [])]),
  (21, [(.iastore, []), (.aload_n 0, []), (.dup, []), (.getfield 133, [10, 18, 951, 0]), (.aload_n 0, []), (.getfield 49, [10, 20, 953, 2]), (.iconst 3, []), (.iload_n 1, []), (.imul, []), (.iaload, []), (.iadd, []), (.putfield 133, [10, 18, 951, 0]), (.iconst 1, []), (.istore_n 2, [])]),
  (41, [(.iload_n 2, []), (.iconst 3, []), (.if_icmp .ge 82, [125]), (.aload_n 0, []), (.getfield 136, [10, 19, 952, 0]), (.bipush (-9), []), (.if_icmp .ne 35, [87]), (.aload_n 0, []), (.invokevirtual 143, [162, 1099, 0, 1, 4, 10])]),
  (59, [(.ifCond .eq 28, [87]), (.iload_n 2, []), (.iconst 2, []), (.if_icmp .ne 28, [92]), (.aload_n 0, []), (.invokevirtual 139, [160, 1095, 0, 1, 1, 10])]),
  (71, [(.bipush 97, []), (.isub, []), (.aload_n 0, []), (.getfield 49, [10, 20, 953, 2]), (.iconst 3, []), (.iload_n 1, []), (.imul, []), (.iconst 1, []), (.iadd, []), (.iaload, []), (.if_icmp .ne 8, [92])]),
  (87, [(.aload_n 0, []), (.invokevirtual 147, [161, 1103, 0, 1, 0, 10])]),
  (91, [(.return_, [])]),
  (92, [(.aload_n 0, []), (.getfield 49, [10, 20, 953, 2]), (.iconst 3, []), (.iload_n 1, []), (.imul, []), (.iload_n 2, []), (.iadd, []), (.aload_n 0, []), (.invokevirtual 139, [160, 1095, 0, 1, 1, 10])]),
  (105, [(.bipush 97, []), (.isub, []), (.iastore, []), (.aload_n 0, []), (.dup, []), (.getfield 133, [10, 18, 951, 0]), (.iconst 1, []), (.iadd, []), (.putfield 133, [10, 18, 951, 0]), (.iinc 2 1, []), (.goto (-81), [41])]),
  (125, [(.return_, [])])]
def zc_mo_rules : List (Nat × List zIns) := [
  (0, [(.aload_n 0, []), (.iconst 0, []), (.putfield 133, [10, 18, 951, 0]), (.aload_n 0, []), (.bipush (-9), []), (.putfield 136, [10, 19, 952, 0]), (.iconst 0, []), (.istore_n 1, []), (.iconst 1, []), (.istore_n 2, [])]),
  (15, [(.iload_n 2, []), (.ifCond .eq 56, [72]), (.aload_n 0, []), (.iload_n 1, []), (.invokevirtual 150, [163, 1091, 0, 2, 0, 10])]),
  (24, [(.iinc 1 1, []), (.aload_n 0, []), (.getfield 136, [10, 19, 952, 0]), (.bipush (-9), []), (.if_icmp .ne 16, [49]), (.aload_n 0, []), (.invokevirtual 139, [160, 1095, 0, 1, 1, 10])]),
  (40, [(.bipush 44, []), (.if_icmp .ne 7, [49]), (.iconst 1, []), (.goto 4, [50])]),
  (49, [(.iconst 0, [])]),
  (50, [(.istore_n 2, []), (.aload_n 0, []), (.dup, []), (.getfield 133, [10, 18, 951, 0]), (.iload_n 2, []), (.ifCond .eq 7, [64]), (.iconst 1, []), (.goto 4, [65])]),
  (64, [(.iconst 0, [])]),
  (65, [(.iadd, []), (.putfield 133, [10, 18, 951, 0]), (.goto (-54), [15])]),
  (72, [(.aload_n 0, []), (.getfield 133, [10, 18, 951, 0]), (.aload_n 0, []), (.getfield 106, [10, 7, 940, 0]), (.if_icmp .ge 7, [87]), (.aload_n 0, []), (.invokevirtual 147, [161, 1103, 0, 1, 0, 10])]),
  (87, [(.aload_n 0, []), (.iconst 0, []), (.putfield 106, [10, 7, 940, 0]), (.aload_n 0, []), (.getfield 136, [10, 19, 952, 0]), (.bipush (-9), []), (.if_icmp .eq 12, [110]), (.sipush (-1000), []), (.aload_n 0, []), (.getfield 136, [10, 19, 952, 0]), (.isub, []), (.ireturn, [])]),
  (110, [(.aload_n 0, []), (.invokevirtual 120, [153, 1063, 0, 1, 0, 10])]),
  (114, [(.iconst 0, []), (.istore_n 3, [])]),
  (116, [(.iload_n 3, []), (.iload_n 1, []), (.if_icmp .ge 72, [190]), (.aload_n 0, []), (.getfield 49, [10, 20, 953, 2]), (.iconst 3, []), (.iload_n 3, []), (.imul, []), (.iaload, []), (.iconst 1, []), (.if_icmp .ne 30, [160]), (.aload_n 0, []), (.aload_n 0, []), (.getfield 49, [10, 20, 953, 2]), (.iconst 3, []), (.iload_n 3, []), (.imul, []), (.iconst 1, []), (.iadd, []), (.iaload, []), (.aload_n 0, []), (.getfield 49, [10, 20, 953, 2]), (.iconst 3, []), (.iload_n 3, []), (.imul, []), (.iconst 2, []), (.iadd, []), (.iaload, []), (.invokevirtual 130, [155, 1079, 0, 3, 0, 10])]),
  (157, [(.goto 27, [184])]),
  (160, [(.aload_n 0, []), (.aload_n 0, []), (.getfield 49, [10, 20, 953, 2]), (.iconst 3, []), (.iload_n 3, []), (.imul, []), (.iconst 1, []), (.iadd, []), (.iaload, []), (.aload_n 0, []), (.getfield 49, [10, 20, 953, 2]), (.iconst 3, []), (.iload_n 3, []), (.imul, []), (.iconst 2, []), (.iadd, []), (.iaload, []), (.invokevirtual 123, [154, 1067, 0, 3, 0, 10])]),
  (184, [(.iinc 3 1, []), (.goto (-71), [116])]),
  (190, [(.iload_n 1, []), (.ireturn, [])])]
def zc_mo_makes : List (Nat × List zIns) := [
  (0, [(.aload_n 0, []), (.getfield 154, [10, 21, 954, 0]), (.bipush 14, []), (.if_icmp .ge 13, [19]), (.aload_n 0, []), (.getfield 52, [10, 22, 955, 2]), (.aload_n 0, []), (.getfield 154, [10, 21, 954, 0]), (.iload_n 1, []), (.iastore, [])]),
  (19, [(.aload_n 0, []), (.aload_n 0, []), (.getfield 154, [10, 21, 954, 0]), (.bipush 100, []), (.if_icmp .ge 12, [38]), (.aload_n 0, []), (.getfield 154, [10, 21, 954, 0]), (.iconst 1, []), (.iadd, []), (.goto 5, [40])]),
  (38, [(.bipush 100, [])]),
  (40, [(.putfield 154, [10, 21, 954, 0]), (.return_, [])])]
def zc_mo_times : List (Nat × List zIns) := [
  (0, [(.aload_n 0, []), (.invokevirtual 139, [160, 1095, 0, 1, 1, 10])]),
  (4, [(.bipush 48, []), (.bipush 57, []), (.invokestatic 94, [146, 1060, 1, 3, 4, 10])]),
  (11, [(.ifCond .ne 4, [15]), (.return_, [])]),
  (15, [(.aload_n 0, []), (.invokevirtual 139, [160, 1095, 0, 1, 1, 10])]),
  (19, [(.bipush 48, []), (.isub, []), (.istore_n 2, []), (.aload_n 0, []), (.dup, []), (.getfield 133, [10, 18, 951, 0]), (.iconst 1, []), (.iadd, []), (.putfield 133, [10, 18, 951, 0]), (.aload_n 0, []), (.getfield 154, [10, 21, 954, 0]), (.iload_n 1, []), (.isub, []), (.istore_n 3, []), (.iload_n 2, []), (.ifCond .ne 8, [49]), (.aload_n 0, []), (.iload_n 1, []), (.putfield 154, [10, 21, 954, 0])]),
  (49, [(.iconst 1, []), (.istore 4, [])]),
  (52, [(.iload 4, []), (.iload_n 2, []), (.if_icmp .ge 50, [105]), (.iconst 0, []), (.istore 5, [])]),
  (61, [(.iload 5, []), (.iload_n 3, []), (.if_icmp .ge 35, [99]), (.aload_n 0, []), (.iload_n 1, []), (.iload 5, []), (.iadd, []), (.bipush 14, []), (.if_icmp .ge 15, [89]), (.aload_n 0, []), (.getfield 52, [10, 22, 955, 2]), (.iload_n 1, []), (.iload 5, []), (.iadd, []), (.iaload, []), (.goto 4, [90])]),
  (89, [(.iconst 0, [])]),
  (90, [(.invokevirtual 157, [165, 1115, 0, 2, 0, 10])]),
  (93, [(.iinc 5 1, []), (.goto (-35), [61])]),
  (99, [(.iinc 4 1, []), (.goto (-50), [52])]),
  (105, [(.return_, [])])]
def zc_mo_reads : List (Nat × List zIns) := [
  (0, [(.aload_n 0, []), (.getfield 136, [10, 19, 952, 0]), (.bipush (-9), []), (.if_icmp .ne 123, [129]), (.aload_n 0, []), (.invokevirtual 143, [162, 1099, 0, 1, 4, 10])]),
  (13, [(.ifCond .ne 12, [25]), (.aload_n 0, []), (.invokevirtual 139, [160, 1095, 0, 1, 1, 10])]),
  (20, [(.bipush 40, []), (.if_icmp .ne 107, [129])]),
  (25, [(.aload_n 0, []), (.getfield 154, [10, 21, 954, 0]), (.istore_n 2, []), (.aload_n 0, []), (.invokevirtual 143, [162, 1099, 0, 1, 4, 10])]),
  (34, [(.ifCond .eq 27, [61]), (.aload_n 0, []), (.aload_n 0, []), (.invokevirtual 139, [160, 1095, 0, 1, 1, 10])]),
  (42, [(.bipush 97, []), (.isub, []), (.invokevirtual 157, [165, 1115, 0, 2, 0, 10])]),
  (48, [(.aload_n 0, []), (.dup, []), (.getfield 133, [10, 18, 951, 0]), (.iconst 1, []), (.iadd, []), (.putfield 133, [10, 18, 951, 0]), (.goto 63, [121])]),
  (61, [(.iload_n 1, []), (.iconst 5, []), (.if_icmp .ne 8, [71]), (.aload_n 0, []), (.invokevirtual 147, [161, 1103, 0, 1, 0, 10])]),
  (70, [(.return_, [])]),
  (71, [(.aload_n 0, []), (.dup, []), (.getfield 133, [10, 18, 951, 0]), (.iconst 1, []), (.iadd, []), (.putfield 133, [10, 18, 951, 0]), (.aload_n 0, []), (.iload_n 1, []), (.iconst 1, []), (.iadd, []), (.invokevirtual 160, [167, 1111, 0, 2, 0, 10])]),
  (88, [(.aload_n 0, []), (.getfield 136, [10, 19, 952, 0]), (.bipush (-9), []), (.if_icmp .ne 12, [106]), (.aload_n 0, []), (.invokevirtual 139, [160, 1095, 0, 1, 1, 10])]),
  (101, [(.bipush 41, []), (.if_icmp .eq 8, [111])]),
  (106, [(.aload_n 0, []), (.invokevirtual 147, [161, 1103, 0, 1, 0, 10])]),
  (110, [(.return_, [])]),
  (111, [(.aload_n 0, []), (.dup, []), (.getfield 133, [10, 18, 951, 0]), (.iconst 1, []), (.iadd, []), (.putfield 133, [10, 18, 951, 0])]),
  (121, [(.aload_n 0, []), (.iload_n 2, []), (.invokevirtual 163, [166, 1119, 0, 2, 0, 10])]),
  (126, [(.goto (-126), [0])]),
  (129, [(.return_, [])])]
def zc_mo_comes : List (Nat × List zIns) := [
  (0, [(.iconst 0, []), (.istore_n 3, [])]),
  (2, [(.iload_n 3, []), (.iload_n 2, []), (.if_icmp .ge 26, [30]), (.aload_n 0, []), (.getfield 19, [10, 4, 937, 2]), (.bipush 14, []), (.aload_n 0, []), (.getfield 98, [10, 2, 935, 0]), (.imul, []), (.iload_n 3, []), (.iadd, []), (.aload_n 1, []), (.iload_n 3, []), (.iaload, []), (.iastore, []), (.iinc 3 1, []), (.goto (-25), [2])]),
  (30, [(.aload_n 0, []), (.getfield 16, [10, 3, 936, 2]), (.aload_n 0, []), (.getfield 98, [10, 2, 935, 0]), (.iload_n 2, []), (.iastore, []), (.aload_n 0, []), (.dup, []), (.getfield 98, [10, 2, 935, 0]), (.iconst 1, []), (.iadd, []), (.putfield 98, [10, 2, 935, 0]), (.aload_n 0, []), (.getfield 98, [10, 2, 935, 0]), (.iconst 1, []), (.isub, []), (.ireturn, [])])]
def zc_mo_word : List (Nat × List zIns) := [
  (0, [(.aload_n 0, []), (.iconst 0, []), (.putfield 133, [10, 18, 951, 0]), (.aload_n 0, []), (.bipush (-9), []), (.putfield 136, [10, 19, 952, 0]), (.aload_n 0, []), (.iconst 0, []), (.putfield 154, [10, 21, 954, 0]), (.aload_n 0, []), (.iconst 0, []), (.invokevirtual 160, [167, 1111, 0, 2, 0, 10])]),
  (21, [(.aload_n 0, []), (.getfield 133, [10, 18, 951, 0]), (.aload_n 0, []), (.getfield 106, [10, 7, 940, 0]), (.if_icmp .ge 7, [36]), (.aload_n 0, []), (.invokevirtual 147, [161, 1103, 0, 1, 0, 10])]),
  (36, [(.aload_n 0, []), (.iconst 0, []), (.putfield 106, [10, 7, 940, 0]), (.aload_n 0, []), (.getfield 136, [10, 19, 952, 0]), (.bipush (-9), []), (.if_icmp .eq 12, [59]), (.sipush (-1000), []), (.aload_n 0, []), (.getfield 136, [10, 19, 952, 0]), (.isub, []), (.ireturn, [])]),
  (59, [(.aload_n 0, []), (.getfield 154, [10, 21, 954, 0]), (.bipush 14, []), (.if_icmp .gt 11, [76]), (.aload_n 0, []), (.getfield 98, [10, 2, 935, 0]), (.iconst 5, []), (.if_icmp .ne 9, [82])]),
  (76, [(.sipush (-2000), []), (.goto 15, [94])]),
  (82, [(.aload_n 0, []), (.aload_n 0, []), (.getfield 52, [10, 22, 955, 2]), (.aload_n 0, []), (.getfield 154, [10, 21, 954, 0]), (.invokevirtual 166, [168, 1123, 0, 3, 1, 10])]),
  (94, [(.ireturn, [])])]
def zc_mo_at : List (Nat × List zIns) := [
  (0, [(.aload_n 0, []), (.iload_n 1, []), (.invokevirtual 170, [150, 1131, 0, 2, 4, 10])]),
  (5, [(.ifCond .ne 9, [14]), (.aload_n 0, []), (.iconst (-1), []), (.invokevirtual 102, [147, 1046, 0, 2, 1, 10])]),
  (13, [(.ireturn, [])]),
  (14, [(.iload_n 2, []), (.iconst (-1), []), (.if_icmp .ge 10, [26]), (.aload_n 0, []), (.bipush (-4), []), (.invokevirtual 102, [147, 1046, 0, 2, 1, 10])]),
  (25, [(.ireturn, [])]),
  (26, [(.iload_n 2, []), (.iconst (-1), []), (.if_icmp .ne 12, [40]), (.aload_n 0, []), (.getfield 16, [10, 3, 936, 2]), (.iload_n 1, []), (.iaload, []), (.goto 29, [66])]),
  (40, [(.iload_n 2, []), (.aload_n 0, []), (.getfield 16, [10, 3, 936, 2]), (.iload_n 1, []), (.iaload, []), (.if_icmp .ge 17, [64]), (.aload_n 0, []), (.getfield 19, [10, 4, 937, 2]), (.bipush 14, []), (.iload_n 1, []), (.imul, []), (.iload_n 2, []), (.iadd, []), (.iaload, []), (.goto 5, [66])]),
  (64, [(.bipush (-9), [])]),
  (66, [(.ireturn, [])])]
def zc_mo_drop : List (Nat × List zIns) := [
  (0, [(.aload_n 0, []), (.getfield 98, [10, 2, 935, 0]), (.ifCond .ne 10, [14]), (.aload_n 0, []), (.bipush (-3), []), (.invokevirtual 102, [147, 1046, 0, 2, 1, 10])]),
  (13, [(.ireturn, [])]),
  (14, [(.aload_n 0, []), (.dup, []), (.getfield 98, [10, 2, 935, 0]), (.iconst 1, []), (.isub, []), (.putfield 98, [10, 2, 935, 0]), (.aload_n 0, []), (.getfield 98, [10, 2, 935, 0]), (.ireturn, [])])]
def zc_mo_loads : List (Nat × List zIns) := [
  (0, [(.iconst 0, []), (.istore 4, [])]),
  (3, [(.iload 4, []), (.aload_n 0, []), (.getfield 16, [10, 3, 936, 2]), (.iload_n 3, []), (.iaload, []), (.if_icmp .ge 27, [38]), (.aload_n 1, []), (.iload_n 2, []), (.iload 4, []), (.iadd, []), (.aload_n 0, []), (.getfield 19, [10, 4, 937, 2]), (.bipush 14, []), (.iload_n 3, []), (.imul, []), (.iload 4, []), (.iadd, []), (.iaload, []), (.iastore, []), (.iinc 4 1, []), (.goto (-32), [3])]),
  (38, [(.iload_n 2, []), (.aload_n 0, []), (.getfield 16, [10, 3, 936, 2]), (.iload_n 3, []), (.iaload, []), (.iadd, []), (.ireturn, [])])]
def zc_mo_isReady : List (Nat × List zIns) := [
  (0, [(.iconst 0, []), (.istore_n 3, [])]),
  (2, [(.iload_n 3, []), (.iload_n 2, []), (.if_icmp .ge 24, [28]), (.aload_n 0, []), (.aload_n 1, []), (.iload_n 2, []), (.iaload, []), (.aload_n 1, []), (.iload_n 3, []), (.iaload, []), (.invokevirtual 127, [151, 1071, 0, 3, 4, 10])]),
  (17, [(.ifCond .ne 5, [22]), (.iconst 0, []), (.ireturn, [])]),
  (22, [(.iinc 3 1, []), (.goto (-23), [2])]),
  (28, [(.iconst 1, []), (.ireturn, [])])]
def zc_mo_goes : List (Nat × List zIns) := [
  (0, [(.iload_n 2, []), (.istore_n 3, [])]),
  (2, [(.iload_n 3, []), (.iload_n 1, []), (.iconst 1, []), (.isub, []), (.if_icmp .ge 17, [23]), (.aload_n 0, []), (.iload_n 3, []), (.aload_n 0, []), (.iload_n 3, []), (.iconst 1, []), (.iadd, []), (.iaload, []), (.iastore, []), (.iinc 3 1, []), (.goto (-18), [2])]),
  (23, [(.return_, [])])]
def zc_mo_takes : List (Nat × List zIns) := [
  (0, [(.iconst 0, []), (.istore 5, [])]),
  (3, [(.iload 5, []), (.iload_n 2, []), (.if_icmp .ge 20, [26]), (.aload_n 0, []), (.getfield 61, [10, 25, 958, 2]), (.iload 5, []), (.aload_n 1, []), (.iload 5, []), (.iaload, []), (.iastore, []), (.iinc 5 1, []), (.goto (-20), [3])]),
  (26, [(.iconst 0, []), (.istore 5, [])]),
  (29, [(.iload 5, []), (.iload_n 2, []), (.if_icmp .ge 119, [151]), (.bipush (-9), []), (.istore 6, []), (.iconst 0, []), (.istore 7, [])]),
  (42, [(.iload 7, []), (.iload_n 2, []), (.iload 5, []), (.isub, []), (.if_icmp .ge 73, [121]), (.aload_n 0, []), (.aload_n 0, []), (.getfield 61, [10, 25, 958, 2]), (.iload 7, []), (.invokevirtual 173, [173, 1155, 0, 3, 4, 10])]),
  (61, [(.ifCond .ne 6, [67]), (.goto 51, [115])]),
  (67, [(.iload 6, []), (.bipush (-9), []), (.if_icmp .eq 40, [111]), (.aload_n 0, []), (.getfield 13, [10, 1, 934, 2]), (.aload_n 0, []), (.getfield 61, [10, 25, 958, 2]), (.iload 7, []), (.iaload, []), (.iaload, []), (.aload_n 0, []), (.getfield 13, [10, 1, 934, 2]), (.aload_n 0, []), (.getfield 61, [10, 25, 958, 2]), (.iload 6, []), (.iaload, []), (.iaload, []), (.if_icmp .ge 7, [105]), (.iconst 1, []), (.goto 4, [106])]),
  (105, [(.iconst 0, [])]),
  (106, [(.iload 4, []), (.if_icmp .eq 7, [115])]),
  (111, [(.iload 7, []), (.istore 6, [])]),
  (115, [(.iinc 7 1, []), (.goto (-76), [42])]),
  (121, [(.aload_n 3, []), (.iload 5, []), (.aload_n 0, []), (.getfield 61, [10, 25, 958, 2]), (.iload 6, []), (.iaload, []), (.iastore, []), (.aload_n 0, []), (.getfield 61, [10, 25, 958, 2]), (.iload_n 2, []), (.iload 5, []), (.isub, []), (.iload 6, []), (.invokestatic 177, [174, 1159, 1, 3, 0, 10])]),
  (145, [(.iinc 5 1, []), (.goto (-119), [29])]),
  (151, [(.return_, [])])]
def zc_mo_areAlike : List (Nat × List zIns) := [
  (0, [(.aload_n 0, []), (.aload_n 1, []), (.iload_n 3, []), (.aload_n 0, []), (.getfield 64, [10, 26, 959, 2]), (.iconst 0, []), (.invokevirtual 181, [175, 1151, 0, 5, 0, 10])]),
  (11, [(.aload_n 0, []), (.aload_n 2, []), (.iload_n 3, []), (.aload_n 0, []), (.getfield 67, [10, 27, 960, 2]), (.iconst 0, []), (.invokevirtual 181, [175, 1151, 0, 5, 0, 10])]),
  (22, [(.iconst 0, []), (.istore 4, [])]),
  (25, [(.iload 4, []), (.iload_n 3, []), (.if_icmp .ge 28, [56]), (.aload_n 0, []), (.getfield 64, [10, 26, 959, 2]), (.iload 4, []), (.iaload, []), (.aload_n 0, []), (.getfield 67, [10, 27, 960, 2]), (.iload 4, []), (.iaload, []), (.if_icmp .eq 5, [50]), (.iconst 0, []), (.ireturn, [])]),
  (50, [(.iinc 4 1, []), (.goto (-28), [25])]),
  (56, [(.iconst 1, []), (.ireturn, [])])]
def zc_mo_alike : List (Nat × List zIns) := [
  (0, [(.aload_n 0, []), (.iload_n 1, []), (.invokevirtual 170, [150, 1131, 0, 2, 4, 10])]),
  (5, [(.ifCond .eq 11, [16]), (.aload_n 0, []), (.iload_n 2, []), (.invokevirtual 170, [150, 1131, 0, 2, 4, 10])]),
  (13, [(.ifCond .ne 9, [22])]),
  (16, [(.aload_n 0, []), (.iconst (-1), []), (.invokevirtual 102, [147, 1046, 0, 2, 1, 10])]),
  (21, [(.ireturn, [])]),
  (22, [(.aload_n 0, []), (.getfield 16, [10, 3, 936, 2]), (.iload_n 1, []), (.iaload, []), (.aload_n 0, []), (.getfield 16, [10, 3, 936, 2]), (.iload_n 2, []), (.iaload, []), (.if_icmp .eq 5, [39]), (.iconst 0, []), (.ireturn, [])]),
  (39, [(.aload_n 0, []), (.aload_n 0, []), (.getfield 55, [10, 23, 956, 2]), (.iconst 0, []), (.iload_n 1, []), (.invokevirtual 185, [172, 1143, 0, 4, 1, 10])]),
  (49, [(.pop, []), (.aload_n 0, []), (.aload_n 0, []), (.getfield 58, [10, 24, 957, 2]), (.iconst 0, []), (.iload_n 2, []), (.invokevirtual 185, [172, 1143, 0, 4, 1, 10])]),
  (60, [(.pop, []), (.aload_n 0, []), (.aload_n 0, []), (.getfield 55, [10, 23, 956, 2]), (.aload_n 0, []), (.getfield 58, [10, 24, 957, 2]), (.aload_n 0, []), (.getfield 16, [10, 3, 936, 2]), (.iload_n 1, []), (.iaload, []), (.invokevirtual 189, [176, 1147, 0, 4, 4, 10])]),
  (79, [(.ifCond .eq 7, [86]), (.iconst 1, []), (.goto 4, [87])]),
  (86, [(.iconst 0, [])]),
  (87, [(.ireturn, [])])]
def zc_mo_block : List (Nat × List zIns) := [
  (0, [(.iconst 0, []), (.istore_n 2, []), (.iconst 0, []), (.istore_n 3, []), (.iconst 0, []), (.istore 4, []), (.iconst 0, []), (.istore 5, [])]),
  (10, [(.iload 5, []), (.iload_n 1, []), (.if_icmp .ge 35, [48]), (.iload 4, []), (.aload_n 0, []), (.aload_n 0, []), (.getfield 55, [10, 23, 956, 2]), (.iload 5, []), (.invokevirtual 173, [173, 1155, 0, 3, 4, 10])]),
  (28, [(.ifCond .eq 10, [38]), (.iconst 1, []), (.iload 5, []), (.ishl, []), (.goto 4, [39])]),
  (38, [(.iconst 0, [])]),
  (39, [(.ior, []), (.istore 4, []), (.iinc 5 1, []), (.goto (-35), [10])]),
  (48, [(.iconst 0, []), (.istore 5, [])]),
  (51, [(.iload 5, []), (.iload_n 1, []), (.if_icmp .ge 51, [105]), (.iload 4, []), (.iload 5, []), (.ishr, []), (.iconst 1, []), (.iand, []), (.iconst 1, []), (.if_icmp .ne 18, [83]), (.iload_n 2, []), (.iconst 1, []), (.aload_n 0, []), (.getfield 55, [10, 23, 956, 2]), (.iload 5, []), (.iaload, []), (.ishl, []), (.ior, []), (.istore_n 2, []), (.goto 19, [99])]),
  (83, [(.aload_n 0, []), (.getfield 55, [10, 23, 956, 2]), (.iload_n 3, []), (.aload_n 0, []), (.getfield 55, [10, 23, 956, 2]), (.iload 5, []), (.iaload, []), (.iastore, []), (.iinc 3 1, [])]),
  (99, [(.iinc 5 1, []), (.goto (-51), [51])]),
  (105, [(.iload_n 2, []), (.ireturn, [])])]
def zc_mo_blocks : List (Nat × List zIns) := [
  (0, [(.aload_n 0, []), (.iload_n 1, []), (.invokevirtual 170, [150, 1131, 0, 2, 4, 10])]),
  (5, [(.ifCond .ne 9, [14]), (.aload_n 0, []), (.iconst (-1), []), (.invokevirtual 102, [147, 1046, 0, 2, 1, 10])]),
  (13, [(.ireturn, [])]),
  (14, [(.iload_n 2, []), (.iconst (-1), []), (.if_icmp .ge 10, [26]), (.aload_n 0, []), (.bipush (-4), []), (.invokevirtual 102, [147, 1046, 0, 2, 1, 10])]),
  (25, [(.ireturn, [])]),
  (26, [(.aload_n 0, []), (.aload_n 0, []), (.getfield 55, [10, 23, 956, 2]), (.iconst 0, []), (.iload_n 1, []), (.invokevirtual 185, [172, 1143, 0, 4, 1, 10])]),
  (36, [(.istore_n 3, []), (.iconst 0, []), (.istore 4, [])]),
  (40, [(.iload_n 3, []), (.ifCond .le 51, [92]), (.aload_n 0, []), (.iload_n 3, []), (.invokevirtual 193, [178, 1166, 0, 2, 1, 10])]),
  (49, [(.istore 5, []), (.iload 4, []), (.iload_n 2, []), (.if_icmp .ne 6, [60]), (.iload 5, []), (.ireturn, [])]),
  (60, [(.iinc 4 1, []), (.iconst 0, []), (.istore 6, [])]),
  (66, [(.iload 6, []), (.bipush 6, []), (.if_icmp .ge 19, [89]), (.iload_n 3, []), (.iload 5, []), (.iload 6, []), (.ishr, []), (.iconst 1, []), (.iand, []), (.isub, []), (.istore_n 3, []), (.iinc 6 1, []), (.goto (-20), [66])]),
  (89, [(.goto (-49), [40])]),
  (92, [(.iload_n 2, []), (.iconst (-1), []), (.if_icmp .ne 8, [102]), (.iload 4, []), (.goto 4, [103])]),
  (102, [(.iconst 0, [])]),
  (103, [(.ireturn, [])])]
def zc_mo_least : List (Nat × List zIns) := [
  (0, [(.aload_n 0, []), (.iload_n 1, []), (.invokevirtual 170, [150, 1131, 0, 2, 4, 10])]),
  (5, [(.ifCond .ne 9, [14]), (.aload_n 0, []), (.iconst (-1), []), (.invokevirtual 102, [147, 1046, 0, 2, 1, 10])]),
  (13, [(.ireturn, [])]),
  (14, [(.iload_n 2, []), (.ifCond .ge 10, [25]), (.aload_n 0, []), (.bipush (-4), []), (.invokevirtual 102, [147, 1046, 0, 2, 1, 10])]),
  (24, [(.ireturn, [])]),
  (25, [(.iload_n 3, []), (.iconst 0, []), (.iconst 1, []), (.invokestatic 94, [146, 1060, 1, 3, 4, 10])]),
  (31, [(.ifCond .ne 10, [41]), (.aload_n 0, []), (.bipush (-2), []), (.invokevirtual 102, [147, 1046, 0, 2, 1, 10])]),
  (40, [(.ireturn, [])]),
  (41, [(.aload_n 0, []), (.aload_n 0, []), (.getfield 55, [10, 23, 956, 2]), (.iconst 0, []), (.iload_n 1, []), (.invokevirtual 185, [172, 1143, 0, 4, 1, 10])]),
  (51, [(.istore 4, []), (.aload_n 0, []), (.aload_n 0, []), (.getfield 55, [10, 23, 956, 2]), (.iload 4, []), (.aload_n 0, []), (.getfield 64, [10, 26, 959, 2]), (.iload_n 3, []), (.iconst 1, []), (.if_icmp .ne 7, [73]), (.iconst 1, []), (.goto 4, [74])]),
  (73, [(.iconst 0, [])]),
  (74, [(.invokevirtual 181, [175, 1151, 0, 5, 0, 10])]),
  (77, [(.iload_n 2, []), (.iload 4, []), (.if_icmp .ge 12, [92]), (.aload_n 0, []), (.getfield 64, [10, 26, 959, 2]), (.iload_n 2, []), (.iaload, []), (.goto 5, [94])]),
  (92, [(.bipush (-9), [])]),
  (94, [(.ireturn, [])])]
def zc_mo_orders : List (Nat × List zIns) := [
  (0, [(.iconst 0, []), (.istore_n 2, [])]),
  (2, [(.iload_n 2, []), (.iload_n 1, []), (.if_icmp .ge 122, [126]), (.aload_n 0, []), (.getfield 70, [10, 28, 961, 2]), (.iload_n 2, []), (.iconst 0, []), (.iastore, []), (.iconst 0, []), (.istore_n 3, [])]),
  (16, [(.iload_n 3, []), (.iload_n 2, []), (.if_icmp .ge 44, [62]), (.aload_n 0, []), (.getfield 70, [10, 28, 961, 2]), (.iload_n 2, []), (.dup2, []), (.iaload, []), (.aload_n 0, []), (.aload_n 0, []), (.getfield 55, [10, 23, 956, 2]), (.iload_n 2, []), (.iaload, []), (.aload_n 0, []), (.getfield 55, [10, 23, 956, 2]), (.iload_n 3, []), (.iaload, []), (.invokevirtual 127, [151, 1071, 0, 3, 4, 10])]),
  (44, [(.ifCond .eq 7, [51]), (.iconst 0, []), (.goto 6, [54])]),
  (51, [(.iconst 1, []), (.iload_n 3, []), (.ishl, [])]),
  (54, [(.ior, []), (.iastore, []), (.iinc 3 1, []), (.goto (-43), [16])]),
  (62, [(.aload_n 0, []), (.getfield 73, [10, 29, 962, 2]), (.iload_n 2, []), (.aload_n 0, []), (.getfield 70, [10, 28, 961, 2]), (.iload_n 2, []), (.iaload, []), (.iastore, []), (.iconst 0, []), (.istore_n 3, [])]),
  (76, [(.iload_n 3, []), (.iload_n 2, []), (.if_icmp .ge 42, [120]), (.aload_n 0, []), (.getfield 73, [10, 29, 962, 2]), (.iload_n 2, []), (.dup2, []), (.iaload, []), (.aload_n 0, []), (.getfield 70, [10, 28, 961, 2]), (.iload_n 2, []), (.iaload, []), (.iload_n 3, []), (.ishr, []), (.iconst 1, []), (.iand, []), (.iconst 1, []), (.if_icmp .ne 12, [111]), (.aload_n 0, []), (.getfield 73, [10, 29, 962, 2]), (.iload_n 3, []), (.iaload, []), (.goto 4, [112])]),
  (111, [(.iconst 0, [])]),
  (112, [(.ior, []), (.iastore, []), (.iinc 3 1, []), (.goto (-41), [76])]),
  (120, [(.iinc 2 1, []), (.goto (-121), [2])]),
  (126, [(.return_, [])])]
def zc_mo_copies : List (Nat × List zIns) := [
  (0, [(.aload_n 0, []), (.iload_n 1, []), (.invokevirtual 170, [150, 1131, 0, 2, 4, 10])]),
  (5, [(.ifCond .ne 9, [14]), (.aload_n 0, []), (.iconst (-1), []), (.invokevirtual 196, [148, 1178, 0, 2, 2, 10])]),
  (13, [(.lreturn, [])]),
  (14, [(.aload_n 0, []), (.aload_n 0, []), (.getfield 55, [10, 23, 956, 2]), (.iconst 0, []), (.iload_n 1, []), (.invokevirtual 185, [172, 1143, 0, 4, 1, 10])]),
  (24, [(.istore_n 2, []), (.aload_n 0, []), (.iload_n 2, []), (.invokevirtual 200, [181, 1183, 0, 2, 0, 10])]),
  (30, [(.iconst 0, []), (.istore_n 3, [])]),
  (32, [(.iload_n 3, []), (.iconst 1, []), (.iload_n 2, []), (.ishl, []), (.if_icmp .ge 24, [60]), (.aload_n 0, []), (.getfield 76, [10, 30, 963, 2]), (.iload_n 3, []), (.iload_n 3, []), (.ifCond .ne 7, [52]), (.lconst 1, []), (.goto 4, [53])]),
  (52, [(.lconst 0, [])]),
  (53, [(.lastore, []), (.iinc 3 1, []), (.goto (-25), [32])]),
  (60, [(.iconst 0, []), (.istore_n 3, [])]),
  (62, [(.iload_n 3, []), (.iconst 1, []), (.iload_n 2, []), (.ishl, []), (.if_icmp .ge 78, [144]), (.iconst 0, []), (.istore 4, [])]),
  (72, [(.iload 4, []), (.iload_n 2, []), (.if_icmp .ge 63, [138]), (.aload_n 0, []), (.getfield 76, [10, 30, 963, 2]), (.iload_n 3, []), (.laload, []), (.lconst 0, []), (.lcmp, []), (.ifCond .le 52, [138]), (.iload_n 3, []), (.iload 4, []), (.ishr, []), (.iconst 1, []), (.iand, []), (.ifCond .ne 37, [132]), (.aload_n 0, []), (.getfield 70, [10, 28, 961, 2]), (.iload 4, []), (.iaload, []), (.iload_n 3, []), (.iconst (-1), []), (.ixor, []), (.iand, []), (.ifCond .ne 23, [132]), (.aload_n 0, []), (.getfield 76, [10, 30, 963, 2]), (.iload_n 3, []), (.iconst 1, []), (.iload 4, []), (.ishl, []), (.ior, []), (.dup2, []), (.laload, []), (.aload_n 0, []), (.getfield 76, [10, 30, 963, 2]), (.iload_n 3, []), (.laload, []), (.ladd, []), (.lastore, [])]),
  (132, [(.iinc 4 1, []), (.goto (-63), [72])]),
  (138, [(.iinc 3 1, []), (.goto (-79), [62])]),
  (144, [(.aload_n 0, []), (.getfield 76, [10, 30, 963, 2]), (.iconst 1, []), (.iload_n 2, []), (.ishl, []), (.iconst 1, []), (.isub, []), (.laload, []), (.lreturn, [])])]
def zc_mo_seen : List (Nat × List zIns) := [
  (0, [(.aload_n 0, []), (.iload_n 1, []), (.invokevirtual 170, [150, 1131, 0, 2, 4, 10])]),
  (5, [(.ifCond .eq 17, [22]), (.iload_n 2, []), (.invokestatic 112, [149, 1057, 1, 1, 4, 10])]),
  (12, [(.ifCond .eq 10, [22]), (.iload_n 3, []), (.invokestatic 112, [149, 1057, 1, 1, 4, 10])]),
  (19, [(.ifCond .ne 9, [28])]),
  (22, [(.aload_n 0, []), (.iconst (-1), []), (.invokevirtual 102, [147, 1046, 0, 2, 1, 10])]),
  (27, [(.ireturn, [])]),
  (28, [(.iload 4, []), (.ifCond .ge 10, [40]), (.aload_n 0, []), (.bipush (-4), []), (.invokevirtual 102, [147, 1046, 0, 2, 1, 10])]),
  (39, [(.ireturn, [])]),
  (40, [(.iconst 0, []), (.istore 5, []), (.iconst 0, []), (.istore 6, [])]),
  (46, [(.iload 6, []), (.aload_n 0, []), (.getfield 16, [10, 3, 936, 2]), (.iload_n 1, []), (.iaload, []), (.if_icmp .ge 51, [105]), (.aload_n 0, []), (.getfield 19, [10, 4, 937, 2]), (.bipush 14, []), (.iload_n 1, []), (.imul, []), (.iload 6, []), (.iadd, []), (.iaload, []), (.istore 7, []), (.iload 7, []), (.iload_n 2, []), (.if_icmp .eq 12, [86]), (.iload 7, []), (.iload_n 3, []), (.if_icmp .eq 6, [86]), (.goto 16, [99])]),
  (86, [(.iload 5, []), (.iload 4, []), (.if_icmp .ne 6, [96]), (.iload 7, []), (.ireturn, [])]),
  (96, [(.iinc 5 1, [])]),
  (99, [(.iinc 6 1, []), (.goto (-56), [46])]),
  (105, [(.bipush (-9), []), (.ireturn, [])])]
def zc_mo_spread : List (Nat × List zIns) := [
  (0, [(.aload_n 0, []), (.iload_n 1, []), (.invokevirtual 170, [150, 1131, 0, 2, 4, 10])]),
  (5, [(.ifCond .eq 10, [15]), (.iload_n 2, []), (.invokestatic 112, [149, 1057, 1, 1, 4, 10])]),
  (12, [(.ifCond .ne 9, [21])]),
  (15, [(.aload_n 0, []), (.iconst (-1), []), (.invokevirtual 102, [147, 1046, 0, 2, 1, 10])]),
  (20, [(.ireturn, [])]),
  (21, [(.iload_n 3, []), (.ifCond .ge 10, [32]), (.aload_n 0, []), (.bipush (-4), []), (.invokevirtual 102, [147, 1046, 0, 2, 1, 10])]),
  (31, [(.ireturn, [])]),
  (32, [(.iload 4, []), (.iconst 0, []), (.iconst 1, []), (.invokestatic 94, [146, 1060, 1, 3, 4, 10])]),
  (39, [(.ifCond .ne 10, [49]), (.aload_n 0, []), (.bipush (-2), []), (.invokevirtual 102, [147, 1046, 0, 2, 1, 10])]),
  (48, [(.ireturn, [])]),
  (49, [(.aload_n 0, []), (.aload_n 0, []), (.getfield 55, [10, 23, 956, 2]), (.iconst 0, []), (.iload_n 1, []), (.invokevirtual 185, [172, 1143, 0, 4, 1, 10])]),
  (59, [(.istore 5, []), (.aload_n 0, []), (.iload 5, []), (.invokevirtual 200, [181, 1183, 0, 2, 0, 10])]),
  (67, [(.iconst 0, []), (.istore 6, []), (.iconst 0, []), (.istore 7, [])]),
  (73, [(.iload 6, []), (.iload 5, []), (.if_icmp .ge 47, [124]), (.aload_n 0, []), (.getfield 55, [10, 23, 956, 2]), (.iload 6, []), (.iaload, []), (.iload_n 2, []), (.if_icmp .ne 9, [97]), (.iload 7, []), (.iload_n 3, []), (.if_icmp .ge 30, [124])]),
  (97, [(.iload 7, []), (.aload_n 0, []), (.getfield 55, [10, 23, 956, 2]), (.iload 6, []), (.iaload, []), (.iload_n 2, []), (.if_icmp .ne 7, [114]), (.iconst 1, []), (.goto 4, [115])]),
  (114, [(.iconst 0, [])]),
  (115, [(.iadd, []), (.istore 7, []), (.iinc 6 1, []), (.goto (-48), [73])]),
  (124, [(.iload 6, []), (.iload 5, []), (.if_icmp .ne 6, [134]), (.bipush (-9), []), (.ireturn, [])]),
  (134, [(.iload 4, []), (.ifCond .ne 7, [143]), (.iconst 0, []), (.goto 7, [147])]),
  (143, [(.iload 5, []), (.iconst 1, []), (.isub, [])]),
  (147, [(.istore 8, []), (.iconst 0, []), (.istore 9, [])]),
  (152, [(.iload 9, []), (.iload 5, []), (.if_icmp .ge 47, [203]), (.iload 8, []), (.iload 4, []), (.ifCond .ne 18, [181]), (.aload_n 0, []), (.getfield 73, [10, 29, 962, 2]), (.iload 6, []), (.iaload, []), (.iload 9, []), (.ishr, []), (.iconst 1, []), (.iand, []), (.goto 16, [194])]),
  (181, [(.aload_n 0, []), (.getfield 73, [10, 29, 962, 2]), (.iload 9, []), (.iaload, []), (.iload 6, []), (.ishr, []), (.iconst 1, []), (.iand, []), (.ineg, [])]),
  (194, [(.iadd, []), (.istore 8, []), (.iinc 9 1, []), (.goto (-48), [152])]),
  (203, [(.iload 8, []), (.ireturn, [])])]
def zc_mo_common_ : List (Nat × List zIns) := [
  (0, [(.lload_n 2, []), (.lconst 0, []), (.lcmp, []), (.ifCond .ne 7, [10]), (.lload_n 0, []), (.goto 10, [17])]),
  (10, [(.lload_n 2, []), (.lload_n 0, []), (.lload_n 2, []), (.lrem, []), (.invokestatic 203, [185, 1199, 1, 2, 2, 10])]),
  (17, [(.lreturn, [])])]
def zc_mo_odds : List (Nat × List zIns) := [
  (0, [(.aload_n 0, []), (.iload_n 1, []), (.invokevirtual 170, [150, 1131, 0, 2, 4, 10])]),
  (5, [(.ifCond .ne 9, [14]), (.aload_n 0, []), (.iconst (-1), []), (.invokevirtual 196, [148, 1178, 0, 2, 2, 10])]),
  (13, [(.lreturn, [])]),
  (14, [(.iload_n 2, []), (.iconst 0, []), (.iconst 1, []), (.invokestatic 94, [146, 1060, 1, 3, 4, 10])]),
  (20, [(.ifCond .ne 10, [30]), (.aload_n 0, []), (.bipush (-2), []), (.invokevirtual 196, [148, 1178, 0, 2, 2, 10])]),
  (29, [(.lreturn, [])]),
  (30, [(.aload_n 0, []), (.aload_n 0, []), (.getfield 55, [10, 23, 956, 2]), (.iconst 0, []), (.iload_n 1, []), (.invokevirtual 185, [172, 1143, 0, 4, 1, 10])]),
  (40, [(.istore_n 3, []), (.iload_n 3, []), (.ifCond .ne 6, [48]), (.iload_n 2, []), (.i2l, []), (.lreturn, [])]),
  (48, [(.lconst 0, []), (.lstore 4, []), (.lconst 0, []), (.lstore 6, []), (.iconst 0, []), (.istore 8, [])]),
  (57, [(.iload 8, []), (.iload_n 3, []), (.if_icmp .ge 57, [117]), (.aload_n 0, []), (.aload_n 0, []), (.getfield 55, [10, 23, 956, 2]), (.iload 8, []), (.invokevirtual 173, [173, 1155, 0, 3, 4, 10])]),
  (73, [(.ifCond .ne 6, [79]), (.goto 35, [111])]),
  (79, [(.lload 6, []), (.lconst 1, []), (.ladd, []), (.lstore 6, []), (.lload 4, []), (.aload_n 0, []), (.getfield 13, [10, 1, 934, 2]), (.aload_n 0, []), (.getfield 55, [10, 23, 956, 2]), (.iload 8, []), (.iaload, []), (.iaload, []), (.iconst 3, []), (.if_icmp .ge 7, [107]), (.lconst 1, []), (.goto 4, [108])]),
  (107, [(.lconst 0, [])]),
  (108, [(.ladd, []), (.lstore 4, [])]),
  (111, [(.iinc 8 1, []), (.goto (-57), [57])]),
  (117, [(.iload_n 2, []), (.ifCond .ne 8, [126]), (.lload 4, []), (.goto 5, [128])]),
  (126, [(.lload 6, [])]),
  (128, [(.lload 4, []), (.lload 6, []), (.invokestatic 203, [185, 1199, 1, 2, 2, 10])]),
  (135, [(.ldiv, []), (.lreturn, [])])]
def zc_mo_placeOf : List (Nat × List zIns) := [
  (0, [(.iconst 0, []), (.istore 4, [])]),
  (3, [(.iload 4, []), (.iload_n 2, []), (.if_icmp .ge 35, [41]), (.aload_n 1, []), (.iload 4, []), (.iaload, []), (.iload_n 3, []), (.if_icmp .ne 21, [35]), (.aload_n 0, []), (.aload_n 1, []), (.iload 4, []), (.invokevirtual 173, [173, 1155, 0, 3, 4, 10])]),
  (24, [(.ifCond .eq 8, [32]), (.iload 4, []), (.goto 5, [34])]),
  (32, [(.bipush (-9), [])]),
  (34, [(.ireturn, [])]),
  (35, [(.iinc 4 1, []), (.goto (-35), [3])]),
  (41, [(.bipush (-9), []), (.ireturn, [])])]
def zc_mo_begins : List (Nat × List zIns) := [
  (0, [(.aload_n 0, []), (.iload_n 1, []), (.invokevirtual 170, [150, 1131, 0, 2, 4, 10])]),
  (5, [(.ifCond .eq 11, [16]), (.aload_n 0, []), (.iload_n 2, []), (.invokevirtual 170, [150, 1131, 0, 2, 4, 10])]),
  (13, [(.ifCond .ne 9, [22])]),
  (16, [(.aload_n 0, []), (.iconst (-1), []), (.invokevirtual 102, [147, 1046, 0, 2, 1, 10])]),
  (21, [(.ireturn, [])]),
  (22, [(.iload_n 3, []), (.iconst (-1), []), (.if_icmp .ge 10, [34]), (.aload_n 0, []), (.bipush (-4), []), (.invokevirtual 102, [147, 1046, 0, 2, 1, 10])]),
  (33, [(.ireturn, [])]),
  (34, [(.aload_n 0, []), (.aload_n 0, []), (.getfield 55, [10, 23, 956, 2]), (.iconst 0, []), (.iload_n 1, []), (.invokevirtual 185, [172, 1143, 0, 4, 1, 10])]),
  (44, [(.istore 4, []), (.iconst 0, []), (.istore 5, [])]),
  (49, [(.iload 5, []), (.aload_n 0, []), (.getfield 16, [10, 3, 936, 2]), (.iload_n 2, []), (.iaload, []), (.if_icmp .ge 66, [123]), (.aload_n 0, []), (.aload_n 0, []), (.getfield 55, [10, 23, 956, 2]), (.iload 4, []), (.aload_n 0, []), (.getfield 19, [10, 4, 937, 2]), (.bipush 14, []), (.iload_n 2, []), (.imul, []), (.iload 5, []), (.iadd, []), (.iaload, []), (.invokevirtual 207, [187, 1206, 0, 4, 1, 10])]),
  (82, [(.istore 6, []), (.iload 6, []), (.bipush (-9), []), (.if_icmp .ne 15, [103]), (.iload_n 3, []), (.iconst (-1), []), (.if_icmp .ne 7, [100]), (.iconst 0, []), (.goto 5, [102])]),
  (100, [(.bipush (-9), [])]),
  (102, [(.ireturn, [])]),
  (103, [(.aload_n 0, []), (.getfield 55, [10, 23, 956, 2]), (.iload 4, []), (.iload 6, []), (.invokestatic 177, [174, 1159, 1, 3, 0, 10])]),
  (114, [(.iinc 4 (-1), []), (.iinc 5 1, []), (.goto (-71), [49])]),
  (123, [(.iload_n 3, []), (.iconst (-1), []), (.if_icmp .ne 5, [130]), (.iconst 1, []), (.ireturn, [])]),
  (130, [(.aload_n 0, []), (.aload_n 0, []), (.getfield 55, [10, 23, 956, 2]), (.iload 4, []), (.aload_n 0, []), (.getfield 64, [10, 26, 959, 2]), (.iconst 0, []), (.invokevirtual 181, [175, 1151, 0, 5, 0, 10])]),
  (145, [(.iload_n 3, []), (.iload 4, []), (.if_icmp .ge 12, [160]), (.aload_n 0, []), (.getfield 64, [10, 26, 959, 2]), (.iload_n 3, []), (.iaload, []), (.goto 5, [162])]),
  (160, [(.bipush (-9), [])]),
  (162, [(.ireturn, [])])]
def zc_mo_common : List (Nat × List zIns) := [
  (0, [(.aload_n 0, []), (.iload_n 1, []), (.invokevirtual 170, [150, 1131, 0, 2, 4, 10])]),
  (5, [(.ifCond .eq 11, [16]), (.aload_n 0, []), (.iload_n 2, []), (.invokevirtual 170, [150, 1131, 0, 2, 4, 10])]),
  (13, [(.ifCond .ne 9, [22])]),
  (16, [(.aload_n 0, []), (.iconst (-1), []), (.invokevirtual 102, [147, 1046, 0, 2, 1, 10])]),
  (21, [(.ireturn, [])]),
  (22, [(.iload_n 3, []), (.iconst (-1), []), (.if_icmp .ge 10, [34]), (.aload_n 0, []), (.bipush (-4), []), (.invokevirtual 102, [147, 1046, 0, 2, 1, 10])]),
  (33, [(.ireturn, [])]),
  (34, [(.aload_n 0, []), (.aload_n 0, []), (.getfield 55, [10, 23, 956, 2]), (.iconst 0, []), (.iload_n 1, []), (.invokevirtual 185, [172, 1143, 0, 4, 1, 10])]),
  (44, [(.istore 4, []), (.aload_n 0, []), (.aload_n 0, []), (.getfield 58, [10, 24, 957, 2]), (.iconst 0, []), (.iload_n 2, []), (.invokevirtual 185, [172, 1143, 0, 4, 1, 10])]),
  (56, [(.istore 5, []), (.iconst 0, []), (.istore 6, []), (.iconst 0, []), (.istore 7, [])]),
  (64, [(.iload 7, []), (.bipush 6, []), (.if_icmp .ge 97, [165]), (.aload_n 0, []), (.aload_n 0, []), (.getfield 55, [10, 23, 956, 2]), (.iload 4, []), (.iload 7, []), (.invokevirtual 207, [187, 1206, 0, 4, 1, 10])]),
  (83, [(.istore 8, []), (.aload_n 0, []), (.aload_n 0, []), (.getfield 58, [10, 24, 957, 2]), (.iload 5, []), (.iload 7, []), (.invokevirtual 207, [187, 1206, 0, 4, 1, 10])]),
  (97, [(.istore 9, []), (.iload 8, []), (.bipush (-9), []), (.if_icmp .eq 10, [113]), (.iload 9, []), (.bipush (-9), []), (.if_icmp .ne 9, [119])]),
  (113, [(.iinc 7 1, []), (.goto (-52), [64])]),
  (119, [(.aload_n 0, []), (.getfield 80, [10, 31, 964, 2]), (.iload 6, []), (.iload 7, []), (.iastore, []), (.iinc 6 1, []), (.aload_n 0, []), (.getfield 55, [10, 23, 956, 2]), (.iload 4, []), (.iload 8, []), (.invokestatic 177, [174, 1159, 1, 3, 0, 10])]),
  (142, [(.aload_n 0, []), (.getfield 58, [10, 24, 957, 2]), (.iload 5, []), (.iload 9, []), (.invokestatic 177, [174, 1159, 1, 3, 0, 10])]),
  (153, [(.iinc 4 (-1), []), (.iinc 5 (-1), []), (.iconst 0, []), (.istore 7, []), (.goto (-98), [64])]),
  (165, [(.iload_n 3, []), (.iconst (-1), []), (.if_icmp .ne 6, [173]), (.iload 6, []), (.ireturn, [])]),
  (173, [(.aload_n 0, []), (.aload_n 0, []), (.getfield 80, [10, 31, 964, 2]), (.iload 6, []), (.aload_n 0, []), (.getfield 64, [10, 26, 959, 2]), (.iconst 0, []), (.invokevirtual 181, [175, 1151, 0, 5, 0, 10])]),
  (188, [(.iload_n 3, []), (.iload 6, []), (.if_icmp .ge 12, [203]), (.aload_n 0, []), (.getfield 64, [10, 26, 959, 2]), (.iload_n 3, []), (.iaload, []), (.goto 5, [205])]),
  (203, [(.bipush (-9), [])]),
  (205, [(.ireturn, [])])]
def zc_mo_product : List (Nat × List zIns) := [
  (0, [(.aload_n 0, []), (.iload_n 1, []), (.invokevirtual 170, [150, 1131, 0, 2, 4, 10])]),
  (5, [(.ifCond .eq 11, [16]), (.aload_n 0, []), (.iload_n 2, []), (.invokevirtual 170, [150, 1131, 0, 2, 4, 10])]),
  (13, [(.ifCond .ne 9, [22])]),
  (16, [(.aload_n 0, []), (.iconst (-1), []), (.invokevirtual 102, [147, 1046, 0, 2, 1, 10])]),
  (21, [(.ireturn, [])]),
  (22, [(.aload_n 0, []), (.getfield 16, [10, 3, 936, 2]), (.iload_n 1, []), (.iaload, []), (.aload_n 0, []), (.getfield 16, [10, 3, 936, 2]), (.iload_n 2, []), (.iaload, []), (.iadd, []), (.bipush 14, []), (.if_icmp .gt 11, [48]), (.aload_n 0, []), (.getfield 98, [10, 2, 935, 0]), (.iconst 5, []), (.if_icmp .ne 10, [55])]),
  (48, [(.aload_n 0, []), (.bipush (-6), []), (.invokevirtual 102, [147, 1046, 0, 2, 1, 10])]),
  (54, [(.ireturn, [])]),
  (55, [(.aload_n 0, []), (.aload_n 0, []), (.getfield 55, [10, 23, 956, 2]), (.aload_n 0, []), (.aload_n 0, []), (.getfield 55, [10, 23, 956, 2]), (.aload_n 0, []), (.aload_n 0, []), (.getfield 55, [10, 23, 956, 2]), (.iconst 0, []), (.iload_n 1, []), (.invokevirtual 185, [172, 1143, 0, 4, 1, 10])]),
  (75, [(.iload_n 2, []), (.invokevirtual 185, [172, 1143, 0, 4, 1, 10])]),
  (79, [(.invokevirtual 166, [168, 1123, 0, 3, 1, 10])]),
  (82, [(.ireturn, [])])]
def zc_mo_power : List (Nat × List zIns) := [
  (0, [(.aload_n 0, []), (.iload_n 1, []), (.invokevirtual 170, [150, 1131, 0, 2, 4, 10])]),
  (5, [(.ifCond .ne 9, [14]), (.aload_n 0, []), (.iconst (-1), []), (.invokevirtual 102, [147, 1046, 0, 2, 1, 10])]),
  (13, [(.ireturn, [])]),
  (14, [(.iload_n 2, []), (.ifCond .ge 10, [25]), (.aload_n 0, []), (.bipush (-4), []), (.invokevirtual 102, [147, 1046, 0, 2, 1, 10])]),
  (24, [(.ireturn, [])]),
  (25, [(.aload_n 0, []), (.getfield 16, [10, 3, 936, 2]), (.iload_n 1, []), (.iaload, []), (.i2l, []), (.iload_n 2, []), (.i2l, []), (.lmul, []), (.ldc2_w 210, [14, 1222]), (.lcmp, []), (.ifCond .gt 11, [50]), (.aload_n 0, []), (.getfield 98, [10, 2, 935, 0]), (.iconst 5, []), (.if_icmp .ne 10, [57])]),
  (50, [(.aload_n 0, []), (.bipush (-6), []), (.invokevirtual 102, [147, 1046, 0, 2, 1, 10])]),
  (56, [(.ireturn, [])]),
  (57, [(.iconst 0, []), (.istore_n 3, []), (.iconst 0, []), (.istore 4, [])]),
  (62, [(.iload 4, []), (.iload_n 2, []), (.if_icmp .ge 29, [94]), (.aload_n 0, []), (.getfield 16, [10, 3, 936, 2]), (.iload_n 1, []), (.iaload, []), (.ifCond .le 20, [94]), (.aload_n 0, []), (.aload_n 0, []), (.getfield 55, [10, 23, 956, 2]), (.iload_n 3, []), (.iload_n 1, []), (.invokevirtual 185, [172, 1143, 0, 4, 1, 10])]),
  (87, [(.istore_n 3, []), (.iinc 4 1, []), (.goto (-29), [62])]),
  (94, [(.aload_n 0, []), (.aload_n 0, []), (.getfield 55, [10, 23, 956, 2]), (.iload_n 3, []), (.invokevirtual 166, [168, 1123, 0, 3, 1, 10])]),
  (103, [(.ireturn, [])])]
def zc_mo_changes : List (Nat × List zIns) := [
  (0, [(.aload_n 0, []), (.iload_n 1, []), (.invokevirtual 170, [150, 1131, 0, 2, 4, 10])]),
  (5, [(.ifCond .eq 11, [16]), (.aload_n 0, []), (.iload_n 2, []), (.invokevirtual 170, [150, 1131, 0, 2, 4, 10])]),
  (13, [(.ifCond .ne 9, [22])]),
  (16, [(.aload_n 0, []), (.iconst (-1), []), (.invokevirtual 102, [147, 1046, 0, 2, 1, 10])]),
  (21, [(.ireturn, [])]),
  (22, [(.aload_n 0, []), (.aload_n 0, []), (.getfield 55, [10, 23, 956, 2]), (.aload_n 0, []), (.aload_n 0, []), (.getfield 55, [10, 23, 956, 2]), (.iconst 0, []), (.iload_n 1, []), (.invokevirtual 185, [172, 1143, 0, 4, 1, 10])]),
  (37, [(.iload_n 2, []), (.invokevirtual 185, [172, 1143, 0, 4, 1, 10])]),
  (41, [(.istore_n 3, []), (.aload_n 0, []), (.aload_n 0, []), (.getfield 58, [10, 24, 957, 2]), (.aload_n 0, []), (.aload_n 0, []), (.getfield 58, [10, 24, 957, 2]), (.iconst 0, []), (.iload_n 2, []), (.invokevirtual 185, [172, 1143, 0, 4, 1, 10])]),
  (57, [(.iload_n 1, []), (.invokevirtual 185, [172, 1143, 0, 4, 1, 10])]),
  (61, [(.pop, []), (.aload_n 0, []), (.aload_n 0, []), (.getfield 55, [10, 23, 956, 2]), (.aload_n 0, []), (.getfield 58, [10, 24, 957, 2]), (.iload_n 3, []), (.invokevirtual 189, [176, 1147, 0, 4, 4, 10])]),
  (75, [(.ifCond .eq 7, [82]), (.iconst 1, []), (.goto 4, [83])]),
  (82, [(.iconst 0, [])]),
  (83, [(.ireturn, [])])]
def zc_mo_rootBy : List (Nat × List zIns) := [
  (0, [(.iconst 0, []), (.istore_n 3, [])]),
  (2, [(.iload_n 3, []), (.bipush 6, []), (.if_icmp .ge 16, [21]), (.aload_n 0, []), (.getfield 83, [10, 32, 965, 2]), (.iload_n 3, []), (.iconst 0, []), (.iastore, []), (.iinc 3 1, []), (.goto (-16), [2])]),
  (21, [(.iconst 0, []), (.istore_n 3, [])]),
  (23, [(.iload_n 3, []), (.aload_n 0, []), (.getfield 16, [10, 3, 936, 2]), (.iload_n 1, []), (.iaload, []), (.if_icmp .ge 29, [59]), (.aload_n 0, []), (.getfield 83, [10, 32, 965, 2]), (.aload_n 0, []), (.getfield 19, [10, 4, 937, 2]), (.bipush 14, []), (.iload_n 1, []), (.imul, []), (.iload_n 3, []), (.iadd, []), (.iaload, []), (.dup2, []), (.iaload, []), (.iconst 1, []), (.iadd, []), (.iastore, []), (.iinc 3 1, []), (.goto (-33), [23])]),
  (59, [(.iconst 0, []), (.istore_n 3, [])]),
  (61, [(.iload_n 3, []), (.bipush 6, []), (.if_icmp .ge 33, [97]), (.aload_n 0, []), (.getfield 83, [10, 32, 965, 2]), (.iload_n 3, []), (.iaload, []), (.iload_n 2, []), (.irem, []), (.ifCond .eq 6, [81]), (.bipush (-9), []), (.ireturn, [])]),
  (81, [(.aload_n 0, []), (.getfield 83, [10, 32, 965, 2]), (.iload_n 3, []), (.dup2, []), (.iaload, []), (.iload_n 2, []), (.idiv, []), (.iastore, []), (.iinc 3 1, []), (.goto (-33), [61])]),
  (97, [(.iconst 0, []), (.istore_n 3, []), (.iconst 0, []), (.istore 4, [])]),
  (102, [(.iload 4, []), (.aload_n 0, []), (.getfield 16, [10, 3, 936, 2]), (.iload_n 1, []), (.iaload, []), (.if_icmp .ge 58, [168]), (.aload_n 0, []), (.getfield 19, [10, 4, 937, 2]), (.bipush 14, []), (.iload_n 1, []), (.imul, []), (.iload 4, []), (.iadd, []), (.iaload, []), (.istore 5, []), (.aload_n 0, []), (.getfield 83, [10, 32, 965, 2]), (.iload 5, []), (.iaload, []), (.ifCond .ne 6, [140]), (.goto 25, [162])]),
  (140, [(.aload_n 0, []), (.getfield 83, [10, 32, 965, 2]), (.iload 5, []), (.dup2, []), (.iaload, []), (.iconst 1, []), (.isub, []), (.iastore, []), (.aload_n 0, []), (.getfield 58, [10, 24, 957, 2]), (.iload_n 3, []), (.iload 5, []), (.iastore, []), (.iinc 3 1, [])]),
  (162, [(.iinc 4 1, []), (.goto (-63), [102])]),
  (168, [(.iload_n 3, []), (.ireturn, [])])]
def zc_mo_isRoot : List (Nat × List zIns) := [
  (0, [(.iconst 1, []), (.istore 4, [])]),
  (3, [(.iload 4, []), (.iload_n 2, []), (.if_icmp .ge 43, [49]), (.iconst 0, []), (.istore 5, [])]),
  (12, [(.iload 5, []), (.iload_n 3, []), (.if_icmp .ge 28, [43]), (.aload_n 0, []), (.getfield 58, [10, 24, 957, 2]), (.iload_n 3, []), (.iload 4, []), (.imul, []), (.iload 5, []), (.iadd, []), (.aload_n 0, []), (.getfield 58, [10, 24, 957, 2]), (.iload 5, []), (.iaload, []), (.iastore, []), (.iinc 5 1, []), (.goto (-28), [12])]),
  (43, [(.iinc 4 1, []), (.goto (-43), [3])]),
  (49, [(.aload_n 0, []), (.aload_n 0, []), (.getfield 55, [10, 23, 956, 2]), (.iconst 0, []), (.iload_n 1, []), (.invokevirtual 185, [172, 1143, 0, 4, 1, 10])]),
  (59, [(.pop, []), (.aload_n 0, []), (.aload_n 0, []), (.getfield 55, [10, 23, 956, 2]), (.aload_n 0, []), (.getfield 58, [10, 24, 957, 2]), (.aload_n 0, []), (.getfield 16, [10, 3, 936, 2]), (.iload_n 1, []), (.iaload, []), (.invokevirtual 189, [176, 1147, 0, 4, 4, 10])]),
  (78, [(.ireturn, [])])]
def zc_mo_root : List (Nat × List zIns) := [
  (0, [(.aload_n 0, []), (.iload_n 1, []), (.invokevirtual 170, [150, 1131, 0, 2, 4, 10])]),
  (5, [(.ifCond .ne 9, [14]), (.aload_n 0, []), (.iconst (-1), []), (.invokevirtual 102, [147, 1046, 0, 2, 1, 10])]),
  (13, [(.ireturn, [])]),
  (14, [(.iload_n 2, []), (.iconst (-1), []), (.if_icmp .ge 10, [26]), (.aload_n 0, []), (.bipush (-4), []), (.invokevirtual 102, [147, 1046, 0, 2, 1, 10])]),
  (25, [(.ireturn, [])]),
  (26, [(.aload_n 0, []), (.getfield 16, [10, 3, 936, 2]), (.iload_n 1, []), (.iaload, []), (.ifCond .ne 10, [42]), (.aload_n 0, []), (.bipush (-3), []), (.invokevirtual 102, [147, 1046, 0, 2, 1, 10])]),
  (41, [(.ireturn, [])]),
  (42, [(.aload_n 0, []), (.getfield 16, [10, 3, 936, 2]), (.iload_n 1, []), (.iaload, []), (.istore_n 3, []), (.aload_n 0, []), (.iload_n 1, []), (.iload_n 3, []), (.invokevirtual 212, [193, 1231, 0, 3, 1, 10])]),
  (55, [(.istore 4, [])]),
  (57, [(.iload 4, []), (.bipush (-9), []), (.if_icmp .eq 14, [75]), (.aload_n 0, []), (.iload_n 1, []), (.iload_n 3, []), (.iload 4, []), (.invokevirtual 216, [194, 1235, 0, 4, 4, 10])]),
  (72, [(.ifCond .ne 17, [89])]),
  (75, [(.iinc 3 (-1), []), (.aload_n 0, []), (.iload_n 1, []), (.iload_n 3, []), (.invokevirtual 212, [193, 1231, 0, 3, 1, 10])]),
  (84, [(.istore 4, []), (.goto (-29), [57])]),
  (89, [(.iload_n 2, []), (.iconst (-1), []), (.if_icmp .ne 5, [96]), (.iload_n 3, []), (.ireturn, [])]),
  (96, [(.aload_n 0, []), (.aload_n 0, []), (.getfield 58, [10, 24, 957, 2]), (.iload 4, []), (.aload_n 0, []), (.getfield 64, [10, 26, 959, 2]), (.iconst 0, []), (.invokevirtual 181, [175, 1151, 0, 5, 0, 10])]),
  (111, [(.iload_n 2, []), (.iload 4, []), (.if_icmp .ge 12, [126]), (.aload_n 0, []), (.getfield 64, [10, 26, 959, 2]), (.iload_n 2, []), (.iaload, []), (.goto 5, [128])]),
  (126, [(.bipush (-9), [])]),
  (128, [(.ireturn, [])])]
def zc_mo_stands : List (Nat × List zIns) := [
  (0, [(.iconst 0, []), (.istore_n 2, []), (.iconst 0, []), (.istore_n 3, [])]),
  (4, [(.iload_n 3, []), (.aload_n 0, []), (.getfield 16, [10, 3, 936, 2]), (.iload_n 1, []), (.iaload, []), (.if_icmp .ge 25, [36]), (.iload_n 2, []), (.iconst 1, []), (.aload_n 0, []), (.getfield 19, [10, 4, 937, 2]), (.bipush 14, []), (.iload_n 1, []), (.imul, []), (.iload_n 3, []), (.iadd, []), (.iaload, []), (.ishl, []), (.ior, []), (.istore_n 2, []), (.iinc 3 1, []), (.goto (-29), [4])]),
  (36, [(.iload_n 2, []), (.ireturn, [])])]
def zc_mo_partOf : List (Nat × List zIns) := [
  (0, [(.iconst 1, []), (.iload_n 1, []), (.ishl, []), (.istore_n 3, []), (.iconst 0, []), (.istore 4, [])]),
  (7, [(.iload 4, []), (.bipush 6, []), (.if_icmp .ge 53, [64]), (.iconst 0, []), (.istore 5, [])]),
  (17, [(.iload 5, []), (.bipush 6, []), (.if_icmp .ge 37, [58]), (.iload_n 3, []), (.iload_n 3, []), (.iload 5, []), (.ishr, []), (.iconst 1, []), (.iand, []), (.iconst 1, []), (.if_icmp .ne 17, [49]), (.iload_n 2, []), (.aload_n 0, []), (.getfield 9, [10, 0, 933, 2]), (.iload 5, []), (.iaload, []), (.iconst (-1), []), (.ixor, []), (.iand, []), (.goto 4, [50])]),
  (49, [(.iconst 0, [])]),
  (50, [(.ior, []), (.istore_n 3, []), (.iinc 5 1, []), (.goto (-38), [17])]),
  (58, [(.iinc 4 1, []), (.goto (-54), [7])]),
  (64, [(.iload_n 3, []), (.ireturn, [])])]
def zc_mo_parts : List (Nat × List zIns) := [
  (0, [(.aload_n 0, []), (.iload_n 1, []), (.invokevirtual 170, [150, 1131, 0, 2, 4, 10])]),
  (5, [(.ifCond .eq 12, [17]), (.iload_n 2, []), (.iconst (-1), []), (.iconst 5, []), (.invokestatic 94, [146, 1060, 1, 3, 4, 10])]),
  (14, [(.ifCond .ne 9, [23])]),
  (17, [(.aload_n 0, []), (.iconst (-1), []), (.invokevirtual 102, [147, 1046, 0, 2, 1, 10])]),
  (22, [(.ireturn, [])]),
  (23, [(.aload_n 0, []), (.iload_n 1, []), (.invokevirtual 219, [196, 1243, 0, 2, 1, 10])]),
  (28, [(.istore_n 3, []), (.iload_n 2, []), (.ifCond .lt 23, [53]), (.iload_n 3, []), (.iload_n 2, []), (.ishr, []), (.iconst 1, []), (.iand, []), (.iconst 1, []), (.if_icmp .ne 12, [51]), (.aload_n 0, []), (.iload_n 2, []), (.iload_n 3, []), (.invokevirtual 222, [197, 1247, 0, 3, 1, 10])]),
  (48, [(.goto 4, [52])]),
  (51, [(.iconst 0, [])]),
  (52, [(.ireturn, [])]),
  (53, [(.iconst 0, []), (.istore 4, []), (.iconst 0, []), (.istore 5, [])]),
  (59, [(.iload 5, []), (.bipush 6, []), (.if_icmp .ge 46, [109]), (.iload 4, []), (.iload_n 3, []), (.iload 5, []), (.ishr, []), (.iconst 1, []), (.iand, []), (.iconst 1, []), (.if_icmp .ne 24, [99]), (.aload_n 0, []), (.iload 5, []), (.iload_n 3, []), (.invokevirtual 222, [197, 1247, 0, 3, 1, 10])]),
  (85, [(.iconst 1, []), (.iload 5, []), (.ishl, []), (.iconst 1, []), (.isub, []), (.iand, []), (.ifCond .ne 7, [99]), (.iconst 1, []), (.goto 4, [100])]),
  (99, [(.iconst 0, [])]),
  (100, [(.iadd, []), (.istore 4, []), (.iinc 5 1, []), (.goto (-47), [59])]),
  (109, [(.iload 4, []), (.ireturn, [])])]
def zc_mo_numberOf : List (Nat × List zIns) := [
  (0, [(.iconst 0, []), (.istore_n 3, []), (.iconst 0, []), (.istore 4, [])]),
  (5, [(.iload 4, []), (.iload_n 2, []), (.if_icmp .ge 19, [27]), (.bipush 6, []), (.iload_n 3, []), (.imul, []), (.aload_n 1, []), (.iload 4, []), (.iaload, []), (.iadd, []), (.istore_n 3, []), (.iinc 4 1, []), (.goto (-19), [5])]),
  (27, [(.iload_n 3, []), (.ireturn, [])])]
def zc_mo_lays_ : List (Nat × List zIns) := [
  (0, [(.iload_n 1, []), (.istore 4, []), (.iload_n 3, []), (.iconst 1, []), (.isub, []), (.istore 5, [])]),
  (8, [(.iload 5, []), (.ifCond .lt 25, [35]), (.aload_n 2, []), (.iload 5, []), (.iload 4, []), (.bipush 6, []), (.irem, []), (.iastore, []), (.iload 4, []), (.bipush 6, []), (.idiv, []), (.istore 4, []), (.iinc 5 (-1), []), (.goto (-24), [8])]),
  (35, [(.return_, [])])]
def zc_mo_finds : List (Nat × List zIns) := [
  (0, [(.iconst 0, []), (.istore_n 3, [])]),
  (2, [(.iload_n 3, []), (.aload_n 0, []), (.getfield 225, [10, 33, 966, 0]), (.if_icmp .ge 20, [27]), (.aload_n 0, []), (.getfield 86, [10, 34, 967, 2]), (.iload_n 3, []), (.iaload, []), (.iload_n 1, []), (.if_icmp .ne 4, [21]), (.return_, [])]),
  (21, [(.iinc 3 1, []), (.goto (-22), [2])]),
  (27, [(.aload_n 0, []), (.getfield 86, [10, 34, 967, 2]), (.aload_n 0, []), (.getfield 225, [10, 33, 966, 0]), (.iload_n 1, []), (.iastore, []), (.aload_n 0, []), (.getfield 89, [10, 35, 968, 2]), (.aload_n 0, []), (.getfield 225, [10, 33, 966, 0]), (.iload_n 2, []), (.iastore, []), (.aload_n 0, []), (.dup, []), (.getfield 225, [10, 33, 966, 0]), (.iconst 1, []), (.iadd, []), (.putfield 225, [10, 33, 966, 0]), (.return_, [])])]
def zc_mo_turnsAll : List (Nat × List zIns) := [
  (0, [(.aload_n 0, []), (.aload_n 0, []), (.getfield 55, [10, 23, 956, 2]), (.iconst 0, []), (.iload_n 1, []), (.invokevirtual 185, [172, 1143, 0, 4, 1, 10])]),
  (10, [(.istore_n 2, []), (.aload_n 0, []), (.aload_n 0, []), (.getfield 55, [10, 23, 956, 2]), (.iload_n 2, []), (.aload_n 0, []), (.getfield 64, [10, 26, 959, 2]), (.iconst 0, []), (.invokevirtual 181, [175, 1151, 0, 5, 0, 10])]),
  (25, [(.aload_n 0, []), (.iconst 0, []), (.putfield 225, [10, 33, 966, 0]), (.aload_n 0, []), (.aload_n 0, []), (.aload_n 0, []), (.getfield 64, [10, 26, 959, 2]), (.iload_n 2, []), (.invokevirtual 228, [199, 1259, 0, 3, 1, 10])]),
  (40, [(.iconst 0, []), (.invokevirtual 231, [201, 1263, 0, 3, 0, 10])]),
  (44, [(.iconst 0, []), (.istore_n 3, [])]),
  (46, [(.iload_n 3, []), (.aload_n 0, []), (.getfield 225, [10, 33, 966, 0]), (.if_icmp .ge 119, [170]), (.iconst 0, []), (.istore 4, [])]),
  (57, [(.iload 4, []), (.iload_n 2, []), (.if_icmp .ge 104, [164]), (.aload_n 0, []), (.aload_n 0, []), (.getfield 86, [10, 34, 967, 2]), (.iload_n 3, []), (.iaload, []), (.aload_n 0, []), (.getfield 55, [10, 23, 956, 2]), (.iload_n 2, []), (.invokevirtual 234, [200, 1267, 0, 4, 0, 10])]),
  (78, [(.aload_n 0, []), (.aload_n 0, []), (.getfield 55, [10, 23, 956, 2]), (.iload 4, []), (.invokevirtual 173, [173, 1155, 0, 3, 4, 10])]),
  (88, [(.ifCond .ne 6, [94]), (.goto 67, [158])]),
  (94, [(.aload_n 0, []), (.getfield 55, [10, 23, 956, 2]), (.iload 4, []), (.iaload, []), (.istore 5, []), (.aload_n 0, []), (.getfield 55, [10, 23, 956, 2]), (.iload_n 2, []), (.iload 4, []), (.invokestatic 177, [174, 1159, 1, 3, 0, 10])]),
  (113, [(.aload_n 0, []), (.getfield 55, [10, 23, 956, 2]), (.iload_n 2, []), (.iconst 1, []), (.isub, []), (.iload 5, []), (.iastore, []), (.aload_n 0, []), (.aload_n 0, []), (.getfield 55, [10, 23, 956, 2]), (.iload_n 2, []), (.aload_n 0, []), (.getfield 64, [10, 26, 959, 2]), (.iconst 0, []), (.invokevirtual 181, [175, 1151, 0, 5, 0, 10])]),
  (137, [(.aload_n 0, []), (.aload_n 0, []), (.aload_n 0, []), (.getfield 64, [10, 26, 959, 2]), (.iload_n 2, []), (.invokevirtual 228, [199, 1259, 0, 3, 1, 10])]),
  (147, [(.aload_n 0, []), (.getfield 89, [10, 35, 968, 2]), (.iload_n 3, []), (.iaload, []), (.iconst 1, []), (.iadd, []), (.invokevirtual 231, [201, 1263, 0, 3, 0, 10])]),
  (158, [(.iinc 4 1, []), (.goto (-104), [57])]),
  (164, [(.iinc 3 1, []), (.goto (-121), [46])]),
  (170, [(.return_, [])])]
def zc_mo_turned : List (Nat × List zIns) := [
  (0, [(.aload_n 0, []), (.iload_n 1, []), (.invokevirtual 170, [150, 1131, 0, 2, 4, 10])]),
  (5, [(.ifCond .ne 9, [14]), (.aload_n 0, []), (.iconst (-1), []), (.invokevirtual 102, [147, 1046, 0, 2, 1, 10])]),
  (13, [(.ireturn, [])]),
  (14, [(.aload_n 0, []), (.getfield 16, [10, 3, 936, 2]), (.iload_n 1, []), (.iaload, []), (.bipush 7, []), (.if_icmp .le 10, [32]), (.aload_n 0, []), (.bipush (-6), []), (.invokevirtual 102, [147, 1046, 0, 2, 1, 10])]),
  (31, [(.ireturn, [])]),
  (32, [(.aload_n 0, []), (.iload_n 1, []), (.invokevirtual 238, [202, 1255, 0, 2, 0, 10])]),
  (37, [(.aload_n 0, []), (.getfield 225, [10, 33, 966, 0]), (.ireturn, [])])]
def zc_mo_turn : List (Nat × List zIns) := [
  (0, [(.aload_n 0, []), (.iload_n 1, []), (.invokevirtual 170, [150, 1131, 0, 2, 4, 10])]),
  (5, [(.ifCond .ne 9, [14]), (.aload_n 0, []), (.iconst (-1), []), (.invokevirtual 102, [147, 1046, 0, 2, 1, 10])]),
  (13, [(.ireturn, [])]),
  (14, [(.iload_n 2, []), (.ifCond .lt 7, [22]), (.iload_n 3, []), (.ifCond .ge 10, [29])]),
  (22, [(.aload_n 0, []), (.bipush (-4), []), (.invokevirtual 102, [147, 1046, 0, 2, 1, 10])]),
  (28, [(.ireturn, [])]),
  (29, [(.aload_n 0, []), (.getfield 16, [10, 3, 936, 2]), (.iload_n 1, []), (.iaload, []), (.bipush 7, []), (.if_icmp .le 10, [47]), (.aload_n 0, []), (.bipush (-6), []), (.invokevirtual 102, [147, 1046, 0, 2, 1, 10])]),
  (46, [(.ireturn, [])]),
  (47, [(.aload_n 0, []), (.iload_n 1, []), (.invokevirtual 238, [202, 1255, 0, 2, 0, 10])]),
  (52, [(.iload_n 2, []), (.aload_n 0, []), (.getfield 225, [10, 33, 966, 0]), (.if_icmp .ge 13, [70]), (.iload_n 3, []), (.aload_n 0, []), (.getfield 16, [10, 3, 936, 2]), (.iload_n 1, []), (.iaload, []), (.if_icmp .lt 6, [73])]),
  (70, [(.bipush (-9), []), (.ireturn, [])]),
  (73, [(.bipush (-9), []), (.istore 4, []), (.iconst 0, []), (.istore 5, [])]),
  (80, [(.iload 5, []), (.aload_n 0, []), (.getfield 225, [10, 33, 966, 0]), (.if_icmp .ge 79, [165]), (.iload 4, []), (.bipush (-9), []), (.if_icmp .ne 72, [165]), (.iconst 0, []), (.istore 6, []), (.iconst 0, []), (.istore 7, [])]),
  (102, [(.iload 7, []), (.aload_n 0, []), (.getfield 225, [10, 33, 966, 0]), (.if_icmp .ge 36, [144]), (.iload 6, []), (.aload_n 0, []), (.getfield 86, [10, 34, 967, 2]), (.iload 7, []), (.iaload, []), (.aload_n 0, []), (.getfield 86, [10, 34, 967, 2]), (.iload 5, []), (.iaload, []), (.if_icmp .ge 7, [134]), (.iconst 1, []), (.goto 4, [135])]),
  (134, [(.iconst 0, [])]),
  (135, [(.iadd, []), (.istore 6, []), (.iinc 7 1, []), (.goto (-39), [102])]),
  (144, [(.iload 6, []), (.iload_n 2, []), (.if_icmp .ne 8, [155]), (.iload 5, []), (.goto 5, [157])]),
  (155, [(.bipush (-9), [])]),
  (157, [(.istore 4, []), (.iinc 5 1, []), (.goto (-82), [80])]),
  (165, [(.aload_n 0, []), (.aload_n 0, []), (.getfield 86, [10, 34, 967, 2]), (.iload 4, []), (.iaload, []), (.aload_n 0, []), (.getfield 55, [10, 23, 956, 2]), (.aload_n 0, []), (.getfield 16, [10, 3, 936, 2]), (.iload_n 1, []), (.iaload, []), (.invokevirtual 234, [200, 1267, 0, 4, 0, 10])]),
  (186, [(.aload_n 0, []), (.getfield 55, [10, 23, 956, 2]), (.iload_n 3, []), (.iaload, []), (.ireturn, [])])]
def zc_mo_apart : List (Nat × List zIns) := [
  (0, [(.aload_n 0, []), (.iload_n 1, []), (.invokevirtual 170, [150, 1131, 0, 2, 4, 10])]),
  (5, [(.ifCond .eq 11, [16]), (.aload_n 0, []), (.iload_n 2, []), (.invokevirtual 170, [150, 1131, 0, 2, 4, 10])]),
  (13, [(.ifCond .ne 9, [22])]),
  (16, [(.aload_n 0, []), (.iconst (-1), []), (.invokevirtual 102, [147, 1046, 0, 2, 1, 10])]),
  (21, [(.ireturn, [])]),
  (22, [(.aload_n 0, []), (.getfield 16, [10, 3, 936, 2]), (.iload_n 1, []), (.iaload, []), (.bipush 7, []), (.if_icmp .gt 14, [44]), (.aload_n 0, []), (.getfield 16, [10, 3, 936, 2]), (.iload_n 2, []), (.iaload, []), (.bipush 7, []), (.if_icmp .le 10, [51])]),
  (44, [(.aload_n 0, []), (.bipush (-6), []), (.invokevirtual 102, [147, 1046, 0, 2, 1, 10])]),
  (50, [(.ireturn, [])]),
  (51, [(.aload_n 0, []), (.getfield 16, [10, 3, 936, 2]), (.iload_n 1, []), (.iaload, []), (.aload_n 0, []), (.getfield 16, [10, 3, 936, 2]), (.iload_n 2, []), (.iaload, []), (.if_icmp .eq 6, [69]), (.bipush (-9), []), (.ireturn, [])]),
  (69, [(.aload_n 0, []), (.iload_n 1, []), (.invokevirtual 238, [202, 1255, 0, 2, 0, 10])]),
  (74, [(.aload_n 0, []), (.aload_n 0, []), (.getfield 58, [10, 24, 957, 2]), (.iconst 0, []), (.iload_n 2, []), (.invokevirtual 185, [172, 1143, 0, 4, 1, 10])]),
  (84, [(.istore_n 3, []), (.aload_n 0, []), (.aload_n 0, []), (.getfield 58, [10, 24, 957, 2]), (.iload_n 3, []), (.aload_n 0, []), (.getfield 64, [10, 26, 959, 2]), (.iconst 0, []), (.invokevirtual 181, [175, 1151, 0, 5, 0, 10])]),
  (99, [(.aload_n 0, []), (.aload_n 0, []), (.getfield 64, [10, 26, 959, 2]), (.iload_n 3, []), (.invokevirtual 228, [199, 1259, 0, 3, 1, 10])]),
  (108, [(.istore 4, []), (.iconst 0, []), (.istore 5, [])]),
  (113, [(.iload 5, []), (.aload_n 0, []), (.getfield 225, [10, 33, 966, 0]), (.if_icmp .ge 29, [148]), (.aload_n 0, []), (.getfield 86, [10, 34, 967, 2]), (.iload 5, []), (.iaload, []), (.iload 4, []), (.if_icmp .ne 11, [142]), (.aload_n 0, []), (.getfield 89, [10, 35, 968, 2]), (.iload 5, []), (.iaload, []), (.ireturn, [])]),
  (142, [(.iinc 5 1, []), (.goto (-32), [113])]),
  (148, [(.bipush (-9), []), (.ireturn, [])])]
def zc_mo_isFree : List (Nat × List zIns) := [
  (0, [(.iconst 0, []), (.istore_n 2, [])]),
  (2, [(.iload_n 2, []), (.bipush 6, []), (.if_icmp .ge 39, [44]), (.iload_n 1, []), (.iload_n 2, []), (.ishr, []), (.iconst 1, []), (.iand, []), (.iconst 1, []), (.if_icmp .ne 24, [38]), (.iload_n 1, []), (.iconst 1, []), (.iload_n 2, []), (.ishl, []), (.iconst (-1), []), (.ixor, []), (.iand, []), (.aload_n 0, []), (.getfield 9, [10, 0, 933, 2]), (.iload_n 2, []), (.iaload, []), (.iconst (-1), []), (.ixor, []), (.iand, []), (.ifCond .eq 5, [38]), (.iconst 0, []), (.ireturn, [])]),
  (38, [(.iinc 2 1, []), (.goto (-39), [2])]),
  (44, [(.iconst 1, []), (.ireturn, [])])]
def zc_mo_unlike : List (Nat × List zIns) := [
  (0, [(.iload_n 1, []), (.ifCond .lt 8, [9]), (.iload_n 2, []), (.iconst 1, []), (.if_icmp .ge 10, [16])]),
  (9, [(.aload_n 0, []), (.bipush (-4), []), (.invokevirtual 196, [148, 1178, 0, 2, 2, 10])]),
  (15, [(.lreturn, [])]),
  (16, [(.iload_n 1, []), (.bipush 12, []), (.if_icmp .gt 9, [28]), (.iload_n 2, []), (.bipush 6, []), (.if_icmp .le 10, [35])]),
  (28, [(.aload_n 0, []), (.bipush (-6), []), (.invokevirtual 196, [148, 1178, 0, 2, 2, 10])]),
  (34, [(.lreturn, [])]),
  (35, [(.iconst 0, []), (.istore_n 3, [])]),
  (37, [(.iload_n 3, []), (.bipush 6, []), (.if_icmp .ge 16, [56]), (.aload_n 0, []), (.getfield 83, [10, 32, 965, 2]), (.iload_n 3, []), (.iconst 0, []), (.iastore, []), (.iinc 3 1, []), (.goto (-16), [37])]),
  (56, [(.iconst 1, []), (.istore_n 3, [])]),
  (58, [(.iload_n 3, []), (.iconst 1, []), (.iload_n 2, []), (.ishl, []), (.if_icmp .ge 60, [122]), (.aload_n 0, []), (.iload_n 3, []), (.invokevirtual 241, [206, 1283, 0, 2, 4, 10])]),
  (70, [(.ifCond .ne 6, [76]), (.goto 43, [116])]),
  (76, [(.iconst (-1), []), (.istore 4, []), (.iconst 0, []), (.istore 5, [])]),
  (82, [(.iload 5, []), (.iload_n 2, []), (.if_icmp .ge 20, [105]), (.iload 4, []), (.iload_n 3, []), (.iload 5, []), (.ishr, []), (.iconst 1, []), (.iand, []), (.iadd, []), (.istore 4, []), (.iinc 5 1, []), (.goto (-20), [82])]),
  (105, [(.aload_n 0, []), (.getfield 83, [10, 32, 965, 2]), (.iload 4, []), (.dup2, []), (.iaload, []), (.iconst 1, []), (.iadd, []), (.iastore, [])]),
  (116, [(.iinc 3 1, []), (.goto (-61), [58])]),
  (122, [(.aload_n 0, []), (.getfield 76, [10, 30, 963, 2]), (.iconst 0, []), (.lconst 1, []), (.lastore, []), (.iconst 1, []), (.istore_n 3, [])]),
  (131, [(.iload_n 3, []), (.iload_n 1, []), (.if_icmp .gt 88, [221]), (.aload_n 0, []), (.getfield 76, [10, 30, 963, 2]), (.iload_n 3, []), (.lconst 0, []), (.lastore, []), (.iconst 1, []), (.istore 4, [])]),
  (146, [(.iload 4, []), (.iload_n 3, []), (.if_icmp .gt 66, [215]), (.iload 4, []), (.bipush 6, []), (.if_icmp .gt 59, [215]), (.aload_n 0, []), (.getfield 76, [10, 30, 963, 2]), (.iload_n 3, []), (.dup2, []), (.laload, []), (.iload 4, []), (.iconst 2, []), (.irem, []), (.iconst 1, []), (.if_icmp .ne 15, [186]), (.aload_n 0, []), (.getfield 83, [10, 32, 965, 2]), (.iload 4, []), (.iconst 1, []), (.isub, []), (.iaload, []), (.goto 13, [196])]),
  (186, [(.aload_n 0, []), (.getfield 83, [10, 32, 965, 2]), (.iload 4, []), (.iconst 1, []), (.isub, []), (.iaload, []), (.ineg, [])]),
  (196, [(.i2l, []), (.aload_n 0, []), (.getfield 76, [10, 30, 963, 2]), (.iload_n 3, []), (.iload 4, []), (.isub, []), (.laload, []), (.lmul, []), (.ladd, []), (.lastore, []), (.iinc 4 1, []), (.goto (-66), [146])]),
  (215, [(.iinc 3 1, []), (.goto (-87), [131])]),
  (221, [(.aload_n 0, []), (.getfield 76, [10, 30, 963, 2]), (.iload_n 1, []), (.laload, []), (.lreturn, [])])]
def zc_mo_free : List (Nat × List zIns) := [
  (0, [(.iconst 0, []), (.istore_n 1, []), (.iconst 0, []), (.istore_n 2, [])]),
  (4, [(.iload_n 2, []), (.bipush 64, []), (.if_icmp .ge 25, [32]), (.iload_n 1, []), (.aload_n 0, []), (.iload_n 2, []), (.invokevirtual 241, [206, 1283, 0, 2, 4, 10])]),
  (16, [(.ifCond .eq 7, [23]), (.iconst 1, []), (.goto 4, [24])]),
  (23, [(.iconst 0, [])]),
  (24, [(.iadd, []), (.istore_n 1, []), (.iinc 2 1, []), (.goto (-25), [4])]),
  (32, [(.iload_n 1, []), (.ireturn, [])])]
def zc_mo_lots : List (Nat × List zIns) := [
  (0, [(.aload_n 0, []), (.iload_n 1, []), (.invokevirtual 170, [150, 1131, 0, 2, 4, 10])]),
  (5, [(.ifCond .ne 9, [14]), (.aload_n 0, []), (.iconst (-1), []), (.invokevirtual 102, [147, 1046, 0, 2, 1, 10])]),
  (13, [(.ireturn, [])]),
  (14, [(.iload_n 2, []), (.iconst 1, []), (.if_icmp .ge 10, [26]), (.aload_n 0, []), (.bipush (-4), []), (.invokevirtual 102, [147, 1046, 0, 2, 1, 10])]),
  (25, [(.ireturn, [])]),
  (26, [(.iload_n 2, []), (.bipush 60, []), (.if_icmp .le 10, [39]), (.aload_n 0, []), (.bipush (-6), []), (.invokevirtual 102, [147, 1046, 0, 2, 1, 10])]),
  (38, [(.ireturn, [])]),
  (39, [(.iload 4, []), (.iconst 0, []), (.iconst 1, []), (.invokestatic 94, [146, 1060, 1, 3, 4, 10])]),
  (46, [(.ifCond .ne 10, [56]), (.aload_n 0, []), (.bipush (-2), []), (.invokevirtual 102, [147, 1046, 0, 2, 1, 10])]),
  (55, [(.ireturn, [])]),
  (56, [(.aload_n 0, []), (.getfield 16, [10, 3, 936, 2]), (.iload_n 1, []), (.iaload, []), (.iconst 2, []), (.if_icmp .ge 10, [73]), (.aload_n 0, []), (.bipush (-3), []), (.invokevirtual 102, [147, 1046, 0, 2, 1, 10])]),
  (72, [(.ireturn, [])]),
  (73, [(.aload_n 0, []), (.aload_n 0, []), (.getfield 55, [10, 23, 956, 2]), (.iconst 0, []), (.iload_n 1, []), (.invokevirtual 185, [172, 1143, 0, 4, 1, 10])]),
  (83, [(.istore 5, []), (.iload_n 3, []), (.istore 6, []), (.iconst 0, []), (.istore 7, []), (.iconst 0, []), (.istore 8, [])]),
  (94, [(.iload 8, []), (.iload_n 2, []), (.if_icmp .ge 100, [197]), (.iload 6, []), (.ldc 244, [1664525, 1295]), (.imul, []), (.ldc 245, [1013904223, 1296]), (.iadd, []), (.istore 6, []), (.iload 6, []), (.ldc 246, [2147483647, 1297]), (.iand, []), (.sipush 256, []), (.idiv, []), (.iload 5, []), (.iconst 1, []), (.isub, []), (.irem, []), (.istore 9, []), (.aload_n 0, []), (.aload_n 0, []), (.getfield 55, [10, 23, 956, 2]), (.iload 9, []), (.iaload, []), (.aload_n 0, []), (.getfield 55, [10, 23, 956, 2]), (.iload 9, []), (.iconst 1, []), (.iadd, []), (.iaload, []), (.invokevirtual 127, [151, 1071, 0, 3, 4, 10])]),
  (146, [(.ifCond .ne 6, [152]), (.goto 42, [191])]),
  (152, [(.aload_n 0, []), (.getfield 55, [10, 23, 956, 2]), (.iload 9, []), (.iaload, []), (.istore 10, []), (.aload_n 0, []), (.getfield 55, [10, 23, 956, 2]), (.iload 9, []), (.aload_n 0, []), (.getfield 55, [10, 23, 956, 2]), (.iload 9, []), (.iconst 1, []), (.iadd, []), (.iaload, []), (.iastore, []), (.aload_n 0, []), (.getfield 55, [10, 23, 956, 2]), (.iload 9, []), (.iconst 1, []), (.iadd, []), (.iload 10, []), (.iastore, []), (.iinc 7 1, [])]),
  (191, [(.iinc 8 1, []), (.goto (-100), [94])]),
  (197, [(.iload 4, []), (.ifCond .ne 6, [205]), (.iload 7, []), (.ireturn, [])]),
  (205, [(.iconst 0, []), (.istore 8, []), (.iconst 0, []), (.istore 9, [])]),
  (211, [(.iload 9, []), (.iload 5, []), (.if_icmp .ge 41, [256]), (.iload 8, []), (.aload_n 0, []), (.getfield 55, [10, 23, 956, 2]), (.iload 9, []), (.iaload, []), (.aload_n 0, []), (.getfield 19, [10, 4, 937, 2]), (.bipush 14, []), (.iload_n 1, []), (.imul, []), (.iload 9, []), (.iadd, []), (.iaload, []), (.if_icmp .ne 7, [246]), (.iconst 0, []), (.goto 4, [247])]),
  (246, [(.iconst 1, [])]),
  (247, [(.iadd, []), (.istore 8, []), (.iinc 9 1, []), (.goto (-42), [211])]),
  (256, [(.iload 8, []), (.ireturn, [])])]
def zc_mo_isList : List (Nat × List zIns) := [
  (0, [(.iload_n 0, []), (.iconst 0, []), (.iconst 2, []), (.invokestatic 94, [146, 1060, 1, 3, 4, 10])]),
  (6, [(.ireturn, [])])]
def zc_mo_list : List (Nat × List zIns) := [
  (0, [(.iload_n 1, []), (.invokestatic 247, [210, 1302, 1, 1, 4, 10])]),
  (4, [(.ifCond .ne 9, [13]), (.aload_n 0, []), (.iconst (-1), []), (.invokevirtual 102, [147, 1046, 0, 2, 1, 10])]),
  (12, [(.ireturn, [])]),
  (13, [(.iload_n 2, []), (.bipush 40, []), (.if_icmp .le 10, [26]), (.aload_n 0, []), (.bipush (-6), []), (.invokevirtual 102, [147, 1046, 0, 2, 1, 10])]),
  (25, [(.ireturn, [])]),
  (26, [(.iload_n 2, []), (.ifCond .ge 6, [33]), (.bipush (-14), []), (.ireturn, [])]),
  (33, [(.aload_n 0, []), (.getfield 43, [10, 16, 949, 2]), (.iload_n 1, []), (.iload_n 2, []), (.iastore, []), (.iconst 0, []), (.istore_n 3, [])]),
  (42, [(.iload_n 3, []), (.bipush 40, []), (.if_icmp .ge 21, [66]), (.aload_n 0, []), (.getfield 46, [10, 17, 950, 2]), (.bipush 40, []), (.iload_n 1, []), (.imul, []), (.iload_n 3, []), (.iadd, []), (.iconst 0, []), (.iastore, []), (.iinc 3 1, []), (.goto (-21), [42])]),
  (66, [(.iconst 1, []), (.ireturn, [])])]
def zc_mo_put : List (Nat × List zIns) := [
  (0, [(.iload_n 1, []), (.invokestatic 247, [210, 1302, 1, 1, 4, 10])]),
  (4, [(.ifCond .ne 9, [13]), (.aload_n 0, []), (.iconst (-1), []), (.invokevirtual 102, [147, 1046, 0, 2, 1, 10])]),
  (12, [(.ireturn, [])]),
  (13, [(.aload_n 0, []), (.getfield 43, [10, 16, 949, 2]), (.iload_n 1, []), (.iaload, []), (.bipush (-9), []), (.if_icmp .ne 6, [27]), (.bipush (-11), []), (.ireturn, [])]),
  (27, [(.iload_n 2, []), (.iconst 0, []), (.aload_n 0, []), (.getfield 43, [10, 16, 949, 2]), (.iload_n 1, []), (.iaload, []), (.iconst 1, []), (.isub, []), (.invokestatic 94, [146, 1060, 1, 3, 4, 10])]),
  (40, [(.ifCond .ne 6, [46]), (.bipush (-13), []), (.ireturn, [])]),
  (46, [(.aload_n 0, []), (.getfield 46, [10, 17, 950, 2]), (.bipush 40, []), (.iload_n 1, []), (.imul, []), (.iload_n 2, []), (.iadd, []), (.iload_n 3, []), (.iastore, []), (.iconst 1, []), (.ireturn, [])])]
def zc_mo_look : List (Nat × List zIns) := [
  (0, [(.iload_n 1, []), (.invokestatic 247, [210, 1302, 1, 1, 4, 10])]),
  (4, [(.ifCond .ne 9, [13]), (.aload_n 0, []), (.iconst (-1), []), (.invokevirtual 196, [148, 1178, 0, 2, 2, 10])]),
  (12, [(.lreturn, [])]),
  (13, [(.aload_n 0, []), (.getfield 43, [10, 16, 949, 2]), (.iload_n 1, []), (.iaload, []), (.bipush (-9), []), (.if_icmp .ne 7, [28]), (.ldc2_w 250, [4000000000000000011, 1313]), (.lreturn, [])]),
  (28, [(.iload_n 2, []), (.iconst 0, []), (.aload_n 0, []), (.getfield 43, [10, 16, 949, 2]), (.iload_n 1, []), (.iaload, []), (.iconst 1, []), (.isub, []), (.invokestatic 94, [146, 1060, 1, 3, 4, 10])]),
  (41, [(.ifCond .ne 7, [48]), (.ldc2_w 252, [4000000000000000013, 1314]), (.lreturn, [])]),
  (48, [(.aload_n 0, []), (.getfield 46, [10, 17, 950, 2]), (.bipush 40, []), (.iload_n 1, []), (.imul, []), (.iload_n 2, []), (.iadd, []), (.iaload, []), (.i2l, []), (.lreturn, [])])]
def zc_mo_areThere : List (Nat × List zIns) := [
  (0, [(.iload_n 3, []), (.ifCond .eq 23, [24]), (.iload_n 2, []), (.ifCond .lt 23, [28]), (.iload_n 2, []), (.i2l, []), (.iload_n 3, []), (.i2l, []), (.ladd, []), (.aload_n 0, []), (.getfield 43, [10, 16, 949, 2]), (.iload_n 1, []), (.iaload, []), (.i2l, []), (.lcmp, []), (.ifCond .gt 7, [28])]),
  (24, [(.iconst 1, []), (.goto 4, [29])]),
  (28, [(.iconst 0, [])]),
  (29, [(.ireturn, [])])]
def zc_mo_from : List (Nat × List zIns) := [
  (0, [(.iload_n 1, []), (.invokestatic 247, [210, 1302, 1, 1, 4, 10])]),
  (4, [(.ifCond .ne 9, [13]), (.aload_n 0, []), (.iconst (-1), []), (.invokevirtual 102, [147, 1046, 0, 2, 1, 10])]),
  (12, [(.ireturn, [])]),
  (13, [(.iload_n 3, []), (.ifCond .ge 10, [24]), (.aload_n 0, []), (.bipush (-4), []), (.invokevirtual 102, [147, 1046, 0, 2, 1, 10])]),
  (23, [(.ireturn, [])]),
  (24, [(.iload_n 3, []), (.bipush 14, []), (.if_icmp .gt 11, [38]), (.aload_n 0, []), (.getfield 98, [10, 2, 935, 0]), (.iconst 5, []), (.if_icmp .ne 10, [45])]),
  (38, [(.aload_n 0, []), (.bipush (-6), []), (.invokevirtual 102, [147, 1046, 0, 2, 1, 10])]),
  (44, [(.ireturn, [])]),
  (45, [(.aload_n 0, []), (.getfield 43, [10, 16, 949, 2]), (.iload_n 1, []), (.iaload, []), (.bipush (-9), []), (.if_icmp .ne 6, [59]), (.bipush (-11), []), (.ireturn, [])]),
  (59, [(.aload_n 0, []), (.iload_n 1, []), (.iload_n 2, []), (.iload_n 3, []), (.invokevirtual 254, [214, 1319, 0, 4, 4, 10])]),
  (66, [(.ifCond .ne 6, [72]), (.bipush (-13), []), (.ireturn, [])]),
  (72, [(.iconst 0, []), (.istore 4, [])]),
  (75, [(.iload 4, []), (.iload_n 3, []), (.if_icmp .ge 50, [128]), (.aload_n 0, []), (.getfield 55, [10, 23, 956, 2]), (.iload 4, []), (.aload_n 0, []), (.getfield 46, [10, 17, 950, 2]), (.bipush 40, []), (.iload_n 1, []), (.imul, []), (.iload_n 2, []), (.iadd, []), (.iload 4, []), (.iadd, []), (.iaload, []), (.iastore, []), (.aload_n 0, []), (.getfield 55, [10, 23, 956, 2]), (.iload 4, []), (.iaload, []), (.invokestatic 112, [149, 1057, 1, 1, 4, 10])]),
  (112, [(.ifCond .ne 10, [122]), (.aload_n 0, []), (.bipush (-3), []), (.invokevirtual 102, [147, 1046, 0, 2, 1, 10])]),
  (121, [(.ireturn, [])]),
  (122, [(.iinc 4 1, []), (.goto (-50), [75])]),
  (128, [(.aload_n 0, []), (.aload_n 0, []), (.getfield 55, [10, 23, 956, 2]), (.iload_n 3, []), (.invokevirtual 166, [168, 1123, 0, 3, 1, 10])]),
  (137, [(.ireturn, [])])]
def zc_mo_lays : List (Nat × List zIns) := [
  (0, [(.iload_n 1, []), (.invokestatic 247, [210, 1302, 1, 1, 4, 10])]),
  (4, [(.ifCond .eq 11, [15]), (.aload_n 0, []), (.iload_n 3, []), (.invokevirtual 170, [150, 1131, 0, 2, 4, 10])]),
  (12, [(.ifCond .ne 9, [21])]),
  (15, [(.aload_n 0, []), (.iconst (-1), []), (.invokevirtual 102, [147, 1046, 0, 2, 1, 10])]),
  (20, [(.ireturn, [])]),
  (21, [(.aload_n 0, []), (.getfield 43, [10, 16, 949, 2]), (.iload_n 1, []), (.iaload, []), (.bipush (-9), []), (.if_icmp .ne 6, [35]), (.bipush (-11), []), (.ireturn, [])]),
  (35, [(.aload_n 0, []), (.iload_n 1, []), (.iload_n 2, []), (.aload_n 0, []), (.getfield 16, [10, 3, 936, 2]), (.iload_n 3, []), (.iaload, []), (.invokevirtual 254, [214, 1319, 0, 4, 4, 10])]),
  (47, [(.ifCond .ne 6, [53]), (.bipush (-13), []), (.ireturn, [])]),
  (53, [(.aload_n 0, []), (.aload_n 0, []), (.getfield 55, [10, 23, 956, 2]), (.iconst 0, []), (.iload_n 3, []), (.invokevirtual 185, [172, 1143, 0, 4, 1, 10])]),
  (63, [(.istore 4, []), (.aload_n 0, []), (.aload_n 0, []), (.getfield 55, [10, 23, 956, 2]), (.iload 4, []), (.aload_n 0, []), (.getfield 64, [10, 26, 959, 2]), (.iconst 0, []), (.invokevirtual 181, [175, 1151, 0, 5, 0, 10])]),
  (80, [(.iconst 0, []), (.istore 5, [])]),
  (83, [(.iload 5, []), (.iload 4, []), (.if_icmp .ge 30, [117]), (.aload_n 0, []), (.getfield 46, [10, 17, 950, 2]), (.bipush 40, []), (.iload_n 1, []), (.imul, []), (.iload_n 2, []), (.iadd, []), (.iload 5, []), (.iadd, []), (.aload_n 0, []), (.getfield 64, [10, 26, 959, 2]), (.iload 5, []), (.iaload, []), (.iastore, []), (.iinc 5 1, []), (.goto (-31), [83])]),
  (117, [(.iload 4, []), (.ireturn, [])])]
def zc_mo_judge : List (Nat × List zIns) := [
  (0, [(.iload_n 1, []), (.invokestatic 247, [210, 1302, 1, 1, 4, 10])]),
  (4, [(.ifCond .eq 11, [15]), (.aload_n 0, []), (.iload_n 2, []), (.invokevirtual 170, [150, 1131, 0, 2, 4, 10])]),
  (12, [(.ifCond .ne 9, [21])]),
  (15, [(.aload_n 0, []), (.iconst (-1), []), (.invokevirtual 102, [147, 1046, 0, 2, 1, 10])]),
  (20, [(.ireturn, [])]),
  (21, [(.aload_n 0, []), (.getfield 43, [10, 16, 949, 2]), (.iload_n 1, []), (.iaload, []), (.bipush (-9), []), (.if_icmp .ne 6, [35]), (.bipush (-11), []), (.ireturn, [])]),
  (35, [(.iconst 0, []), (.istore_n 3, [])]),
  (37, [(.iload_n 3, []), (.aload_n 0, []), (.getfield 43, [10, 16, 949, 2]), (.iload_n 1, []), (.iaload, []), (.if_icmp .ge 46, [90]), (.iload_n 3, []), (.aload_n 0, []), (.getfield 16, [10, 3, 936, 2]), (.iload_n 2, []), (.iaload, []), (.if_icmp .ge 28, [82]), (.aload_n 0, []), (.getfield 46, [10, 17, 950, 2]), (.bipush 40, []), (.iload_n 1, []), (.imul, []), (.iload_n 3, []), (.iadd, []), (.iaload, []), (.aload_n 0, []), (.getfield 19, [10, 4, 937, 2]), (.bipush 14, []), (.iload_n 2, []), (.imul, []), (.iload_n 3, []), (.iadd, []), (.iaload, []), (.if_icmp .eq 5, [84])]),
  (82, [(.iload_n 3, []), (.ireturn, [])]),
  (84, [(.iinc 3 1, []), (.goto (-50), [37])]),
  (90, [(.bipush (-9), []), (.ireturn, [])])]
def zc_mo_undo : List (Nat × List zIns) := [
  (0, [(.aload_n 0, []), (.getfield 109, [10, 8, 941, 0]), (.ifCond .ne 10, [14]), (.aload_n 0, []), (.bipush (-3), []), (.invokevirtual 102, [147, 1046, 0, 2, 1, 10])]),
  (13, [(.ireturn, [])]),
  (14, [(.aload_n 0, []), (.dup, []), (.getfield 109, [10, 8, 941, 0]), (.iconst 1, []), (.isub, []), (.putfield 109, [10, 8, 941, 0]), (.iconst 0, []), (.istore_n 1, [])]),
  (26, [(.iload_n 1, []), (.bipush 6, []), (.if_icmp .ge 52, [81]), (.aload_n 0, []), (.getfield 9, [10, 0, 933, 2]), (.iload_n 1, []), (.aload_n 0, []), (.getfield 28, [10, 9, 942, 2]), (.bipush 12, []), (.aload_n 0, []), (.getfield 109, [10, 8, 941, 0]), (.imul, []), (.iload_n 1, []), (.iadd, []), (.iaload, []), (.iastore, []), (.aload_n 0, []), (.getfield 13, [10, 1, 934, 2]), (.iload_n 1, []), (.aload_n 0, []), (.getfield 28, [10, 9, 942, 2]), (.bipush 12, []), (.aload_n 0, []), (.getfield 109, [10, 8, 941, 0]), (.imul, []), (.bipush 6, []), (.iadd, []), (.iload_n 1, []), (.iadd, []), (.iaload, []), (.iastore, []), (.iinc 1 1, []), (.goto (-52), [26])]),
  (81, [(.aload_n 0, []), (.getfield 109, [10, 8, 941, 0]), (.ireturn, [])])]
def zc_mo_copies_ : List (Nat × List zIns) := [
  (0, [(.iconst 0, []), (.istore_n 2, [])]),
  (2, [(.iload_n 2, []), (.aload_n 1, []), (.arraylength, []), (.if_icmp .ge 15, [20]), (.aload_n 1, []), (.iload_n 2, []), (.aload_n 0, []), (.iload_n 2, []), (.iaload, []), (.iastore, []), (.iinc 2 1, []), (.goto (-15), [2])]),
  (20, [(.return_, [])])]
def zc_mo_image : List (Nat × List zIns) := [
  (0, [(.aload_n 0, []), (.getfield 9, [10, 0, 933, 2]), (.aload_n 0, []), (.getfield 31, [10, 12, 945, 2]), (.invokestatic 257, [219, 1339, 1, 2, 0, 10])]),
  (11, [(.aload_n 0, []), (.getfield 13, [10, 1, 934, 2]), (.aload_n 0, []), (.getfield 34, [10, 13, 946, 2]), (.invokestatic 257, [219, 1339, 1, 2, 0, 10])]),
  (22, [(.aload_n 0, []), (.getfield 16, [10, 3, 936, 2]), (.aload_n 0, []), (.getfield 37, [10, 14, 947, 2]), (.invokestatic 257, [219, 1339, 1, 2, 0, 10])]),
  (33, [(.aload_n 0, []), (.getfield 19, [10, 4, 937, 2]), (.aload_n 0, []), (.getfield 40, [10, 15, 948, 2]), (.invokestatic 257, [219, 1339, 1, 2, 0, 10])]),
  (44, [(.aload_n 0, []), (.aload_n 0, []), (.getfield 98, [10, 2, 935, 0]), (.putfield 261, [10, 11, 944, 0]), (.aload_n 0, []), (.iconst 1, []), (.putfield 264, [10, 10, 943, 1]), (.aload_n 0, []), (.getfield 98, [10, 2, 935, 0]), (.ireturn, [])])]
def zc_mo_on : List (Nat × List zIns) := [
  (0, [(.aload_n 0, []), (.getfield 264, [10, 10, 943, 1]), (.ifCond .ne 10, [14]), (.aload_n 0, []), (.bipush (-3), []), (.invokevirtual 102, [147, 1046, 0, 2, 1, 10])]),
  (13, [(.ireturn, [])]),
  (14, [(.aload_n 0, []), (.getfield 31, [10, 12, 945, 2]), (.aload_n 0, []), (.getfield 9, [10, 0, 933, 2]), (.invokestatic 257, [219, 1339, 1, 2, 0, 10])]),
  (25, [(.aload_n 0, []), (.getfield 34, [10, 13, 946, 2]), (.aload_n 0, []), (.getfield 13, [10, 1, 934, 2]), (.invokestatic 257, [219, 1339, 1, 2, 0, 10])]),
  (36, [(.aload_n 0, []), (.getfield 37, [10, 14, 947, 2]), (.aload_n 0, []), (.getfield 16, [10, 3, 936, 2]), (.invokestatic 257, [219, 1339, 1, 2, 0, 10])]),
  (47, [(.aload_n 0, []), (.getfield 40, [10, 15, 948, 2]), (.aload_n 0, []), (.getfield 19, [10, 4, 937, 2]), (.invokestatic 257, [219, 1339, 1, 2, 0, 10])]),
  (58, [(.aload_n 0, []), (.aload_n 0, []), (.getfield 261, [10, 11, 944, 0]), (.putfield 98, [10, 2, 935, 0]), (.aload_n 0, []), (.iconst 0, []), (.putfield 109, [10, 8, 941, 0]), (.aload_n 0, []), (.getfield 98, [10, 2, 935, 0]), (.ireturn, [])])]
def zc_mo_count : List (Nat × List zIns) := [
  (0, [(.iconst 0, []), (.istore_n 2, []), (.iload_n 1, []), (.tableswitch 120 0 4 #[33, 38, 43, 70, 115], [])]),
  (36, [(.aload_n 0, []), (.getfield 98, [10, 2, 935, 0]), (.ireturn, [])]),
  (41, [(.aload_n 0, []), (.getfield 106, [10, 7, 940, 0]), (.ireturn, [])]),
  (46, [(.iconst 0, []), (.istore_n 3, [])]),
  (48, [(.iload_n 3, []), (.aload_n 0, []), (.getfield 98, [10, 2, 935, 0]), (.if_icmp .ge 18, [71]), (.iload_n 2, []), (.aload_n 0, []), (.getfield 16, [10, 3, 936, 2]), (.iload_n 3, []), (.iaload, []), (.iadd, []), (.istore_n 2, []), (.iinc 3 1, []), (.goto (-20), [48])]),
  (71, [(.iload_n 2, []), (.ireturn, [])]),
  (73, [(.iconst 0, []), (.istore_n 3, [])]),
  (75, [(.iload_n 3, []), (.bipush 6, []), (.if_icmp .ge 38, [116]), (.iconst 0, []), (.istore 4, [])]),
  (84, [(.iload 4, []), (.iload_n 3, []), (.if_icmp .ge 23, [110]), (.iload_n 2, []), (.aload_n 0, []), (.getfield 9, [10, 0, 933, 2]), (.iload_n 3, []), (.iaload, []), (.iload 4, []), (.ishr, []), (.iconst 1, []), (.iand, []), (.iadd, []), (.istore_n 2, []), (.iinc 4 1, []), (.goto (-23), [84])]),
  (110, [(.iinc 3 1, []), (.goto (-38), [75])]),
  (116, [(.iload_n 2, []), (.ireturn, [])]),
  (118, [(.aload_n 0, []), (.getfield 109, [10, 8, 941, 0]), (.ireturn, [])]),
  (123, [(.iload_n 1, []), (.bipush 11, []), (.bipush 16, []), (.invokestatic 94, [146, 1060, 1, 3, 4, 10])]),
  (131, [(.ifCond .eq 15, [146]), (.aload_n 0, []), (.getfield 22, [10, 5, 938, 2]), (.iload_n 1, []), (.bipush 10, []), (.isub, []), (.iaload, []), (.goto 5, [148])]),
  (146, [(.bipush (-9), [])]),
  (148, [(.ireturn, [])])]
def zc_jd_numberOfTrailingZeros : List (Nat × List zIns) := [
  (0, [(.iload_n 0, []), (.iconst (-1), []), (.ixor, []), (.iload_n 0, []), (.iconst 1, []), (.isub, []), (.iand, []), (.istore_n 0, []), (.iload_n 0, []), (.ifCond .gt 8, [17]), (.iload_n 0, []), (.bipush 32, []), (.iand, []), (.ireturn, [])]),
  (17, [(.iconst 1, []), (.istore_n 1, []), (.iload_n 0, []), (.ldc_w 264, [65536, 602]), (.if_icmp .le 11, [34]), (.iinc 1 16, []), (.iload_n 0, []), (.bipush 16, []), (.iushr, []), (.istore_n 0, [])]),
  (34, [(.iload_n 0, []), (.sipush 256, []), (.if_icmp .le 11, [49]), (.iinc 1 8, []), (.iload_n 0, []), (.bipush 8, []), (.iushr, []), (.istore_n 0, [])]),
  (49, [(.iload_n 0, []), (.bipush 16, []), (.if_icmp .le 10, [62]), (.iinc 1 4, []), (.iload_n 0, []), (.iconst 4, []), (.iushr, []), (.istore_n 0, [])]),
  (62, [(.iload_n 0, []), (.iconst 4, []), (.if_icmp .le 10, [74]), (.iinc 1 2, []), (.iload_n 0, []), (.iconst 2, []), (.iushr, []), (.istore_n 0, [])]),
  (74, [(.iload_n 1, []), (.iload_n 0, []), (.iconst 1, []), (.iushr, []), (.iadd, []), (.ireturn, [])])]
def zc_jd_bitCount : List (Nat × List zIns) := [
  (0, [(.iload_n 0, []), (.iload_n 0, []), (.iconst 1, []), (.iushr, []), (.ldc_w 265, [1431655765, 592]), (.iand, []), (.isub, []), (.istore_n 0, []), (.iload_n 0, []), (.ldc_w 266, [858993459, 593]), (.iand, []), (.iload_n 0, []), (.iconst 2, []), (.iushr, []), (.ldc_w 266, [858993459, 593]), (.iand, []), (.iadd, []), (.istore_n 0, []), (.iload_n 0, []), (.iload_n 0, []), (.iconst 4, []), (.iushr, []), (.iadd, []), (.ldc_w 267, [252645135, 594]), (.iand, []), (.istore_n 0, []), (.iload_n 0, []), (.iload_n 0, []), (.bipush 8, []), (.iushr, []), (.iadd, []), (.istore_n 0, []), (.iload_n 0, []), (.iload_n 0, []), (.bipush 16, []), (.iushr, []), (.iadd, []), (.istore_n 0, []), (.iload_n 0, []), (.bipush 63, []), (.iand, []), (.ireturn, [])])]
def zcd : List (List (Nat × List zIns)) := [zc_be_init, zc_be_arrange, zc_be_turnToBeTaken, zc_be_sameKind, zc_be_layBlocks, zc_be_takeBeginning, zc_be_takeCommon, zc_be_takeRoot, zc_be_isPower, zc_be_takeShare, zc_hi_init, zc_hi_size, zc_hi_clear, zc_hi_remember, zc_hi_takeBack, zc_la_init, zc_la_passedBy, zc_la_rankOf, zc_la_letPass, zc_la_flip, zc_la_swapRanks, zc_la_copy, zc_la_same, zc_la_howManyPairs, zc_la_readyLetters, zc_la_howManyLow, zc_la_howManyTied, zc_la_partOf, zc_la_howManyParts, zc_la_isFree, zc_la_howManyFree, zc_la_drawLots, zc_nu_init, zc_nu_lacks, zc_nu_row, zc_nu_begin, zc_pa_init, zc_pa_told, zc_pa_readWord, zc_pa_takeSign, zc_pa_takeOpening, zc_pa_takeClosing, zc_pa_takeTimes, zc_pa_readRules, zc_pa_change, zc_pa_isLetter, zc_ro_init, zc_ro_size, zc_ro_get, zc_ro_set, zc_ro_has, zc_ro_clear, zc_ro_shorten, zc_ro_add, zc_ro_insert, zc_ro_addTimes, zc_ro_append, zc_ro_appendPiece, zc_ro_appendTimes, zc_ro_appendOnly, zc_ro_copy, zc_ro_overwrite, zc_ro_swapWithNext, zc_ro_removeFirst, zc_ro_placeOfTime, zc_ro_timesOf, zc_ro_letters, zc_ro_isWord, zc_ro_same, zc_ro_firstOther, zc_ro_howManyOther, zc_sh_init, zc_sh_size, zc_sh_isFull, zc_sh_row, zc_sh_place, zc_sh_removeLast, zc_sh_copy, zc_sh_allLetters, zc_ta_init, zc_ta_countAlike, zc_ta_prepare, zc_ta_goOn, zc_ta_countUnlike, zc_tu_init, zc_tu_found, zc_tu_explore, zc_tu_moveAll, zc_tu_note, zc_tu_find, zc_tu_sortCodes, zc_tu_letterOf, zc_tu_movesTo, zc_tu_codeOf, zc_tu_decode, zc_lt_init, zc_lt_letter, zc_lt_passes, zc_lt_ranks, zc_lt_of, zc_lt_rules, zc_lt_word, zc_lt_at, zc_lt_drop, zc_lt_alike, zc_lt_blocks, zc_lt_least, zc_lt_copies, zc_lt_seen, zc_lt_spread, zc_lt_odds, zc_lt_begins, zc_lt_common, zc_lt_product, zc_lt_power, zc_lt_changes, zc_lt_root, zc_lt_parts, zc_lt_turned, zc_lt_turn, zc_lt_apart, zc_lt_unlike, zc_lt_free, zc_lt_lots, zc_lt_list, zc_lt_put, zc_lt_look, zc_lt_from, zc_lt_lays, zc_lt_judge, zc_lt_undo, zc_lt_image, zc_lt_on, zc_lt_count, zc_lt_refuse, zc_lt_refuseFar, zc_lt_noWord, zc_lt_tooLongToTurn, zc_lt_noLetter, zc_lt_notTwoLetters, zc_lt_noList, zc_lt_noSuch, zc_lt_answer, zc_lt_sizeOrCell, zc_lt_commonDivisor, zc_mo_init, zc_mo_isIn, zc_mo_no, zc_mo_noLong, zc_mo_isLetter, zc_mo_isWord, zc_mo_passes_, zc_mo_letter, zc_mo_remembers, zc_mo_turns, zc_mo_swaps, zc_mo_areTwo, zc_mo_passes, zc_mo_ranks, zc_mo_of, zc_mo_here, zc_mo_fails, zc_mo_isSign, zc_mo_rule, zc_mo_rules, zc_mo_makes, zc_mo_times, zc_mo_reads, zc_mo_comes, zc_mo_word, zc_mo_at, zc_mo_drop, zc_mo_loads, zc_mo_isReady, zc_mo_goes, zc_mo_takes, zc_mo_areAlike, zc_mo_alike, zc_mo_block, zc_mo_blocks, zc_mo_least, zc_mo_orders, zc_mo_copies, zc_mo_seen, zc_mo_spread, zc_mo_common_, zc_mo_odds, zc_mo_placeOf, zc_mo_begins, zc_mo_common, zc_mo_product, zc_mo_power, zc_mo_changes, zc_mo_rootBy, zc_mo_isRoot, zc_mo_root, zc_mo_stands, zc_mo_partOf, zc_mo_parts, zc_mo_numberOf, zc_mo_lays_, zc_mo_finds, zc_mo_turnsAll, zc_mo_turned, zc_mo_turn, zc_mo_apart, zc_mo_isFree, zc_mo_unlike, zc_mo_free, zc_mo_lots, zc_mo_isList, zc_mo_list, zc_mo_put, zc_mo_look, zc_mo_areThere, zc_mo_from, zc_mo_lays, zc_mo_judge, zc_mo_undo, zc_mo_copies_, zc_mo_image, zc_mo_on, zc_mo_count, zc_jd_numberOfTrailingZeros, zc_jd_bitCount]
/-- kind of the answer, values taken from the stack; places of the words: code, instance or static, selects, initialized; the class; static -/
def zmt : List (List Nat) := [
  [0, 2, 183, 182, 0, 58, 0, 0],
  [0, 4, 517, 515, 516, 58, 0, 0],
  [1, 4, 524, 523, 6, 58, 0, 0],
  [4, 3, 512, 510, 511, 58, 0, 0],
  [0, 3, 547, 545, 546, 58, 0, 0],
  [4, 4, 641, 639, 640, 58, 0, 0],
  [0, 4, 649, 647, 648, 58, 0, 0],
  [1, 3, 681, 679, 680, 58, 0, 0],
  [4, 4, 685, 684, 10, 58, 0, 0],
  [0, 3, 692, 691, 0, 58, 0, 1],
  [0, 1, 122, 121, 0, 55, 1, 0],
  [1, 1, 892, 890, 891, 55, 1, 0],
  [0, 1, 912, 910, 911, 55, 1, 0],
  [0, 2, 348, 346, 347, 55, 1, 0],
  [0, 2, 896, 894, 895, 55, 1, 0],
  [0, 1, 75, 74, 0, 51, 2, 0],
  [1, 2, 368, 366, 367, 51, 2, 0],
  [1, 2, 384, 382, 383, 51, 2, 0],
  [4, 3, 364, 362, 363, 51, 2, 0],
  [0, 3, 359, 357, 358, 51, 2, 0],
  [0, 3, 380, 378, 379, 51, 2, 0],
  [0, 2, 352, 350, 351, 51, 2, 0],
  [4, 2, 732, 730, 731, 51, 2, 0],
  [1, 1, 925, 923, 924, 51, 2, 0],
  [1, 2, 551, 549, 550, 51, 2, 0],
  [1, 2, 630, 628, 629, 51, 2, 0],
  [1, 4, 620, 618, 619, 51, 2, 0],
  [1, 3, 709, 707, 708, 51, 2, 0],
  [1, 2, 705, 703, 704, 51, 2, 0],
  [4, 2, 791, 789, 790, 51, 2, 0],
  [1, 1, 799, 797, 798, 51, 2, 0],
  [1, 4, 808, 806, 807, 51, 2, 0],
  [0, 1, 164, 163, 0, 57, 3, 0],
  [4, 2, 849, 847, 848, 57, 3, 0],
  [3, 2, 853, 851, 852, 57, 3, 0],
  [0, 3, 835, 833, 834, 57, 3, 0],
  [0, 1, 143, 142, 0, 56, 4, 0],
  [3, 1, 461, 459, 460, 56, 4, 0],
  [1, 2, 426, 424, 425, 56, 4, 0],
  [4, 2, 431, 430, 1, 56, 4, 0],
  [4, 1, 453, 452, 3, 56, 4, 0],
  [4, 1, 457, 456, 4, 56, 4, 0],
  [4, 2, 436, 435, 2, 56, 4, 0],
  [1, 3, 401, 399, 400, 56, 4, 0],
  [0, 4, 412, 411, 0, 56, 4, 1],
  [4, 1, 409, 408, 0, 56, 4, 1],
  [0, 2, 96, 95, 0, 53, 5, 0],
  [1, 1, 330, 328, 329, 53, 5, 0],
  [1, 2, 406, 404, 405, 53, 5, 0],
  [0, 3, 820, 818, 819, 53, 5, 0],
  [4, 3, 448, 446, 447, 53, 5, 0],
  [0, 1, 418, 416, 417, 53, 5, 0],
  [0, 2, 440, 438, 439, 53, 5, 0],
  [0, 2, 334, 332, 333, 53, 5, 0],
  [0, 3, 530, 528, 529, 53, 5, 0],
  [0, 3, 841, 839, 840, 53, 5, 0],
  [0, 2, 659, 657, 658, 53, 5, 0],
  [0, 4, 444, 442, 443, 53, 5, 0],
  [0, 3, 668, 666, 667, 53, 5, 0],
  [0, 3, 610, 608, 609, 53, 5, 0],
  [0, 2, 474, 472, 473, 53, 5, 0],
  [0, 3, 879, 877, 878, 53, 5, 0],
  [0, 2, 816, 814, 815, 53, 5, 0],
  [0, 2, 557, 555, 556, 53, 5, 0],
  [1, 3, 561, 559, 560, 53, 5, 0],
  [1, 2, 689, 687, 688, 53, 5, 0],
  [1, 1, 701, 699, 700, 53, 5, 0],
  [4, 1, 870, 868, 869, 53, 5, 0],
  [4, 2, 534, 532, 533, 53, 5, 0],
  [1, 2, 538, 536, 537, 53, 5, 0],
  [1, 2, 824, 822, 823, 53, 5, 0],
  [0, 1, 89, 88, 0, 52, 6, 0],
  [1, 1, 488, 486, 487, 52, 6, 0],
  [4, 1, 465, 463, 464, 52, 6, 0],
  [3, 2, 492, 490, 491, 52, 6, 0],
  [1, 2, 469, 467, 468, 52, 6, 0],
  [0, 1, 504, 502, 503, 52, 6, 0],
  [0, 2, 904, 902, 903, 52, 6, 0],
  [1, 1, 920, 918, 919, 52, 6, 0],
  [0, 1, 204, 203, 0, 59, 7, 0],
  [2, 3, 580, 578, 579, 59, 7, 0],
  [1, 3, 585, 584, 8, 59, 7, 0],
  [0, 3, 598, 597, 9, 59, 7, 0],
  [2, 4, 786, 784, 785, 59, 7, 0],
  [0, 3, 233, 232, 0, 60, 8, 0],
  [1, 1, 762, 760, 761, 60, 8, 0],
  [0, 2, 722, 720, 721, 60, 8, 0],
  [0, 2, 745, 744, 14, 60, 8, 0],
  [0, 3, 737, 736, 12, 60, 8, 0],
  [1, 2, 741, 740, 13, 60, 8, 0],
  [0, 1, 758, 757, 16, 60, 8, 0],
  [1, 3, 770, 768, 769, 60, 8, 0],
  [1, 2, 778, 776, 777, 60, 8, 0],
  [1, 1, 726, 725, 0, 60, 8, 1],
  [0, 2, 749, 748, 15, 60, 8, 0],
  [0, 1, 67, 66, 0, 50, 9, 0],
  [1, 2, 322, 320, 321, 50, 9, 0],
  [1, 3, 338, 336, 337, 50, 9, 0],
  [1, 3, 376, 374, 375, 50, 9, 0],
  [1, 3, 388, 386, 387, 50, 9, 0],
  [1, 1, 396, 394, 395, 50, 9, 0],
  [1, 1, 422, 420, 421, 50, 9, 0],
  [1, 3, 480, 478, 479, 50, 9, 0],
  [1, 1, 500, 498, 499, 50, 9, 0],
  [1, 3, 508, 506, 507, 50, 9, 0],
  [1, 3, 543, 541, 542, 50, 9, 0],
  [1, 4, 566, 564, 565, 50, 9, 0],
  [2, 2, 571, 569, 570, 50, 9, 0],
  [1, 5, 606, 604, 605, 50, 9, 0],
  [1, 5, 615, 613, 614, 50, 9, 0],
  [2, 3, 624, 622, 623, 50, 9, 0],
  [1, 4, 637, 635, 636, 50, 9, 0],
  [1, 4, 645, 643, 644, 50, 9, 0],
  [1, 3, 654, 652, 653, 50, 9, 0],
  [1, 3, 663, 661, 662, 50, 9, 0],
  [1, 3, 673, 671, 672, 50, 9, 0],
  [1, 3, 677, 675, 676, 50, 9, 0],
  [1, 3, 697, 695, 696, 50, 9, 0],
  [1, 2, 714, 712, 713, 50, 9, 0],
  [1, 4, 766, 764, 765, 50, 9, 0],
  [1, 3, 774, 772, 773, 50, 9, 0],
  [2, 3, 782, 780, 781, 50, 9, 0],
  [1, 1, 795, 793, 794, 50, 9, 0],
  [1, 5, 804, 802, 803, 50, 9, 0],
  [1, 3, 828, 826, 827, 50, 9, 0],
  [1, 4, 845, 843, 844, 50, 9, 0],
  [2, 3, 859, 857, 858, 50, 9, 0],
  [1, 4, 865, 863, 864, 50, 9, 0],
  [1, 4, 875, 873, 874, 50, 9, 0],
  [1, 3, 883, 881, 882, 50, 9, 0],
  [1, 1, 888, 886, 887, 50, 9, 0],
  [1, 1, 900, 898, 899, 50, 9, 0],
  [1, 1, 908, 906, 907, 50, 9, 0],
  [1, 2, 916, 914, 915, 50, 9, 0],
  [1, 2, 326, 325, 0, 50, 9, 0],
  [2, 2, 575, 574, 7, 50, 9, 0],
  [4, 2, 484, 483, 5, 50, 9, 0],
  [4, 2, 718, 717, 11, 50, 9, 0],
  [4, 1, 344, 343, 0, 50, 9, 1],
  [4, 2, 341, 340, 0, 50, 9, 1],
  [4, 1, 831, 830, 0, 50, 9, 1],
  [4, 1, 391, 390, 0, 50, 9, 1],
  [1, 1, 372, 371, 0, 50, 9, 1],
  [1, 2, 495, 494, 0, 50, 9, 1],
  [1, 2, 633, 632, 0, 50, 9, 1],
  [0, 1, 931, 930, 0, 61, 10, 0],
  [4, 3, 1062, 1061, 0, 61, 10, 1],
  [1, 2, 1049, 1048, 17, 61, 10, 0],
  [2, 2, 1181, 1180, 36, 61, 10, 0],
  [4, 1, 1059, 1058, 0, 61, 10, 1],
  [4, 2, 1134, 1133, 30, 61, 10, 0],
  [4, 3, 1074, 1073, 20, 61, 10, 0],
  [1, 2, 1045, 1043, 1044, 61, 10, 0],
  [0, 1, 1066, 1065, 18, 61, 10, 0],
  [0, 3, 1070, 1069, 19, 61, 10, 0],
  [0, 3, 1082, 1081, 21, 61, 10, 0],
  [4, 2, 1056, 1055, 0, 61, 10, 1],
  [1, 3, 1053, 1051, 1052, 61, 10, 0],
  [1, 3, 1078, 1076, 1077, 61, 10, 0],
  [1, 3, 1086, 1084, 1085, 61, 10, 0],
  [1, 1, 1098, 1097, 23, 61, 10, 0],
  [0, 1, 1106, 1105, 25, 61, 10, 0],
  [4, 1, 1102, 1101, 24, 61, 10, 0],
  [0, 2, 1094, 1093, 22, 61, 10, 0],
  [1, 1, 1090, 1088, 1089, 61, 10, 0],
  [0, 2, 1118, 1117, 27, 61, 10, 0],
  [0, 2, 1122, 1121, 28, 61, 10, 0],
  [0, 2, 1114, 1113, 26, 61, 10, 0],
  [1, 3, 1126, 1125, 29, 61, 10, 0],
  [1, 1, 1110, 1108, 1109, 61, 10, 0],
  [1, 3, 1130, 1128, 1129, 61, 10, 0],
  [1, 1, 1138, 1136, 1137, 61, 10, 0],
  [1, 4, 1146, 1145, 31, 61, 10, 0],
  [4, 3, 1158, 1157, 34, 61, 10, 0],
  [0, 3, 1161, 1160, 0, 61, 10, 1],
  [0, 5, 1154, 1153, 33, 61, 10, 0],
  [4, 4, 1150, 1149, 32, 61, 10, 0],
  [1, 3, 1142, 1140, 1141, 61, 10, 0],
  [1, 2, 1169, 1168, 35, 61, 10, 0],
  [1, 3, 1165, 1163, 1164, 61, 10, 0],
  [1, 4, 1173, 1171, 1172, 61, 10, 0],
  [0, 2, 1186, 1185, 37, 61, 10, 0],
  [2, 2, 1177, 1175, 1176, 61, 10, 0],
  [1, 5, 1190, 1188, 1189, 61, 10, 0],
  [1, 5, 1194, 1192, 1193, 61, 10, 0],
  [2, 2, 1201, 1200, 0, 61, 10, 1],
  [2, 3, 1198, 1196, 1197, 61, 10, 0],
  [1, 4, 1209, 1208, 38, 61, 10, 0],
  [1, 4, 1205, 1203, 1204, 61, 10, 0],
  [1, 4, 1213, 1211, 1212, 61, 10, 0],
  [1, 3, 1217, 1215, 1216, 61, 10, 0],
  [1, 3, 1221, 1219, 1220, 61, 10, 0],
  [1, 3, 1226, 1224, 1225, 61, 10, 0],
  [1, 3, 1234, 1233, 39, 61, 10, 0],
  [4, 4, 1238, 1237, 40, 61, 10, 0],
  [1, 3, 1230, 1228, 1229, 61, 10, 0],
  [1, 2, 1246, 1245, 41, 61, 10, 0],
  [1, 3, 1250, 1249, 42, 61, 10, 0],
  [1, 3, 1242, 1240, 1241, 61, 10, 0],
  [1, 3, 1262, 1261, 44, 61, 10, 0],
  [0, 4, 1270, 1269, 46, 61, 10, 0],
  [0, 3, 1266, 1265, 45, 61, 10, 0],
  [0, 2, 1258, 1257, 43, 61, 10, 0],
  [1, 2, 1254, 1252, 1253, 61, 10, 0],
  [1, 4, 1274, 1272, 1273, 61, 10, 0],
  [1, 3, 1278, 1276, 1277, 61, 10, 0],
  [4, 2, 1286, 1285, 47, 61, 10, 0],
  [2, 3, 1282, 1280, 1281, 61, 10, 0],
  [1, 1, 1290, 1288, 1289, 61, 10, 0],
  [1, 5, 1294, 1292, 1293, 61, 10, 0],
  [4, 1, 1304, 1303, 0, 61, 10, 1],
  [1, 3, 1301, 1299, 1300, 61, 10, 0],
  [1, 4, 1308, 1306, 1307, 61, 10, 0],
  [2, 3, 1312, 1310, 1311, 61, 10, 0],
  [4, 4, 1322, 1321, 48, 61, 10, 0],
  [1, 4, 1318, 1316, 1317, 61, 10, 0],
  [1, 4, 1326, 1324, 1325, 61, 10, 0],
  [1, 3, 1330, 1328, 1329, 61, 10, 0],
  [1, 1, 1334, 1332, 1333, 61, 10, 0],
  [0, 2, 1341, 1340, 0, 61, 10, 1],
  [1, 1, 1338, 1336, 1337, 61, 10, 0],
  [1, 1, 1345, 1343, 1344, 61, 10, 0],
  [1, 2, 1349, 1347, 1348, 61, 10, 0],
  [1, 1, 601, 600, 0, 62, 99, 1],
  [1, 1, 591, 590, 0, 62, 99, 1]]
/-- which fields are ints (0), booleans (1), references (2) -/
def zFT : List (List Nat) := [[2, 2, 2, 2], [2, 0, 0], [2, 2], [2, 2, 2], [2, 2, 0, 0], [2, 0], [2, 2, 0], [2, 2, 2, 2, 2, 2, 2], [2, 2, 2, 2, 2, 2, 2, 2, 0, 0], [2, 2, 2, 2, 2, 2, 1, 2, 2, 2, 2, 2, 2, 2, 2, 2], [2, 2, 0, 2, 2, 2, 2, 0, 0, 2, 1, 0, 2, 2, 2, 2, 2, 2, 0, 0, 2, 0, 2, 2, 2, 2, 2, 2, 2, 2, 2, 2, 2, 0, 2, 2]]
end
section
/-! a small machine over the same code: ints as whole numbers, cells by their numbers, the heap's ints and longs as tables -/
abbrev zV : Type := Int ⊕ (Int ⊕ (Nat ⊕ Unit))
abbrev zI (x : Int) : zV := Sum.inl x
abbrev zL (x : Int) : zV := Sum.inr (Sum.inl x)
abbrev zR (k : Nat) : zV := Sum.inr (Sum.inr (Sum.inl k))
abbrev zN : zV := Sum.inr (Sum.inr (Sum.inr ()))
abbrev zSh : Type := List (Nat × Nat × List (Option Nat))
abbrev zM : Type := Nat → Nat → Int
abbrev zW : Type := zSh × zM × zM
abbrev zMS : Type := List zV × List zV × zW
def zck (c : Prop) [Decidable c] (k : Prop) : Prop := if c then k else False
theorem zck_i {c k : Prop} [Decidable c] (h : c) (hk : k) : zck c k := by unfold zck; rw [if_pos h]; exact hk
theorem zck_e {c k : Prop} [Decidable c] (h : zck c k) : c ∧ k := by
  unfold zck at h
  split at h
  · next hc => exact ⟨hc, h⟩
  · exact absurd h id
/-- a check that the kernel can do -/
def zkb (c : Bool) (k : Prop) : Prop := match c with
  | true => k
  | false => False
theorem zkb_e {c : Bool} {k : Prop} (h : zkb c k) : c = true ∧ k := by
  cases c
  · exact absurd h id
  · exact ⟨rfl, h⟩
def zkq (a b : Nat) (k : Prop) : Prop := zkb (Nat.beq a b) k
theorem zkq_e {a b : Nat} {k : Prop} (h : zkq a b k) : a = b ∧ k := ⟨Nat.eq_of_beq_eq_true (zkb_e h).1, (zkb_e h).2⟩
theorem zkq_i {a b : Nat} {k : Prop} (h : a = b) (hk : k) : zkq a b k := by
  subst h
  unfold zkq
  rw [Nat.beq_refl]
  exact hk
def zom (o : Option Nat) (k : Nat → Prop) : Prop := match o with
  | some q => k q
  | none => False
def zwr (x : Int) : Int := (Int32.ofInt x).toInt
def zwl (x : Int) : Int := (Int64.ofInt x).toInt
def zand (x y : Int) : Int := (Int32.ofInt x &&& Int32.ofInt y).toInt
def zor (x y : Int) : Int := (Int32.ofInt x ||| Int32.ofInt y).toInt
def zxor (x y : Int) : Int := (Int32.ofInt x ^^^ Int32.ofInt y).toInt
def zshl (x y : Int) : Int := (Int32.ofInt x <<< (Int32.ofInt y &&& 31)).toInt
def zshr (x y : Int) : Int := (Int32.ofInt x >>> (Int32.ofInt y &&& 31)).toInt
def zushr (x y : Int) : Int := ((Int32.ofInt x).toUInt32 >>> ((Int32.ofInt y).toUInt32 &&& Int32.toUInt32 31)).toInt32.toInt
def zdiv (x y : Int) : Int := (Int32.ofInt x / Int32.ofInt y).toInt
def zrem (x y : Int) : Int := (Int32.ofInt x - Int32.ofInt x / Int32.ofInt y * Int32.ofInt y).toInt
def zldiv (x y : Int) : Int := (Int64.ofInt x / Int64.ofInt y).toInt
def zlrem (x y : Int) : Int := (Int64.ofInt x - Int64.ofInt x / Int64.ofInt y * Int64.ofInt y).toInt
def zmax (x y : Int) : Int := max x y
def zmin (x y : Int) : Int := min x y
def zcmp (x y : Int) : Int := if y < x then 1 else if x = y then 0 else -1
def zmu (M : zM) (k j : Nat) (v : Int) : zM := fun a b => if a = k ∧ b = j then v else M a b
def zmz (M : zM) (k : Nat) : zM := fun a b => if a = k then 0 else M a b
def zkd (σ : zSh) (k : Nat) : Nat := match σ[k]? with
  | some e => e.1
  | none => 99
def zln (σ : zSh) (k : Nat) : Int := match σ[k]? with
  | some e => (e.2.1 : Int)
  | none => 0
def zrf (σ : zSh) (k j : Nat) : Option Nat := match σ[k]? with
  | some e => (e.2.2[j]?).join
  | none => none
def zsr (σ : zSh) (k j q : Nat) : zSh := match σ[k]? with
  | some e => σ.set k (e.1, e.2.1, e.2.2.set j (some q))
  | none => σ
def znf (ci : Nat) : Nat := (zFT.getD ci []).length
def zft (ci j : Nat) : Nat := (zFT.getD ci []).getD j 0
def zsz1 (e : Nat × Nat × List (Option Nat)) : Nat := if e.1 < 20 then znf e.1 else e.2.1
def zsz : zSh → Nat
  | [] => 0
  | e :: σ => zsz1 e + zsz σ
/-- the words by their places: table by table, for the kernel's sake -/
def ztb (i : Nat) : Option Jvm.Cond :=
  if i < 16 then (lw_privs_1[i]?).map (fun q => .selects q.1.cls q.1 q.1)
  else if i < 32 then (lw_privs_2[i - 16]?).map (fun q => .selects q.1.cls q.1 q.1)
  else if i < 48 then (lw_privs_3[i - 32]?).map (fun q => .selects q.1.cls q.1 q.1)
  else if i < 49 then (lw_privs_4[i - 48]?).map (fun q => .selects q.1.cls q.1 q.1)
  else if i < 289 then tables_1_1[i - 49]?
  else if i < 529 then tables_1_2[i - 289]?
  else if i < 769 then tables_1_3[i - 529]?
  else if i < 1009 then tables_1_4[i - 769]?
  else if i < 1249 then tables_1_5[i - 1009]?
  else if i < 1350 then tables_1_6[i - 1249]?
  else none
theorem ztb_in {i : Nat} {w : Jvm.Cond} (h : ztb i = some w) : w ∈ lw_tbl := by
  have hs : ∀ (L : List (MethodName × Nat)) (j : Nat), (∀ q ∈ L, q ∈ lw_privs) → (L[j]?).map (fun q => Jvm.Cond.selects q.1.cls q.1 q.1) = some w → w ∈ lw_tbl := by
    intro L j hL hj
    cases hq : L[j]? with
    | none => rw [hq] at hj; cases hj
    | some q =>
      rw [hq] at hj
      cases hj
      exact List.mem_append_left _ (List.mem_map.mpr ⟨q, hL q (List.mem_of_getElem? hq), rfl⟩)
  unfold ztb at h
  split at h
  · exact hs _ _ (fun q hq => List.mem_append_left _ hq) h
  split at h
  · exact hs _ _ (fun q hq => List.mem_append_right _ (List.mem_append_left _ hq)) h
  split at h
  · exact hs _ _ (fun q hq => List.mem_append_right _ (List.mem_append_right _ (List.mem_append_left _ hq))) h
  split at h
  · exact hs _ _ (fun q hq => List.mem_append_right _ (List.mem_append_right _ (List.mem_append_right _ hq))) h
  split at h
  · exact List.mem_append_right _ (List.mem_append_left _ (List.mem_of_getElem? h))
  split at h
  · exact List.mem_append_right _ (List.mem_append_right _ (List.mem_append_left _ (List.mem_of_getElem? h)))
  split at h
  · exact List.mem_append_right _ (List.mem_append_right _ (List.mem_append_right _ (List.mem_append_left _ (List.mem_of_getElem? h))))
  split at h
  · exact List.mem_append_right _ (List.mem_append_right _ (List.mem_append_right _ (List.mem_append_right _ (List.mem_append_left _ (List.mem_of_getElem? h)))))
  split at h
  · exact List.mem_append_right _ (List.mem_append_right _ (List.mem_append_right _ (List.mem_append_right _ (List.mem_append_right _ (List.mem_append_left _ (List.mem_of_getElem? h))))))
  split at h
  · exact List.mem_append_right _ (List.mem_append_right _ (List.mem_append_right _ (List.mem_append_right _ (List.mem_append_right _ (List.mem_append_right _ (List.mem_of_getElem? h))))))
  · cases h
def zrow (μ j : Nat) : Nat := (zmt.getD μ []).getD j 0
def zcy (w : Option Jvm.Cond) : MethodName := match w with
  | some (.code y _ _ _) => y
  | _ => ⟨"", "", ""⟩
def zcc (w : Option Jvm.Cond) : ByteArray := match w with
  | some (.code _ c _ _) => c
  | _ => ⟨#[]⟩
def zcm (w : Option Jvm.Cond) : Nat := match w with
  | some (.code _ _ n _) => n
  | _ => 0
def zcr (w : Option Jvm.Cond) : Option FieldType := match w with
  | some (.code _ _ _ r) => r
  | _ => none
def zy (μ : Nat) : MethodName := zcy (ztb (zrow μ 2))
def zcode (μ : Nat) : ByteArray := zcc (ztb (zrow μ 2))
def zmaxL (μ : Nat) : Nat := zcm (ztb (zrow μ 2))
def zret (μ : Nat) : Option FieldType := zcr (ztb (zrow μ 2))
def zrk (μ : Nat) : Nat := zrow μ 0
def zblk (μ pc : Nat) : List zIns := ((zcd.getD μ []).lookup pc).getD []
def znol (v : zV) : zV := match v with
  | .inr (.inl _) => zN
  | v => v
/-- a store into the locals: a long that lay across the place is gone -/
def zset : List zV → Nat → zV → List zV
  | [], _, _ => []
  | _ :: l, 0, v => v :: l
  | a :: l, n + 1, v => (match n with
    | 0 => znol a
    | _ + 1 => a) :: zset l n v
def zset2 (l : List zV) (n : Nat) (v : zV) : List zV := (zset l n v).set (n + 1) zN
def zini : List zV → List zV
  | [] => []
  | .inr (.inl x) :: l => zL x :: zN :: zini l
  | v :: l => v :: zini l
/-- how many cells and slots a constructor makes; all others make none -/
def zalT : List (Nat × Nat × Nat) := [(m_be_init, 6, 90), (m_hi_init, 25, 120), (m_la_init, 2, 12), (m_nu_init, 10, 134), (m_pa_init, 3, 22), (m_sh_init, 13, 87), (m_ta_init, 7, 2638), (m_tu_init, 10, 224), (m_lt_init, 111, 3621), (m_mo_init, 27, 27354)]
def zal (μ : Nat) (a : List zV) : Nat × Nat := if μ = m_ro_init then (1, match a with
  | _ :: .inl x :: _ => x.toNat
  | _ => 0) else (zalT.lookup μ).getD (0, 0)
def zpu (v : zV) (S : zMS) (k : zMS → Prop) : Prop := k (S.1, v :: S.2.1, S.2.2)
def zldI (i : Nat) (S : zMS) (k : zMS → Prop) : Prop := match S.1.getD i zN with
  | .inl x => k (S.1, zI x :: S.2.1, S.2.2)
  | _ => False
def zldL (i : Nat) (S : zMS) (k : zMS → Prop) : Prop := match S.1.getD i zN with
  | .inr (.inl x) => k (S.1, zL x :: S.2.1, S.2.2)
  | _ => False
def zldR (i : Nat) (S : zMS) (k : zMS → Prop) : Prop := match S.1.getD i zN with
  | .inr (.inr (.inl x)) => k (S.1, zR x :: S.2.1, S.2.2)
  | _ => False
def zstI (i : Nat) (S : zMS) (k : zMS → Prop) : Prop := match S.2.1 with
  | .inl x :: st => k (zset S.1 i (zI x), st, S.2.2)
  | _ => False
def zstL (i : Nat) (S : zMS) (k : zMS → Prop) : Prop := match S.2.1 with
  | .inr (.inl x) :: st => k (zset2 S.1 i (zL x), st, S.2.2)
  | _ => False
def zstR (i : Nat) (S : zMS) (k : zMS → Prop) : Prop := match S.2.1 with
  | .inr (.inr (.inl x)) :: st => k (zset S.1 i (zR x), st, S.2.2)
  | _ => False
def zinc (i : Nat) (n : Int) (S : zMS) (k : zMS → Prop) : Prop := match S.1.getD i zN with
  | .inl x => k (zset S.1 i (zI (zwr (x + n))), S.2.1, S.2.2)
  | _ => False
def zun (f : Int → Int) (S : zMS) (k : zMS → Prop) : Prop := match S.2.1 with
  | .inl x :: st => k (S.1, zI (f x) :: st, S.2.2)
  | _ => False
def zbin (f : Int → Int → Int) (S : zMS) (k : zMS → Prop) : Prop := match S.2.1 with
  | .inl y :: .inl x :: st => k (S.1, zI (f x y) :: st, S.2.2)
  | _ => False
def zbinN (f : Int → Int → Int) (S : zMS) (k : zMS → Prop) : Prop := match S.2.1 with
  | .inl y :: .inl x :: st => zck (y ≠ 0) (k (S.1, zI (f x y) :: st, S.2.2))
  | _ => False
def zlbin (f : Int → Int → Int) (S : zMS) (k : zMS → Prop) : Prop := match S.2.1 with
  | .inr (.inl y) :: .inr (.inl x) :: st => k (S.1, zL (f x y) :: st, S.2.2)
  | _ => False
def zlbinN (f : Int → Int → Int) (S : zMS) (k : zMS → Prop) : Prop := match S.2.1 with
  | .inr (.inl y) :: .inr (.inl x) :: st => zck (y ≠ 0) (k (S.1, zL (f x y) :: st, S.2.2))
  | _ => False
def zlcm (S : zMS) (k : zMS → Prop) : Prop := match S.2.1 with
  | .inr (.inl y) :: .inr (.inl x) :: st => k (S.1, zI (zcmp x y) :: st, S.2.2)
  | _ => False
def zlng (S : zMS) (k : zMS → Prop) : Prop := match S.2.1 with
  | .inr (.inl x) :: st => k (S.1, zL (zwl (-x)) :: st, S.2.2)
  | _ => False
def zi2l (S : zMS) (k : zMS → Prop) : Prop := match S.2.1 with
  | .inl x :: st => k (S.1, zL x :: st, S.2.2)
  | _ => False
def zis1 (v : zV) : Bool := match v with
  | .inl _ => true
  | .inr (.inr (.inl _)) => true
  | _ => false
def zdup (S : zMS) (k : zMS → Prop) : Prop := match S.2.1 with
  | .inl x :: st => k (S.1, zI x :: zI x :: st, S.2.2)
  | .inr (.inr (.inl x)) :: st => k (S.1, zR x :: zR x :: st, S.2.2)
  | _ => False
def zdu2 (S : zMS) (k : zMS → Prop) : Prop := match S.2.1 with
  | .inl x :: .inr (.inr (.inl y)) :: st => k (S.1, zI x :: zR y :: zI x :: zR y :: st, S.2.2)
  | _ => False
def zpop (S : zMS) (k : zMS → Prop) : Prop := match S.2.1 with
  | .inl _ :: st => k (S.1, st, S.2.2)
  | .inr (.inr (.inl _)) :: st => k (S.1, st, S.2.2)
  | _ => False
/-- a boolean -/
def zbl (x : Int) (k : Int → Prop) : Prop := if x = 0 then k 0 else if x = 1 then k 1 else False
def zgf (ci j ty : Nat) (S : zMS) (k : zMS → Prop) : Prop := match S.2.1 with
  | .inr (.inr (.inl r)) :: st => zkq (zkd S.2.2.1 r) ci (match ty with
    | 2 => zom (zrf S.2.2.1 r j) (fun q => k (S.1, zR q :: st, S.2.2))
    | _ => k (S.1, zI (S.2.2.2.1 r j) :: st, S.2.2))
  | _ => False
def zpf (ci j ty : Nat) (S : zMS) (k : zMS → Prop) : Prop := match ty with
  | 0 => (match S.2.1 with
    | .inl x :: .inr (.inr (.inl r)) :: st => zkq (zkd S.2.2.1 r) ci (k (S.1, st, S.2.2.1, zmu S.2.2.2.1 r j x, S.2.2.2.2))
    | _ => False)
  | 1 => (match S.2.1 with
    | .inl x :: .inr (.inr (.inl r)) :: st => zkq (zkd S.2.2.1 r) ci (zbl x (fun x => k (S.1, st, S.2.2.1, zmu S.2.2.2.1 r j x, S.2.2.2.2)))
    | _ => False)
  | _ => (match S.2.1 with
    | .inr (.inr (.inl q)) :: .inr (.inr (.inl r)) :: st => zkq (zkd S.2.2.1 r) ci (k (S.1, st, zsr S.2.2.1 r j q, S.2.2.2.1, S.2.2.2.2))
    | _ => False)
def zix (σ : zSh) (t a : Nat) (i : Int) (k : Prop) : Prop := zkq (zkd σ a) t (zck (0 ≤ i ∧ i < zln σ a) k)
def zial (t : Nat) (S : zMS) (k : zMS → Prop) : Prop := match S.2.1 with
  | .inl i :: .inr (.inr (.inl a)) :: st => zix S.2.2.1 t a i (k (S.1, zI (S.2.2.2.1 a i.toNat) :: st, S.2.2))
  | _ => False
def zlal (S : zMS) (k : zMS → Prop) : Prop := match S.2.1 with
  | .inl i :: .inr (.inr (.inl a)) :: st => zix S.2.2.1 22 a i (k (S.1, zL (S.2.2.2.2 a i.toNat) :: st, S.2.2))
  | _ => False
def zaal (t : Nat) (S : zMS) (k : zMS → Prop) : Prop := match S.2.1 with
  | .inl i :: .inr (.inr (.inl a)) :: st => zix S.2.2.1 t a i (zom (zrf S.2.2.1 a i.toNat) (fun q => k (S.1, zR q :: st, S.2.2)))
  | _ => False
def zias (S : zMS) (k : zMS → Prop) : Prop := match S.2.1 with
  | .inl x :: .inl i :: .inr (.inr (.inl a)) :: st => zix S.2.2.1 20 a i (k (S.1, st, S.2.2.1, zmu S.2.2.2.1 a i.toNat x, S.2.2.2.2))
  | _ => False
def zbas (S : zMS) (k : zMS → Prop) : Prop := match S.2.1 with
  | .inl x :: .inl i :: .inr (.inr (.inl a)) :: st => zix S.2.2.1 21 a i (zbl x (fun x => k (S.1, st, S.2.2.1, zmu S.2.2.2.1 a i.toNat x, S.2.2.2.2)))
  | _ => False
def zlas (S : zMS) (k : zMS → Prop) : Prop := match S.2.1 with
  | .inr (.inl x) :: .inl i :: .inr (.inr (.inl a)) :: st => zix S.2.2.1 22 a i (k (S.1, st, S.2.2.1, S.2.2.2.1, zmu S.2.2.2.2 a i.toNat x))
  | _ => False
def zaas (t : Nat) (S : zMS) (k : zMS → Prop) : Prop := match S.2.1 with
  | .inr (.inr (.inl q)) :: .inl i :: .inr (.inr (.inl a)) :: st => zix S.2.2.1 t a i (zkq (zkd S.2.2.1 q) (if t = 23 then 2 else 5) (k (S.1, st, zsr S.2.2.1 a i.toNat q, S.2.2.2.1, S.2.2.2.2)))
  | _ => False
def zale (S : zMS) (k : zMS → Prop) : Prop := match S.2.1 with
  | .inr (.inr (.inl a)) :: st => zkb (Nat.ble 20 (zkd S.2.2.1 a) && Nat.ble (zkd S.2.2.1 a) 24) (k (S.1, zI (zln S.2.2.1 a) :: st, S.2.2))
  | _ => False
/-- what a method may make: cells and slots at its start, cells and slots that it makes -/
abbrev zB : Type := Nat × Nat × Nat × Nat
def znew (b : zB) (ci n : Nat) (S : zMS) (k : zMS → Prop) : Prop :=
  zck (S.2.2.1.length + 1 ≤ b.1 + b.2.2.1 ∧ zsz S.2.2.1 + n ≤ b.2.1 + b.2.2.2) (k (S.1, zR S.2.2.1.length :: S.2.1, S.2.2.1 ++ [(ci, 0, List.replicate n none)], zmz S.2.2.2.1 S.2.2.1.length, S.2.2.2.2))
def znwa (b : zB) (t : Nat) (S : zMS) (k : zMS → Prop) : Prop := match S.2.1 with
  | .inl x :: st => zck (0 ≤ x ∧ x ≤ 20000) (zck (S.2.2.1.length + 1 ≤ b.1 + b.2.2.1 ∧ zsz S.2.2.1 + x.toNat ≤ b.2.1 + b.2.2.2) (k (S.1, zR S.2.2.1.length :: st, S.2.2.1 ++ [(t, x.toNat, if 23 ≤ t then List.replicate x.toNat none else [])], zmz S.2.2.2.1 S.2.2.1.length, zmz S.2.2.2.2 S.2.2.1.length)))
  | _ => False
def zcat : List zV → Nat
  | [] => 0
  | .inr (.inl _) :: l => 2 + zcat l
  | _ :: l => 1 + zcat l
def zob8 (st : List zV) (k : Prop) : Prop := zkb (Nat.ble (zcat st) 8) k
def zobj (S : zMS) (k : zMS → Prop) : Prop := match S.2.1 with
  | .inr (.inr (.inl _)) :: st => zob8 st (k (S.1, st, S.2.2))
  | _ => False
def zmm (f : Int → Int → Int) (S : zMS) (k : zMS → Prop) : Prop := match S.2.1 with
  | .inl y :: .inl x :: st => zob8 st (k (S.1, zI (f x y) :: st, S.2.2))
  | _ => False
abbrev zCT : Type := Nat → List zV → zW → (Int → zW → Prop) → Prop
def zrcv (σ : zSh) (kind ci : Nat) (a : List zV) (k : Prop) : Prop := match kind with
  | 1 => k
  | 3 => k
  | 0 => (match a with
    | .inr (.inr (.inl r)) :: _ => zkq (zkd σ r) ci k
    | _ => False)
  | _ => (match a with
    | .inr (.inr (.inl _)) :: _ => k
    | _ => False)
def zbud (b : zB) (n : Nat × Nat) (σ : zSh) (k : Prop) : Prop := match n.1 with
  | 0 => k
  | _ + 1 => zck (σ.length + n.1 ≤ b.1 + b.2.2.1 ∧ zsz σ + n.2 ≤ b.2.1 + b.2.2.2) k
/-- a call: the callee, the word's place, kind of call, how many values, kind of answer, class -/
def zcal (b : zB) (C : zCT) (μ kind n rk ci : Nat) (S : zMS) (k : zMS → Prop) : Prop :=
  zrcv S.2.2.1 kind ci (S.2.1.take n).reverse (zkb (Nat.ble n S.2.1.length && Nat.ble (zcat (S.2.1.drop n)) 8) (zbud b (zal μ (S.2.1.take n).reverse) S.2.2.1 (match rk with
    | 0 => C μ (S.2.1.take n).reverse S.2.2 (fun _ w => k (S.1, S.2.1.drop n, w))
    | 2 => C μ (S.2.1.take n).reverse S.2.2 (fun r w => k (S.1, zL r :: S.2.1.drop n, w))
    | 3 => C μ (S.2.1.take n).reverse S.2.2 (fun r w => k (S.1, zR r.toNat :: S.2.1.drop n, w))
    | _ => C μ (S.2.1.take n).reverse S.2.2 (fun r w => k (S.1, zI r :: S.2.1.drop n, w)))))
def zif (c : ClassFile.Cond) (x y : Int) (a b : Prop) : Prop := match c with
  | .eq => if x = y then a else b
  | .ne => if x = y then b else a
  | .lt => if x < y then a else b
  | .ge => if x < y then b else a
  | .gt => if y < x then a else b
  | .le => if y < x then b else a
def ztsw (J : Nat → Prop) (pc : Nat) (x : Int) (dflt : Int) : Int → List Int → Prop
  | _, [] => J (pc + dflt).toNat
  | lo, o :: os => if x = lo then J (pc + o).toNat else ztsw J pc x dflt (lo + 1) os
def zsop (b : zB) (i : zIns) (S : zMS) (k : zMS → Prop) : Prop := match i.1 with
  | .iconst n => zpu (zI n) S k
  | .bipush n => zpu (zI n) S k
  | .sipush n => zpu (zI n) S k
  | .lconst n => zpu (zL ((n : Nat) : Int)) S k
  | .ldc _ => zpu (zI ((i.2.getD 0 0 : Nat) : Int)) S k
  | .ldc_w _ => zpu (zI ((i.2.getD 0 0 : Nat) : Int)) S k
  | .ldc2_w _ => zpu (zL ((i.2.getD 0 0 : Nat) : Int)) S k
  | .iload n => zldI n S k
  | .iload_n n => zldI (n : Nat) S k
  | .lload n => zldL n S k
  | .lload_n n => zldL (n : Nat) S k
  | .aload n => zldR n S k
  | .aload_n n => zldR (n : Nat) S k
  | .istore n => zstI n S k
  | .istore_n n => zstI (n : Nat) S k
  | .lstore n => zstL n S k
  | .lstore_n n => zstL (n : Nat) S k
  | .astore n => zstR n S k
  | .astore_n n => zstR (n : Nat) S k
  | .iinc n d => zinc n d S k
  | .iadd => zbin (fun x y => zwr (x + y)) S k
  | .isub => zbin (fun x y => zwr (x - y)) S k
  | .imul => zbin (fun x y => zwr (x * y)) S k
  | .iand => zbin zand S k
  | .ior => zbin zor S k
  | .ixor => zbin zxor S k
  | .ishl => zbin zshl S k
  | .ishr => zbin zshr S k
  | .iushr => zbin zushr S k
  | .idiv => zbinN zdiv S k
  | .irem => zbinN zrem S k
  | .ineg => zun (fun x => zwr (-x)) S k
  | .ladd => zlbin (fun x y => zwl (x + y)) S k
  | .lsub => zlbin (fun x y => zwl (x - y)) S k
  | .lmul => zlbin (fun x y => zwl (x * y)) S k
  | .ldiv => zlbinN zldiv S k
  | .lrem => zlbinN zlrem S k
  | .lneg => zlng S k
  | .lcmp => zlcm S k
  | .i2l => zi2l S k
  | .dup => zdup S k
  | .dup2 => zdu2 S k
  | .pop => zpop S k
  | .getfield _ => zgf (i.2.getD 0 0) (i.2.getD 1 0) (i.2.getD 3 0) S k
  | .putfield _ => zpf (i.2.getD 0 0) (i.2.getD 1 0) (i.2.getD 3 0) S k
  | .iaload => zial 20 S k
  | .baload => zial 21 S k
  | .laload => zlal S k
  | .aaload => zaal (i.2.getD 0 0) S k
  | .iastore => zias S k
  | .bastore => zbas S k
  | .lastore => zlas S k
  | .aastore => zaas (i.2.getD 0 0) S k
  | .arraylength => zale S k
  | .new _ => znew b (i.2.getD 0 0) (i.2.getD 2 0) S k
  | .newarray _ => znwa b (i.2.getD 0 0) S k
  | .anewarray _ => znwa b (i.2.getD 0 0) S k
  | _ => False
def zlen (i : Instr) : Nat := match i with
  | .bipush _ => 2
  | .sipush _ => 3
  | .ldc _ => 2
  | .ldc_w _ => 3
  | .ldc2_w _ => 3
  | .iload _ => 2
  | .lload _ => 2
  | .aload _ => 2
  | .istore _ => 2
  | .lstore _ => 2
  | .astore _ => 2
  | .iinc _ _ => 3
  | .getfield _ => 3
  | .putfield _ => 3
  | .new _ => 3
  | .newarray _ => 2
  | .anewarray _ => 3
  | .goto _ => 3
  | .ifCond _ _ => 3
  | .if_icmp _ _ => 3
  | .invokevirtual _ => 3
  | .invokestatic _ => 3
  | .invokespecial _ => 3
  | .tableswitch _ _ _ _ => 33
  | _ => 1
def zend (b : zB) (S : zMS) (k : Prop) : Prop := match b.2.2.1 with
  | 0 => k
  | _ + 1 => zck (S.2.2.1.length = b.1 + b.2.2.1 ∧ zsz S.2.2.1 = b.2.1 + b.2.2.2) k
/-- a stretch of code: C what calls do, J what is behind a jump, Q the method's end -/
def zbr (b : zB) (C : zCT) (J : Nat → zMS → Prop) (Q : Int → zW → Prop) (rk : Nat) : List zIns → Nat → zMS → Prop
  | [], pc, S => J pc S
  | i :: is, pc, S => match i.1 with
    | .goto _ => J (i.2.getD 0 0) S
    | .ifCond c _ => (match S.2.1 with
      | .inl x :: st => zif c x 0 (J (i.2.getD 0 0) (S.1, st, S.2.2)) (zbr b C J Q rk is (pc + 3) (S.1, st, S.2.2))
      | _ => False)
    | .if_icmp c _ => (match S.2.1 with
      | .inl y :: .inl x :: st => zif c x y (J (i.2.getD 0 0) (S.1, st, S.2.2)) (zbr b C J Q rk is (pc + 3) (S.1, st, S.2.2))
      | _ => False)
    | .tableswitch d lo _ offs => (match S.2.1 with
      | .inl x :: st => ztsw (fun t => J t (S.1, st, S.2.2)) pc x d lo offs.toList
      | _ => False)
    | .ireturn => (match S.2.1 with
      | [.inl x] => (match rk with
        | 1 => zend b S (Q x S.2.2)
        | 4 => zend b S (zbl x (fun x => Q x S.2.2))
        | _ => False)
      | _ => False)
    | .lreturn => (match S.2.1 with
      | [.inr (.inl x)] => (match rk with
        | 2 => zend b S (Q x S.2.2)
        | _ => False)
      | _ => False)
    | .areturn => (match S.2.1 with
      | [.inr (.inr (.inl x))] => (match rk with
        | 3 => zend b S (Q (x : Int) S.2.2)
        | _ => False)
      | _ => False)
    | .return_ => (match S.2.1 with
      | [] => (match rk with
        | 0 => zend b S (Q 0 S.2.2)
        | _ => False)
      | _ => False)
    | .invokevirtual _ => zcal b C (i.2.getD 0 0) (i.2.getD 2 0) (i.2.getD 3 0) (i.2.getD 4 0) (i.2.getD 5 0) S (fun S => zbr b C J Q rk is (pc + 3) S)
    | .invokestatic _ => (match i.2.getD 2 0 with
      | 6 => zmm zmax S (fun S => zbr b C J Q rk is (pc + 3) S)
      | 7 => zmm zmin S (fun S => zbr b C J Q rk is (pc + 3) S)
      | _ => zcal b C (i.2.getD 0 0) (i.2.getD 2 0) (i.2.getD 3 0) (i.2.getD 4 0) (i.2.getD 5 0) S (fun S => zbr b C J Q rk is (pc + 3) S))
    | .invokespecial _ => (match i.2.getD 2 0 with
      | 5 => zobj S (fun S => zbr b C J Q rk is (pc + 3) S)
      | _ => zcal b C (i.2.getD 0 0) (i.2.getD 2 0) (i.2.getD 3 0) (i.2.getD 4 0) (i.2.getD 5 0) S (fun S => zbr b C J Q rk is (pc + 3) S))
    | _ => zsop b i S (fun S => zbr b C J Q rk is (pc + zlen i.1) S)
/-- many stretches, up to the cuts -/
def zJ (b : zB) (C : zCT) (E : Nat → zMS → Prop) (Q : Int → zW → Prop) (rk μ : Nat) (cuts : List Nat) : Nat → Nat → zMS → Prop
  | 0, pc, S => E pc S
  | n + 1, pc, S => if pc ∈ cuts then E pc S else zbr b C (zJ b C E Q rk μ cuts n) Q rk (zblk μ pc) pc S
end
section
/-! what the small machine's world is in the heap -/
def zr32 (x : Int) : Prop := -2 ^ 31 ≤ x ∧ x < 2 ^ 31
def zr64 (x : Int) : Prop := -2 ^ 63 ≤ x ∧ x < 2 ^ 63
theorem zr32_of (x : Int32) : zr32 x.toInt := ⟨x.le_toInt, x.toInt_lt⟩
theorem zr64_of (x : Int64) : zr64 x.toInt := ⟨x.le_toInt, x.toInt_lt⟩
theorem zr32_t {x : Int} (h : zr32 x) : (Int32.ofInt x).toInt = x := Int32.toInt_ofInt_of_le h.1 h.2
theorem zr64_t {x : Int} (h : zr64 x) : (Int64.ofInt x).toInt = x := Int64.toInt_ofInt_of_le h.1 h.2
theorem zr32_n {x : Int} (h : zr32 x) : (Int32.ofInt x).toNatClampNeg = x.toNat := by rw [← Int32.toNat_toInt, zr32_t h]
theorem zr32_lt {x y : Int} (hx : zr32 x) (hy : zr32 y) : Int32.ofInt x < Int32.ofInt y ↔ x < y := by rw [Int32.lt_iff_toInt_lt, zr32_t hx, zr32_t hy]
theorem zr32_le {x y : Int} (hx : zr32 x) (hy : zr32 y) : Int32.ofInt x ≤ Int32.ofInt y ↔ x ≤ y := by rw [Int32.le_iff_toInt_le, zr32_t hx, zr32_t hy]
theorem zr32_eq {x y : Int} (hx : zr32 x) (hy : zr32 y) : Int32.ofInt x = Int32.ofInt y ↔ x = y := by rw [← Int32.toInt_inj, zr32_t hx, zr32_t hy]
theorem zr64_lt {x y : Int} (hx : zr64 x) (hy : zr64 y) : Int64.ofInt x < Int64.ofInt y ↔ x < y := by rw [Int64.lt_iff_toInt_lt, zr64_t hx, zr64_t hy]
theorem zr64_eq {x y : Int} (hx : zr64 x) (hy : zr64 y) : Int64.ofInt x = Int64.ofInt y ↔ x = y := by rw [← Int64.toInt_inj, zr64_t hx, zr64_t hy]
theorem zr32_0 : zr32 0 := ⟨by decide, by decide⟩
def zcv (ad : Nat → Nat) (v : zV) : Value := match v with
  | .inl x => .int (Int32.ofInt x)
  | .inr (.inl x) => .long (Int64.ofInt x)
  | .inr (.inr (.inl k)) => .ref (ad k)
  | .inr (.inr (.inr _)) => .null
def zvo (n : Nat) (v : zV) : Prop := match v with
  | .inl x => zr32 x
  | .inr (.inl x) => zr64 x
  | .inr (.inr (.inl k)) => k < n
  | .inr (.inr (.inr _)) => True
def ztys (ca : Nat → ClassId) : List (ClassId × FieldType) := [(ca 20, .int), (ca 21, .boolean), (ca 22, .long), (ca 23, .object RX2), (ca 24, .object RX5)]
def zfv (ad : Nat → Nat) (σ : zSh) (M : zM) (ci k j : Nat) : Value := if zft ci j = 2 then va_rf ((zrf σ k j).map ad) else .int (Int32.ofInt (M k j))
def zce (ca : Nat → ClassId) (ad : Nat → Nat) (w : zW) (k : Nat) : va_E :=
  if zkd w.1 k < 20 then .inr (zkd w.1 k, (List.range (znf (zkd w.1 k))).map (zfv ad w.1 w.2.1 (zkd w.1 k) k))
  else if zkd w.1 k = 22 then .inl (ca 22, (zln w.1 k).toNat, .inr (.inl (fun j => Int64.ofInt (w.2.2 k j))))
  else if zkd w.1 k < 22 then .inl (ca (zkd w.1 k), (zln w.1 k).toNat, .inl (fun j => Int32.ofInt (w.2.1 k j)))
  else .inl (ca (zkd w.1 k), (zln w.1 k).toNat, .inr (.inr (.inr (.inr (fun j => (zrf w.1 k j).map ad)))))
def zws (ca : Nat → ClassId) (ad : Nat → Nat) (w : zW) : va_W := (List.range w.1.length).map (fun k => (ad k, zce ca ad w k))
theorem zws_at {ca : Nat → ClassId} {ad : Nat → Nat} {w : zW} {k : Nat} (h : k < w.1.length) : (zws ca ad w)[k]? = some (ad k, zce ca ad w k) := by
  unfold zws
  rw [List.getElem?_map, List.getElem?_range h]
  rfl
theorem zws_len {ca : Nat → ClassId} {ad : Nat → Nat} {w : zW} : (zws ca ad w).length = w.1.length := by simp [zws]
/-- a cell changes, the others don't -/
theorem zws_set {ca : Nat → ClassId} {ad : Nat → Nat} {w w' : zW} {k : Nat} {x : va_E} (hl : w'.1.length = w.1.length) (ho : ∀ j, j ≠ k → zce ca ad w' j = zce ca ad w j) (hk : zce ca ad w' k = x) : (zws ca ad w).set k (ad k, x) = zws ca ad w' := by
  apply List.ext_getElem?
  intro j
  by_cases hj : j < w.1.length
  · rw [zws_at (w := w') (by omega), List.getElem?_set]
    by_cases hkj : k = j
    · subst hkj
      rw [if_pos rfl, if_pos (by rw [zws_len]; exact hj), hk]
    · rw [if_neg hkj, zws_at hj, ho j (Ne.symm hkj)]
  · rw [List.getElem?_eq_none (by rw [List.length_set, zws_len]; omega), List.getElem?_eq_none (by rw [zws_len]; omega)]
/-- a cell more -/
theorem zws_push {ca : Nat → ClassId} {ad ad' : Nat → Nat} {w w' : zW} {q : Nat} {x : va_E} (hl : w'.1.length = w.1.length + 1) (ho : ∀ j, j < w.1.length → ad' j = ad j ∧ zce ca ad' w' j = zce ca ad w j) (hk : ad' w.1.length = q ∧ zce ca ad' w' w.1.length = x) : zws ca ad w ++ [(q, x)] = zws ca ad' w' := by
  apply List.ext_getElem?
  intro j
  by_cases hj : j < w.1.length
  · rw [zws_at (w := w') (by omega), List.getElem?_append_left (by rw [zws_len]; exact hj), zws_at hj, (ho j hj).1, (ho j hj).2]
  · rw [List.getElem?_append_right (by rw [zws_len]; omega), zws_len]
    by_cases hj2 : j = w.1.length
    · subst hj2
      rw [zws_at (w := w') (by omega), hk.1, hk.2]
      simp
    · rw [List.getElem?_eq_none (by simp; omega), List.getElem?_eq_none (by rw [zws_len]; omega)]
/-- a world in good order: numbers in their ranges, references to cells that are there, lists as long as they must be -/
def zok (w : zW) : Prop := (∀ k j, zr32 (w.2.1 k j)) ∧ (∀ k j, zr64 (w.2.2 k j)) ∧ (∀ k j q, zrf w.1 k j = some q → q < w.1.length) ∧
  ∀ (k : Nat) (e : Nat × Nat × List (Option Nat)), w.1[k]? = some e → (e.1 < 11 ∧ e.2.2.length = znf e.1 ∨ 20 ≤ e.1 ∧ e.1 < 25) ∧ (23 ≤ e.1 → e.2.2.length = e.2.1) ∧ e.2.1 ≤ 20000
theorem zkd_lt {σ : zSh} {k t : Nat} (h : zkd σ k = t) (ht : t < 99) : k < σ.length := by
  unfold zkd at h
  by_cases hk : k < σ.length
  · exact hk
  · rw [List.getElem?_eq_none (by omega)] at h
    have h : 99 = t := h
    omega
theorem zmu_r {P : Int → Prop} {M : zM} {k j : Nat} {v : Int} (h : ∀ k j, P (M k j)) (hv : P v) : ∀ a b, P (zmu M k j v a b) := by
  intro a b
  unfold zmu
  split
  · exact hv
  · exact h a b
theorem zmz_r {P : Int → Prop} {M : zM} {k : Nat} (h : ∀ k j, P (M k j)) (hv : P 0) : ∀ a b, P (zmz M k a b) := by
  intro a b
  unfold zmz
  split
  · exact hv
  · exact h a b
/-! the locals -/
def zlr (ad : Nat → Nat) (nL : Nat) (ls : List zV) (cv : Array Slot) : Prop := cv.size = nL ∧ lv_wf cv ∧ ∀ (j : Nat) (v : zV), ls[j]? = some v → v ≠ zN → cv[j]? = some (.val (zcv ad v))
/-- as the kit has them -/
def zll (ad : Nat → Nat) (ls : List zV) : List (Nat × Value) := (List.range ls.length).filterMap (fun j => match ls.getD j zN with
  | .inr (.inr (.inr _)) => none
  | v => some (j, zcv ad v))
theorem zll_mem {ad : Nat → Nat} {ls : List zV} {q : Nat × Value} : q ∈ zll ad ls ↔ ∃ v, ls[q.1]? = some v ∧ v ≠ zN ∧ q.2 = zcv ad v := by
  unfold zll
  rw [List.mem_filterMap]
  constructor
  · rintro ⟨j, hj, h⟩
    rw [List.mem_range] at hj
    rw [List.getD_eq_getElem?_getD, List.getElem?_eq_getElem hj] at h
    rcases hv : ls[j] with x | x | x | x <;> simp [hv] at h <;> subst h <;> exact ⟨_, by rw [List.getElem?_eq_getElem hj, hv], by simp [zN], rfl⟩
  · rintro ⟨v, h1, h2, h3⟩
    obtain ⟨hj, hv⟩ := List.getElem?_eq_some_iff.mp h1
    refine ⟨q.1, List.mem_range.mpr hj, ?_⟩
    rw [List.getD_eq_getElem?_getD, h1]
    obtain ⟨j, y⟩ := q
    simp only at h3
    subst h3
    rcases v with x | x | x | x
    · rfl
    · rfl
    · rfl
    · exact absurd rfl h2
theorem zlr_has {ad : Nat → Nat} {nL : Nat} {ls : List zV} {cv : Array Slot} : zlr ad nL ls cv ↔ lv_has cv nL (zll ad ls) := by
  unfold zlr lv_has
  constructor
  · rintro ⟨h1, h2, h3⟩
    refine ⟨h1, h2, fun q hq => ?_⟩
    obtain ⟨v, a, b, c⟩ := zll_mem.mp hq
    rw [c]; exact h3 _ _ a b
  · rintro ⟨h1, h2, h3⟩
    refine ⟨h1, h2, fun j v a b => ?_⟩
    exact h3 (j, zcv ad v) (zll_mem.mpr ⟨v, a, b, rfl⟩)
theorem zlr_at {ad : Nat → Nat} {nL i : Nat} {ls : List zV} {cv : Array Slot} {v : zV} (h : zlr ad nL ls cv) (hv : ls.getD i zN = v) (hn : v ≠ zN) : cv[i]? = some (.val (zcv ad v)) := by
  refine h.2.2 i v ?_ hn
  rw [List.getD_eq_getElem?_getD] at hv
  cases hi : ls[i]? with
  | none => rw [hi] at hv; exact absurd hv.symm hn
  | some u => rw [hi] at hv; simp at hv; rw [hv]
theorem zset_at (v : zV) : ∀ (ls : List zV) (i j : Nat), (zset ls i v)[j]? = if j = i then (if i < ls.length then some v else none) else if j + 1 = i then (ls[j]?).map znol else ls[j]?
  | [], i, j => by simp [zset]
  | a :: l, 0, j => by
    cases j with
    | zero => simp [zset]
    | succ j => simp [zset]
  | a :: l, 1, j => by
    cases j with
    | zero => simp [zset]
    | succ j =>
      have h := zset_at v l 0 j
      simp only [zset, List.getElem?_cons_succ, h]
      by_cases hj : j = 0
      · subst hj; simp
      · simp [hj]
  | a :: l, n + 2, j => by
    cases j with
    | zero => simp [zset]
    | succ j =>
      have h := zset_at v l (n + 1) j
      simp only [zset, List.getElem?_cons_succ, h]
      by_cases hj : j = n + 1
      · subst hj
        rw [if_pos rfl, if_pos rfl]
        by_cases hl : n + 1 < l.length
        · rw [if_pos hl, if_pos (by simp; omega)]
        · rw [if_neg hl, if_neg (by simp; omega)]
      · by_cases hj2 : j = n
        · subst hj2; simp
        · have e1 : ¬ j + 1 = n + 2 := by omega
          have e2 : ¬ j + 1 = n + 1 := by omega
          have e3 : ¬ j + 1 + 1 = n + 2 := by omega
          simp [hj, e1, e2]
theorem znol_ne {v : zV} (h : znol v ≠ zN) : znol v = v := by
  rcases v with x | x | x | x <;> simp [znol] at h ⊢
theorem znol_cat {ad : Nat → Nat} {v : zV} (h : znol v ≠ zN) : ¬ (zcv ad v).category = 2 := by
  rcases v with x | x | x | x <;> simp [znol, zcv, Value.category] at h ⊢
theorem zset_len (v : zV) : ∀ (ls : List zV) (i : Nat), (zset ls i v).length = ls.length
  | [], _ => rfl
  | _ :: _, 0 => rfl
  | _ :: l, 1 => by simp [zset, zset_len v l 0]
  | _ :: l, n + 2 => by simp [zset, zset_len v l (n + 1)]
theorem zset_mem {P : zV → Prop} {v : zV} {ls : List zV} {i : Nat} (h : ∀ u ∈ ls, P u) (hv : P v) (hN : P zN) : ∀ u ∈ zset ls i v, P u := by
  intro u hu
  obtain ⟨j, hj⟩ := List.getElem?_of_mem hu
  rw [zset_at] at hj
  split at hj
  · split at hj
    · cases hj; exact hv
    · cases hj
  · split at hj
    · cases hl : ls[j]? with
      | none => rw [hl] at hj; cases hj
      | some a =>
        rw [hl] at hj
        cases hj
        have ha := h a (List.mem_of_getElem? hl)
        rcases a with x | x | x | x
        · exact ha
        · exact hN
        · exact ha
        · exact ha
    · exact h u (List.mem_of_getElem? hj)
/-- behind a store of one slot -/
theorem zlr_set1 {ad : Nat → Nat} {nL i : Nat} {ls : List zV} {cv : Array Slot} {v : zV} (h : lv_has cv nL ((i, zcv ad v) :: (zll ad ls).filter (fun q => !(q.1 == i) && !(q.1 + 1 == i && q.2.category == 2)))) : zlr ad nL (zset ls i v) cv := by
  refine ⟨h.1, h.2.1, fun j u hj hn => ?_⟩
  rw [zset_at] at hj
  split at hj
  · next hji =>
    subst hji
    split at hj
    · cases hj; exact h.2.2 _ List.mem_cons_self
    · cases hj
  · next hji =>
    refine h.2.2 (j, zcv ad u) (List.mem_cons_of_mem _ (List.mem_filter.mpr ?_))
    split at hj
    · next hj1 =>
      cases hl : ls[j]? with
      | none => rw [hl] at hj; cases hj
      | some a =>
        rw [hl] at hj
        cases hj
        have e := znol_ne hn
        refine ⟨zll_mem.mpr ⟨a, hl, by rw [← e]; exact hn, by rw [e]⟩, ?_⟩
        have hc := znol_cat (ad := ad) hn
        rw [e]
        simp [hji, hc]
    · next hj1 =>
      exact ⟨zll_mem.mpr ⟨u, hj, hn, rfl⟩, by simp [hji, hj1]⟩
theorem zlr_set2 {ad : Nat → Nat} {nL i : Nat} {ls : List zV} {cv : Array Slot} {v : zV} (h : lv_has cv nL ((i, zcv ad v) :: (zll ad ls).filter (fun q => !(q.1 == i) && (!(q.1 == i + 1) && !(q.1 + 1 == i && q.2.category == 2))))) : zlr ad nL (zset2 ls i v) cv := by
  refine ⟨h.1, h.2.1, fun j u hj hn => ?_⟩
  unfold zset2 at hj
  rw [List.getElem?_set] at hj
  split at hj
  · split at hj
    · cases hj; exact absurd rfl hn
    · cases hj
  · next hi1 =>
    rw [zset_at] at hj
    split at hj
    · next hji =>
      subst hji
      split at hj
      · cases hj; exact h.2.2 _ List.mem_cons_self
      · cases hj
    · next hji =>
      refine h.2.2 (j, zcv ad u) (List.mem_cons_of_mem _ (List.mem_filter.mpr ?_))
      have hi2 : ¬ j = i + 1 := fun q => hi1 q.symm
      split at hj
      · next hj1 =>
        cases hl : ls[j]? with
        | none => rw [hl] at hj; cases hj
        | some a =>
          rw [hl] at hj
          cases hj
          have e := znol_ne hn
          refine ⟨zll_mem.mpr ⟨a, hl, by rw [← e]; exact hn, by rw [e]⟩, ?_⟩
          have hc := znol_cat (ad := ad) hn
          rw [e]
          simp [hji, hi2, hc]
      · next hj1 =>
        exact ⟨zll_mem.mpr ⟨u, hj, hn, rfl⟩, by simp [hji, hi2, hj1]⟩
theorem zset2_mem {P : zV → Prop} {v : zV} {ls : List zV} {i : Nat} (h : ∀ u ∈ ls, P u) (hv : P v) (hN : P zN) : ∀ u ∈ zset2 ls i v, P u := by
  intro u hu
  rcases List.mem_or_eq_of_mem_set hu with h1 | h1
  · exact zset_mem h hv hN u h1
  · rw [h1]; exact hN
end
section
/-! what is checked of the code by program, and that the small machine goes as the machine does: single instructions -/
def zat (i : Nat) (w : Jvm.Cond) : Bool := decide (ztb i = some w) && goodWord w
theorem zat_e {i : Nat} {w : Jvm.Cond} (h : zat i w = true) : w ∈ lw_tbl ∧ goodWord w = true := by
  unfold zat at h
  rw [Bool.and_eq_true, decide_eq_true_eq] at h
  exact ⟨ztb_in h.1, h.2⟩
def zisn (w : Jvm.Cond) : Bool := match w with
  | .methodLinkNest _ _ _ _ => true
  | _ => false
def znw : List Jvm.Cond := lw_tbl.filter zisn
def zwd (μ : Nat) : List Jvm.Cond := Jvm.Cond.code (zy μ) (zcode μ) (zmaxL μ) (zret μ) :: lw_tbl.filter goodWord
theorem zwd_in {μ : Nat} {w : Jvm.Cond} (h : w ∈ lw_tbl ∧ goodWord w = true) : w ∈ zwd μ := List.mem_cons_of_mem _ (List.mem_filter.mpr h)
def zclf (t : Option vw_C) (own : String) (init : Bool) (k j pl : Nat) (put : Bool) : Bool := match t with
  | some q => decide (j < q.2.2) && zat pl (.fieldLink own k q.1 (q.2.1 j).2.1 (q.2.1 j).2.2.1) && (!put || !(q.2.1 j).2.2.2 || (init && decide (q.1 = own)))
  | none => false
def zchf (μ k : Nat) (r : List Nat) (put : Bool) : Bool := decide (r.getD 3 0 = zft (r.getD 0 0) (r.getD 1 0)) && zclf vwCl[r.getD 0 0]? (zy μ).cls (decide ((zy μ).name = "<init>")) k (r.getD 1 0) (r.getD 2 0) put
def zcln (t : Option vw_C) (own : String) (k pl n : Nat) : Bool := match t with
  | some q => decide (n = q.2.2) && zat pl (.classLink own k q.1)
  | none => false
def zchi (μ k : Nat) (r : List Nat) (op : Nat) : Bool :=
  if r.getD 2 0 = 5 then decide (op = 2) && zat (r.getD 1 0) (.methodLink (zy μ).cls k objectInit)
  else if r.getD 2 0 = 6 then decide (op = 1) && zat (r.getD 1 0) (.methodLink (zy μ).cls k Lib.Math.max.name)
  else if r.getD 2 0 = 7 then decide (op = 1) && zat (r.getD 1 0) (.methodLink (zy μ).cls k Lib.Math.min.name)
  else decide (r.getD 0 0 < zmt.length) && decide (r.getD 4 0 = zrk (r.getD 0 0)) && decide (r.getD 3 0 = zrow (r.getD 0 0) 1) && (match r.getD 2 0 with
    | 0 => decide (op = 0) && zat (r.getD 1 0) (.methodLink (zy μ).cls k (zy (r.getD 0 0))) && decide (zrow (r.getD 0 0) 7 = 0) && decide ((zy (r.getD 0 0)).name ≠ "<init>") && decide ((vwCl[r.getD 5 0]?).map (fun q => q.1) = some (zy (r.getD 0 0)).cls)
    | 1 => decide (op = 1) && zat (r.getD 1 0) (.methodLink (zy μ).cls k (zy (r.getD 0 0))) && decide (zrow (r.getD 0 0) 7 = 1)
    | 2 => decide (op = 2) && zat (r.getD 1 0) (.methodLink (zy μ).cls k (zy (r.getD 0 0))) && decide (zrow (r.getD 0 0) 7 = 0) && decide ((zy (r.getD 0 0)).name = "<init>")
    | 3 => decide (op = 1) && decide (ztb (r.getD 1 0) = some (.methodLinkNest (zy μ).cls k (zy (r.getD 0 0)) "LettersThatPass")) && decide (zrow (r.getD 0 0) 7 = 1)
    | 4 => decide (op = 2) && decide (ztb (r.getD 1 0) = some (.methodLinkNest (zy μ).cls k (zy (r.getD 0 0)) "LettersThatPass")) && decide (zrow (r.getD 0 0) 7 = 0) && decide ((zy (r.getD 0 0)).name = "<init>")
    | _ => false)
def zch2 (μ pc : Nat) (i : zIns) : Bool := match i.1 with
  | .iconst n => decide (-5 ≤ n ∧ n ≤ 5)
  | .bipush n => decide (-128 ≤ n ∧ n < 128)
  | .sipush n => decide (-32768 ≤ n ∧ n < 32768)
  | .ldc k => decide (i.2.getD 0 0 < 2147483648) && zat (i.2.getD 1 0) (.constant (zy μ).cls k (Int32.ofInt ((i.2.getD 0 0 : Nat) : Int)))
  | .ldc_w k => decide (i.2.getD 0 0 < 2147483648) && zat (i.2.getD 1 0) (.constant (zy μ).cls k (Int32.ofInt ((i.2.getD 0 0 : Nat) : Int)))
  | .ldc2_w k => decide (i.2.getD 0 0 < 9223372036854775808) && zat (i.2.getD 1 0) (.constantLong (zy μ).cls k (Int64.ofInt ((i.2.getD 0 0 : Nat) : Int)))
  | .istore n => decide (n < zmaxL μ)
  | .istore_n n => decide ((n : Nat) < zmaxL μ)
  | .astore n => decide (n < zmaxL μ)
  | .astore_n n => decide ((n : Nat) < zmaxL μ)
  | .lstore n => decide (n + 1 < zmaxL μ)
  | .lstore_n n => decide ((n : Nat) + 1 < zmaxL μ)
  | .iinc n _ => decide (n < zmaxL μ)
  | .getfield k => zchf μ k i.2 false
  | .putfield k => zchf μ k i.2 true
  | .aaload => decide (i.2.getD 0 0 = 23 ∨ i.2.getD 0 0 = 24)
  | .aastore => decide (i.2.getD 0 0 = 23 ∨ i.2.getD 0 0 = 24)
  | .new k => decide (i.2.getD 0 0 < 11) && zcln vwCl[i.2.getD 0 0]? (zy μ).cls k (i.2.getD 1 0) (i.2.getD 2 0)
  | .newarray t => decide (t = .int ∧ i.2.getD 0 0 = 20 ∨ t = .boolean ∧ i.2.getD 0 0 = 21 ∨ t = .long ∧ i.2.getD 0 0 = 22)
  | .anewarray k => decide (i.2.getD 0 0 = 23) && zat (i.2.getD 1 0) (.classLink (zy μ).cls k RX2) || decide (i.2.getD 0 0 = 24) && zat (i.2.getD 1 0) (.classLink (zy μ).cls k RX5)
  | .goto o => decide ((pc : Int) + o = ((i.2.getD 0 0 : Nat) : Int))
  | .ifCond _ o => decide ((pc : Int) + o = ((i.2.getD 0 0 : Nat) : Int))
  | .if_icmp _ o => decide ((pc : Int) + o = ((i.2.getD 0 0 : Nat) : Int))
  | .tableswitch d lo hi offs => decide (hi = lo + offs.toList.length - 1) && decide (0 ≤ (pc : Int) + d) && offs.toList.all (fun o => decide (0 ≤ (pc : Int) + o))
  | .invokevirtual k => zchi μ k i.2 0
  | .invokestatic k => zchi μ k i.2 1
  | .invokespecial k => zchi μ k i.2 2
  | _ => true
def zch (μ pc : Nat) (i : zIns) : Bool := decide (decode (zcode μ) pc = .ok (i.1, zlen i.1)) && zch2 μ pc i
/-- a class's facts -/
def zclp (ci : Nat) (q : vw_C) : Prop := (∀ w ∈ u_ws q.1 q.2.1 q.2.2, w ∈ lw_tbl ∧ goodWord w = true) ∧ (.instantiable q.1 q.2.2 ∈ lw_tbl ∧ goodWord (.instantiable q.1 q.2.2) = true) ∧ (.initialized q.1 ∈ lw_tbl ∧ goodWord (.initialized q.1) = true) ∧ znf ci = q.2.2 ∧ (∀ a, a < q.2.2 → ∀ b, b < q.2.2 → a ≠ b → (q.2.1 a).2.1 ≠ (q.2.1 b).2.1) ∧
  ∃ ty0 : Nat → FieldType, (∀ k, k < q.2.2 → parseFieldDescriptor (q.2.1 k).2.2.1 = some (ty0 k)) ∧ ∀ j, j < q.2.2 → (q.2.1 j).1 = q.1 ∧ (zft ci j = 0 ∧ ty0 j = .int ∨ zft ci j = 1 ∧ ty0 j = .boolean ∨ zft ci j = 2 ∧ (ty0 j).isReference = true)
theorem zclp_0 : zclp 0 (RX0, TX0, 4) := ⟨by decide +kernel, by decide +kernel, by decide +kernel, by decide +kernel, nmX0, tyX0, tyX0_ok, by decide +kernel⟩
theorem zclp_1 : zclp 1 (RX1, TX1, 3) := ⟨by decide +kernel, by decide +kernel, by decide +kernel, by decide +kernel, nmX1, tyX1, tyX1_ok, by decide +kernel⟩
theorem zclp_2 : zclp 2 (RX2, TX2, 2) := ⟨by decide +kernel, by decide +kernel, by decide +kernel, by decide +kernel, nmX2, tyX2, tyX2_ok, by decide +kernel⟩
theorem zclp_3 : zclp 3 (RX3, TX3, 3) := ⟨by decide +kernel, by decide +kernel, by decide +kernel, by decide +kernel, nmX3, tyX3, tyX3_ok, by decide +kernel⟩
theorem zclp_4 : zclp 4 (RX4, TX4, 4) := ⟨by decide +kernel, by decide +kernel, by decide +kernel, by decide +kernel, nmX4, tyX4, tyX4_ok, by decide +kernel⟩
theorem zclp_5 : zclp 5 (RX5, TX5, 2) := ⟨by decide +kernel, by decide +kernel, by decide +kernel, by decide +kernel, nmX5, tyX5, tyX5_ok, by decide +kernel⟩
theorem zclp_6 : zclp 6 (RX6, TX6, 3) := ⟨by decide +kernel, by decide +kernel, by decide +kernel, by decide +kernel, nmX6, tyX6, tyX6_ok, by decide +kernel⟩
theorem zclp_7 : zclp 7 (RX7, TX7, 7) := ⟨by decide +kernel, by decide +kernel, by decide +kernel, by decide +kernel, nmX7, tyX7, tyX7_ok, by decide +kernel⟩
theorem zclp_8 : zclp 8 (RX8, TX8, 10) := ⟨by decide +kernel, by decide +kernel, by decide +kernel, by decide +kernel, nmX8, tyX8, tyX8_ok, by decide +kernel⟩
theorem zclp_9 : zclp 9 (RX9, TX9, 16) := ⟨by decide +kernel, by decide +kernel, by decide +kernel, by decide +kernel, nmX9, tyX9, tyX9_ok, by decide +kernel⟩
theorem zclp_10 : zclp 10 (RX10, TX10, 36) := ⟨by decide +kernel, by decide +kernel, by decide +kernel, by decide +kernel, nmX10, tyX10, tyX10_ok, by decide +kernel⟩
theorem zclp_all : ∀ (ci : Nat) (q : vw_C), vwCl[ci]? = some q → zclp ci q
  | 0, q, h => by cases h; exact zclp_0
  | 1, q, h => by cases h; exact zclp_1
  | 2, q, h => by cases h; exact zclp_2
  | 3, q, h => by cases h; exact zclp_3
  | 4, q, h => by cases h; exact zclp_4
  | 5, q, h => by cases h; exact zclp_5
  | 6, q, h => by cases h; exact zclp_6
  | 7, q, h => by cases h; exact zclp_7
  | 8, q, h => by cases h; exact zclp_8
  | 9, q, h => by cases h; exact zclp_9
  | 10, q, h => by cases h; exact zclp_10
  | n + 11, q, h => by simp [vwCl] at h
def zchb (μ : Nat) : Nat → List zIns → Bool
  | _, [] => true
  | pc, i :: is => zch μ pc i && zchb μ (pc + zlen i.1) is
def zchM (μ : Nat) : Bool := (zcd.getD μ []).all (fun q => zchb μ q.1 q.2)
end
section
/-! single instructions -/
def zrm (d : Nat) (b : zB) : Room := { frames := d, cells := b.2.2.1, slots := b.2.2.2, locals := 200 * d }
def zfr (b : zB) (σ : zSh) : Prop := b.1 ≤ σ.length ∧ σ.length ≤ b.1 + b.2.2.1 ∧ b.2.1 ≤ zsz σ ∧ zsz σ ≤ b.2.1 + b.2.2.2
def zCx (p : Program) (s : State) (m : MethodId) (args : Array Value) (meth : Method) (c : Code) (D : va_G) (ca : Nat → ClassId) (A : Nat → Prop) (μ : Nat) : Prop :=
  p.tables.exec = Jvm.exec ∧ c.code = zcode μ ∧ c.maxLocals = zmaxL μ ∧ meth.sig.returnType = zret μ ∧ s.vm.findClass (zy μ).cls = some m.cls ∧ meth.locks = false ∧ ((zy μ).name = "<init>" → meth.name = "<init>") ∧
  (∀ w ∈ zwd μ, w.before args s = true) ∧ (∀ w ∈ znw, va_Nw w s) ∧ (va_AO RX2 s ∧ va_AO RX5 s) ∧ va_K D vwCl (ztys ca) s ∧ ∀ q, s.heap.size ≤ q → A q
def zst (D : va_G) (ca : Nat → ClassId) (A : Nat → Prop) (s : State) (b : zB) (ad0 : Nat → Nat) (nL : Nat) (H : Heap) (locs : List Loc) (cv : Array Slot) (ad : Nat → Nat) (S : zMS) : Prop :=
  va_P D vwCl (zws ca ad S.2.2) H ∧ va_D A (zws ca ad S.2.2) ∧ va_S A s.heap H locs ∧ zok S.2.2 ∧ (∀ v ∈ S.1, zvo S.2.2.1.length v) ∧ (∀ v ∈ S.2.1, zvo S.2.2.1.length v) ∧ zlr ad nL S.1 cv ∧ zfr b S.2.2.1 ∧ ∀ k, k < b.1 → ad k = ad0 k
theorem zst.stk {D : va_G} {ca : Nat → ClassId} {A : Nat → Prop} {s : State} {b : zB} {ad0 : Nat → Nat} {nL : Nat} {H : Heap} {locs : List Loc} {cv : Array Slot} {ad : Nat → Nat} {ls st st' : List zV} {w : zW} (h : zst D ca A s b ad0 nL H locs cv ad (ls, st, w)) (hs : ∀ v ∈ st', zvo w.1.length v) : zst D ca A s b ad0 nL H locs cv ad (ls, st', w) :=
  ⟨h.1, h.2.1, h.2.2.1, h.2.2.2.1, h.2.2.2.2.1, hs, h.2.2.2.2.2.2.1, h.2.2.2.2.2.2.2.1, h.2.2.2.2.2.2.2.2⟩
theorem zst.loc {D : va_G} {ca : Nat → ClassId} {A : Nat → Prop} {s : State} {b : zB} {ad0 : Nat → Nat} {nL : Nat} {H : Heap} {locs : List Loc} {cv cv' : Array Slot} {ad : Nat → Nat} {ls ls' st st' : List zV} {w : zW} (h : zst D ca A s b ad0 nL H locs cv ad (ls, st, w)) (hl : ∀ v ∈ ls', zvo w.1.length v) (hs : ∀ v ∈ st', zvo w.1.length v) (hr : zlr ad nL ls' cv') : zst D ca A s b ad0 nL H locs cv' ad (ls', st', w) :=
  ⟨h.1, h.2.1, h.2.2.1, h.2.2.2.1, hl, hs, hr, h.2.2.2.2.2.2.2.1, h.2.2.2.2.2.2.2.2⟩
def zWS (p : Program) (l : Launch) (e : Env) (s : State) (m : MethodId) (args : Array Value) (below : List Frame) (meth : Method) (c : Code) (D : va_G) (ca : Nat → ClassId) (A : Nat → Prop) (d μ : Nat) (b : zB) (ad0 : Nat → Nat) (Qs : State → Prop) (pc : Nat) (S : zMS) : Prop :=
  ∀ (H : Heap) (locs : List Loc) (cv : Array Slot) (ad : Nat → Nat), zst D ca A s b ad0 (zmaxL μ) H locs cv ad S → W p l e (zrm d b) s m args below meth c H locs (S.2.2.1.length - b.1) (zsz S.2.2.1 - b.2.1) Qs (F0 m pc cv (S.2.1.map (zcv ad)))
theorem zdec {μ pc : Nat} {i : zIns} (h : zch μ pc i = true) : decode (zcode μ) pc = .ok (i.1, zlen i.1) ∧ zch2 μ pc i = true := by
  unfold zch at h
  rw [Bool.and_eq_true, decide_eq_true_eq] at h
  exact h
theorem zvo_I {n : Nat} {x : Int} {st : List zV} (hx : zr32 x) (h : ∀ v ∈ st, zvo n v) : ∀ v ∈ (zI x :: st), zvo n v := fun v hv => by
  rcases List.mem_cons.mp hv with rfl | hv
  · exact hx
  · exact h v hv
theorem zvo_L {n : Nat} {x : Int} {st : List zV} (hx : zr64 x) (h : ∀ v ∈ st, zvo n v) : ∀ v ∈ (zL x :: st), zvo n v := fun v hv => by
  rcases List.mem_cons.mp hv with rfl | hv
  · exact hx
  · exact h v hv
theorem zvo_R {n x : Nat} {st : List zV} (hx : x < n) (h : ∀ v ∈ st, zvo n v) : ∀ v ∈ (zR x :: st), zvo n v := fun v hv => by
  rcases List.mem_cons.mp hv with rfl | hv
  · exact hx
  · exact h v hv
theorem zvo_t {n : Nat} {u : zV} {st : List zV} (h : ∀ v ∈ (u :: st), zvo n v) : zvo n u ∧ ∀ v ∈ st, zvo n v := ⟨h u List.mem_cons_self, fun v hv => h v (List.mem_cons_of_mem _ hv)⟩
theorem zvo_get {n i : Nat} {ls : List zV} (h : ∀ v ∈ ls, zvo n v) : zvo n (ls.getD i zN) := by
  rw [List.getD_eq_getElem?_getD]
  cases hi : ls[i]? with
  | none => exact trivial
  | some v => exact h v (List.mem_of_getElem? hi)
section ZS
variable {p : Program} {l : Launch} {e : Env} {s : State} {m : MethodId} {args : Array Value} {below : List Frame} {meth : Method} {c : Code} {D : va_G} {ca : Nat → ClassId} {A : Nat → Prop} {d μ : Nat} {b : zB} {ad0 : Nat → Nat} {Qs : State → Prop}
variable {pc n : Nat} {S : zMS} {k : zMS → Prop}
theorem zs_push {v : zV} {x : Value} (hz : ∀ n, zvo n v) (hx : ∀ ad, zcv ad v = x)
    (hr : ∀ (H : Heap) (locs : List Loc) (cv : Array Slot) (rest : List Value) (cells slots : Nat), W p l e (zrm d b) s m args below meth c H locs cells slots Qs (F0 m n cv (x :: rest)) → W p l e (zrm d b) s m args below meth c H locs cells slots Qs (F0 m pc cv rest))
    (h : zpu v S k) (hk : ∀ S', k S' → zWS p l e s m args below meth c D ca A d μ b ad0 Qs n S') : zWS p l e s m args below meth c D ca A d μ b ad0 Qs pc S := by
  intro H locs cv ad hs
  have h2 := hk _ h H locs cv ad (hs.stk (st' := v :: S.2.1) (fun u hu => by
    rcases List.mem_cons.mp hu with rfl | hu
    · exact hz _
    · exact hs.2.2.2.2.2.1 u hu))
  refine hr H locs cv _ _ _ ?_
  rw [← hx ad]
  exact h2
theorem zs_ldI {i : Nat} (hr : ∀ (H : Heap) (locs : List Loc) (cv : Array Slot) (rest : List Value) (cells slots : Nat) (x : Int32), cv[i]? = some (.val (.int x)) → W p l e (zrm d b) s m args below meth c H locs cells slots Qs (F0 m n cv (.int x :: rest)) → W p l e (zrm d b) s m args below meth c H locs cells slots Qs (F0 m pc cv rest))
    (h : zldI i S k) (hk : ∀ S', k S' → zWS p l e s m args below meth c D ca A d μ b ad0 Qs n S') : zWS p l e s m args below meth c D ca A d μ b ad0 Qs pc S := by
  intro H locs cv ad hs
  have hv := zvo_get (i := i) hs.2.2.2.2.1
  unfold zldI at h
  rcases hg : S.1.getD i zN with x | x | x | x <;> rw [hg] at h hv
  · exact hr H locs cv _ _ _ (Int32.ofInt x) (zlr_at hs.2.2.2.2.2.2.1 hg (by simp [zN])) (hk _ h H locs cv ad (hs.stk (zvo_I hv hs.2.2.2.2.2.1)))
  all_goals exact absurd h id
theorem zs_ldL {i : Nat} (hr : ∀ (H : Heap) (locs : List Loc) (cv : Array Slot) (rest : List Value) (cells slots : Nat) (x : Int64), cv[i]? = some (.val (.long x)) → W p l e (zrm d b) s m args below meth c H locs cells slots Qs (F0 m n cv (.long x :: rest)) → W p l e (zrm d b) s m args below meth c H locs cells slots Qs (F0 m pc cv rest))
    (h : zldL i S k) (hk : ∀ S', k S' → zWS p l e s m args below meth c D ca A d μ b ad0 Qs n S') : zWS p l e s m args below meth c D ca A d μ b ad0 Qs pc S := by
  intro H locs cv ad hs
  have hv := zvo_get (i := i) hs.2.2.2.2.1
  unfold zldL at h
  rcases hg : S.1.getD i zN with x | x | x | x <;> rw [hg] at h hv
  · exact absurd h id
  · exact hr H locs cv _ _ _ (Int64.ofInt x) (zlr_at hs.2.2.2.2.2.2.1 hg (by simp [zN])) (hk _ h H locs cv ad (hs.stk (zvo_L hv hs.2.2.2.2.2.1)))
  all_goals exact absurd h id
theorem zs_ldR {i : Nat} (hr : ∀ (H : Heap) (locs : List Loc) (cv : Array Slot) (rest : List Value) (cells slots : Nat) (x : Nat), cv[i]? = some (.val (.ref x)) → W p l e (zrm d b) s m args below meth c H locs cells slots Qs (F0 m n cv (.ref x :: rest)) → W p l e (zrm d b) s m args below meth c H locs cells slots Qs (F0 m pc cv rest))
    (h : zldR i S k) (hk : ∀ S', k S' → zWS p l e s m args below meth c D ca A d μ b ad0 Qs n S') : zWS p l e s m args below meth c D ca A d μ b ad0 Qs pc S := by
  intro H locs cv ad hs
  have hv := zvo_get (i := i) hs.2.2.2.2.1
  unfold zldR at h
  rcases hg : S.1.getD i zN with x | x | x | x <;> rw [hg] at h hv
  · exact absurd h id
  · exact absurd h id
  · exact hr H locs cv _ _ _ (ad x) (zlr_at hs.2.2.2.2.2.2.1 hg (by simp [zN])) (hk _ h H locs cv ad (hs.stk (zvo_R hv hs.2.2.2.2.2.1)))
  · exact absurd h id
theorem zs_stI {i : Nat} (hr : ∀ (H : Heap) (locs : List Loc) (cv : Array Slot) (rest : List Value) (cells slots : Nat) (x : Int32) (lv : List (Nat × Value)), lv_has cv (zmaxL μ) lv → (∀ cv' : Array Slot, lv_has cv' (zmaxL μ) ((i, Value.int x) :: lv.filter (fun q => !(q.1 == i) && !(q.1 + 1 == i && q.2.category == 2))) → W p l e (zrm d b) s m args below meth c H locs cells slots Qs (F0 m n cv' rest)) → W p l e (zrm d b) s m args below meth c H locs cells slots Qs (F0 m pc cv (.int x :: rest)))
    (h : zstI i S k) (hk : ∀ S', k S' → zWS p l e s m args below meth c D ca A d μ b ad0 Qs n S') : zWS p l e s m args below meth c D ca A d μ b ad0 Qs pc S := by
  obtain ⟨ls, st, w⟩ := S
  intro H locs cv ad hs
  unfold zstI at h
  have hst := hs.2.2.2.2.2.1
  rcases st with _ | ⟨x | x | x | x, st⟩
  · exact absurd h id
  · obtain ⟨h1, h2⟩ := zvo_t hst
    exact hr H locs cv _ _ _ (Int32.ofInt x) _ (zlr_has.mp hs.2.2.2.2.2.2.1) (fun cv' h' => hk _ h H locs cv' ad (hs.loc (zset_mem hs.2.2.2.2.1 h1 trivial) h2 (zlr_set1 (v := zI x) h')))
  all_goals exact absurd h id
theorem zs_stR {i : Nat} (hr : ∀ (H : Heap) (locs : List Loc) (cv : Array Slot) (rest : List Value) (cells slots : Nat) (x : Nat) (lv : List (Nat × Value)), lv_has cv (zmaxL μ) lv → (∀ cv' : Array Slot, lv_has cv' (zmaxL μ) ((i, Value.ref x) :: lv.filter (fun q => !(q.1 == i) && !(q.1 + 1 == i && q.2.category == 2))) → W p l e (zrm d b) s m args below meth c H locs cells slots Qs (F0 m n cv' rest)) → W p l e (zrm d b) s m args below meth c H locs cells slots Qs (F0 m pc cv (.ref x :: rest)))
    (h : zstR i S k) (hk : ∀ S', k S' → zWS p l e s m args below meth c D ca A d μ b ad0 Qs n S') : zWS p l e s m args below meth c D ca A d μ b ad0 Qs pc S := by
  obtain ⟨ls, st, w⟩ := S
  intro H locs cv ad hs
  unfold zstR at h
  have hst := hs.2.2.2.2.2.1
  rcases st with _ | ⟨x | x | x | x, st⟩
  · exact absurd h id
  · exact absurd h id
  · exact absurd h id
  · obtain ⟨h1, h2⟩ := zvo_t hst
    exact hr H locs cv _ _ _ (ad x) _ (zlr_has.mp hs.2.2.2.2.2.2.1) (fun cv' h' => hk _ h H locs cv' ad (hs.loc (zset_mem hs.2.2.2.2.1 h1 trivial) h2 (zlr_set1 (v := zR x) h')))
  · exact absurd h id
theorem zs_stL {i : Nat} (hr : ∀ (H : Heap) (locs : List Loc) (cv : Array Slot) (rest : List Value) (cells slots : Nat) (x : Int64) (lv : List (Nat × Value)), lv_has cv (zmaxL μ) lv → (∀ cv' : Array Slot, lv_has cv' (zmaxL μ) ((i, Value.long x) :: lv.filter (fun q => !(q.1 == i) && (!(q.1 == i + 1) && !(q.1 + 1 == i && q.2.category == 2)))) → W p l e (zrm d b) s m args below meth c H locs cells slots Qs (F0 m n cv' rest)) → W p l e (zrm d b) s m args below meth c H locs cells slots Qs (F0 m pc cv (.long x :: rest)))
    (h : zstL i S k) (hk : ∀ S', k S' → zWS p l e s m args below meth c D ca A d μ b ad0 Qs n S') : zWS p l e s m args below meth c D ca A d μ b ad0 Qs pc S := by
  obtain ⟨ls, st, w⟩ := S
  intro H locs cv ad hs
  unfold zstL at h
  have hst := hs.2.2.2.2.2.1
  rcases st with _ | ⟨x | x | x | x, st⟩
  · exact absurd h id
  · exact absurd h id
  · obtain ⟨h1, h2⟩ := zvo_t hst
    exact hr H locs cv _ _ _ (Int64.ofInt x) _ (zlr_has.mp hs.2.2.2.2.2.2.1) (fun cv' h' => hk _ h H locs cv' ad (hs.loc (zset2_mem hs.2.2.2.2.1 h1 trivial) h2 (zlr_set2 (v := zL x) h')))
  all_goals exact absurd h id
theorem zs_inc {i : Nat} {z : Int} (hx : p.tables.exec = Jvm.exec) (hb : c.code = zcode μ) (hdg : decode (zcode μ) pc = .ok (.iinc i z, 3)) (hi : i < zmaxL μ)
    (h : zinc i z S k) (hk : ∀ S', k S' → zWS p l e s m args below meth c D ca A d μ b ad0 Qs (pc + 3) S') : zWS p l e s m args below meth c D ca A d μ b ad0 Qs pc S := by
  obtain ⟨ls, st, w⟩ := S
  intro H locs cv ad hs
  have hv := zvo_get (i := i) hs.2.2.2.2.1
  unfold zinc at h
  dsimp only at h hv
  rcases hg : ls.getD i zN with x | x | x | x <;> rw [hg] at h hv
  · have hl := zlr_has.mp hs.2.2.2.2.2.2.1
    have hm : (i, Value.int (Int32.ofInt x)) ∈ zll ad ls := by
      refine zll_mem.mpr ⟨zI x, ?_, by simp [zN], rfl⟩
      show ls[i]? = some (zI x)
      rw [List.getD_eq_getElem?_getD] at hg
      cases hi : ls[i]? with
      | none => rw [hi] at hg; simp [zN] at hg
      | some u => rw [hi] at hg; simp at hg; rw [hg]
    obtain ⟨q, hq⟩ := List.getElem?_of_mem hm
    refine lv_iinc (v := Int32.ofInt (zwr (x + z))) hx hb hdg hl hq (by unfold zwr; rw [Int32.ofInt_toInt, Int32.ofInt_add]) hi rfl (fun cv' h' => ?_)
    exact hk _ h H locs cv' ad (hs.loc (zset_mem hs.2.2.2.2.1 (zr32_of _) trivial) hs.2.2.2.2.2.1 (zlr_set1 (v := zI (zwr (x + z))) h'))
  all_goals exact absurd h id
theorem zs_un {f : Int → Int} {F : Int32 → Int32} (hf : ∀ x, Int32.ofInt (f x) = F (Int32.ofInt x)) (hf2 : ∀ x, zr32 (f x)) (hr : ∀ (H : Heap) (locs : List Loc) (cv : Array Slot) (rest : List Value) (cells slots : Nat) (x : Int32), W p l e (zrm d b) s m args below meth c H locs cells slots Qs (F0 m n cv (.int (F x) :: rest)) → W p l e (zrm d b) s m args below meth c H locs cells slots Qs (F0 m pc cv (.int x :: rest)))
    (h : zun f S k) (hk : ∀ S', k S' → zWS p l e s m args below meth c D ca A d μ b ad0 Qs n S') : zWS p l e s m args below meth c D ca A d μ b ad0 Qs pc S := by
  obtain ⟨ls, st, w⟩ := S
  intro H locs cv ad hs
  unfold zun at h
  have hst := hs.2.2.2.2.2.1
  rcases st with _ | ⟨x | x | x | x, st⟩
  · exact absurd h id
  · obtain ⟨h1, h2⟩ := zvo_t hst
    refine hr H locs cv _ _ _ (Int32.ofInt x) ?_
    rw [← hf]
    exact hk _ h H locs cv ad (hs.stk (zvo_I (hf2 x) h2))
  all_goals exact absurd h id
theorem zs_bin {f : Int → Int → Int} {F : Int32 → Int32 → Int32} (hf : ∀ x y, Int32.ofInt (f x y) = F (Int32.ofInt x) (Int32.ofInt y)) (hf2 : ∀ x y, zr32 (f x y)) (hr : ∀ (H : Heap) (locs : List Loc) (cv : Array Slot) (rest : List Value) (cells slots : Nat) (x y : Int32), W p l e (zrm d b) s m args below meth c H locs cells slots Qs (F0 m n cv (.int (F x y) :: rest)) → W p l e (zrm d b) s m args below meth c H locs cells slots Qs (F0 m pc cv (.int y :: .int x :: rest)))
    (h : zbin f S k) (hk : ∀ S', k S' → zWS p l e s m args below meth c D ca A d μ b ad0 Qs n S') : zWS p l e s m args below meth c D ca A d μ b ad0 Qs pc S := by
  obtain ⟨ls, st, w⟩ := S
  intro H locs cv ad hs
  unfold zbin at h
  have hst := hs.2.2.2.2.2.1
  rcases st with _ | ⟨y | y | y | y, _ | ⟨x | x | x | x, st⟩⟩
  case cons.inl.cons.inl =>
    obtain ⟨h1, h2⟩ := zvo_t hst
    obtain ⟨h3, h4⟩ := zvo_t h2
    refine hr H locs cv _ _ _ (Int32.ofInt x) (Int32.ofInt y) ?_
    rw [← hf]
    exact hk _ h H locs cv ad (hs.stk (zvo_I (hf2 x y) h4))
  all_goals exact absurd h id
theorem zs_binN {f : Int → Int → Int} {F : Int32 → Int32 → Int32} (hf : ∀ x y, Int32.ofInt (f x y) = F (Int32.ofInt x) (Int32.ofInt y)) (hf2 : ∀ x y, zr32 (f x y)) (hr : ∀ (H : Heap) (locs : List Loc) (cv : Array Slot) (rest : List Value) (cells slots : Nat) (x y : Int32), ¬ y = 0 → W p l e (zrm d b) s m args below meth c H locs cells slots Qs (F0 m n cv (.int (F x y) :: rest)) → W p l e (zrm d b) s m args below meth c H locs cells slots Qs (F0 m pc cv (.int y :: .int x :: rest)))
    (h : zbinN f S k) (hk : ∀ S', k S' → zWS p l e s m args below meth c D ca A d μ b ad0 Qs n S') : zWS p l e s m args below meth c D ca A d μ b ad0 Qs pc S := by
  obtain ⟨ls, st, w⟩ := S
  intro H locs cv ad hs
  unfold zbinN at h
  have hst := hs.2.2.2.2.2.1
  rcases st with _ | ⟨y | y | y | y, _ | ⟨x | x | x | x, st⟩⟩
  case cons.inl.cons.inl =>
    obtain ⟨h1, h2⟩ := zvo_t hst
    obtain ⟨h3, h4⟩ := zvo_t h2
    obtain ⟨h5, h6⟩ := zck_e h
    refine hr H locs cv _ _ _ (Int32.ofInt x) (Int32.ofInt y) (fun q => h5 ((zr32_eq h1 zr32_0).mp q)) ?_
    rw [← hf]
    exact hk _ h6 H locs cv ad (hs.stk (zvo_I (hf2 x y) h4))
  all_goals exact absurd h id
theorem zs_lbin {f : Int → Int → Int} {F : Int64 → Int64 → Int64} (hf : ∀ x y, Int64.ofInt (f x y) = F (Int64.ofInt x) (Int64.ofInt y)) (hf2 : ∀ x y, zr64 (f x y)) (hr : ∀ (H : Heap) (locs : List Loc) (cv : Array Slot) (rest : List Value) (cells slots : Nat) (x y : Int64), W p l e (zrm d b) s m args below meth c H locs cells slots Qs (F0 m n cv (.long (F x y) :: rest)) → W p l e (zrm d b) s m args below meth c H locs cells slots Qs (F0 m pc cv (.long y :: .long x :: rest)))
    (h : zlbin f S k) (hk : ∀ S', k S' → zWS p l e s m args below meth c D ca A d μ b ad0 Qs n S') : zWS p l e s m args below meth c D ca A d μ b ad0 Qs pc S := by
  obtain ⟨ls, st, w⟩ := S
  intro H locs cv ad hs
  unfold zlbin at h
  have hst := hs.2.2.2.2.2.1
  rcases st with _ | ⟨y | y | y | y, _ | ⟨x | x | x | x, st⟩⟩
  case cons.inr.inl.cons.inr.inl =>
    obtain ⟨h1, h2⟩ := zvo_t hst
    obtain ⟨h3, h4⟩ := zvo_t h2
    refine hr H locs cv _ _ _ (Int64.ofInt x) (Int64.ofInt y) ?_
    rw [← hf]
    exact hk _ h H locs cv ad (hs.stk (zvo_L (hf2 x y) h4))
  all_goals exact absurd h id
theorem zs_lbinN {f : Int → Int → Int} {F : Int64 → Int64 → Int64} (hf : ∀ x y, Int64.ofInt (f x y) = F (Int64.ofInt x) (Int64.ofInt y)) (hf2 : ∀ x y, zr64 (f x y)) (hr : ∀ (H : Heap) (locs : List Loc) (cv : Array Slot) (rest : List Value) (cells slots : Nat) (x y : Int64), ¬ y = 0 → W p l e (zrm d b) s m args below meth c H locs cells slots Qs (F0 m n cv (.long (F x y) :: rest)) → W p l e (zrm d b) s m args below meth c H locs cells slots Qs (F0 m pc cv (.long y :: .long x :: rest)))
    (h : zlbinN f S k) (hk : ∀ S', k S' → zWS p l e s m args below meth c D ca A d μ b ad0 Qs n S') : zWS p l e s m args below meth c D ca A d μ b ad0 Qs pc S := by
  obtain ⟨ls, st, w⟩ := S
  intro H locs cv ad hs
  unfold zlbinN at h
  have hst := hs.2.2.2.2.2.1
  rcases st with _ | ⟨y | y | y | y, _ | ⟨x | x | x | x, st⟩⟩
  case cons.inr.inl.cons.inr.inl =>
    obtain ⟨h1, h2⟩ := zvo_t hst
    obtain ⟨h3, h4⟩ := zvo_t h2
    obtain ⟨h5, h6⟩ := zck_e h
    refine hr H locs cv _ _ _ (Int64.ofInt x) (Int64.ofInt y) (fun q => h5 ((zr64_eq h1 (y := 0) ⟨by decide, by decide⟩).mp q)) ?_
    rw [← hf]
    exact hk _ h6 H locs cv ad (hs.stk (zvo_L (hf2 x y) h4))
  all_goals exact absurd h id
theorem zs_lcm (hx : p.tables.exec = Jvm.exec) (hb : c.code = zcode μ) (hdg : decode (zcode μ) pc = .ok (.lcmp, 1)) (h : zlcm S k) (hk : ∀ S', k S' → zWS p l e s m args below meth c D ca A d μ b ad0 Qs (pc + 1) S') : zWS p l e s m args below meth c D ca A d μ b ad0 Qs pc S := by
  obtain ⟨ls, st, w⟩ := S
  intro H locs cv ad hs
  unfold zlcm at h
  have hst := hs.2.2.2.2.2.1
  rcases st with _ | ⟨y | y | y | y, _ | ⟨x | x | x | x, st⟩⟩
  case cons.inr.inl.cons.inr.inl =>
    obtain ⟨h1, h2⟩ := zvo_t hst
    obtain ⟨h3, h4⟩ := zvo_t h2
    have e1 : lg_cmp (Int64.ofInt x) (Int64.ofInt y) = Int32.ofInt (zcmp x y) := by
      unfold lg_cmp zcmp
      by_cases q1 : y < x
      · rw [if_pos q1, if_pos ((zr64_lt h1 h3).mpr q1)]; rfl
      · rw [if_neg q1, if_neg (fun q => q1 ((zr64_lt h1 h3).mp q))]
        by_cases q2 : x = y
        · rw [if_pos q2, if_pos ((zr64_eq h3 h1).mpr q2)]; rfl
        · rw [if_neg q2, if_neg (fun q => q2 ((zr64_eq h3 h1).mp q))]; rfl
    refine W.lcmp hx hb hdg ?_
    rw [e1]
    refine hk _ h H locs cv ad (hs.stk (zvo_I ?_ h4))
    unfold zcmp
    split
    · exact ⟨by decide, by decide⟩
    · split
      · exact ⟨by decide, by decide⟩
      · exact ⟨by decide, by decide⟩
  all_goals exact absurd h id
theorem zs_lng (hx : p.tables.exec = Jvm.exec) (hb : c.code = zcode μ) (hdg : decode (zcode μ) pc = .ok (.lneg, 1)) (h : zlng S k) (hk : ∀ S', k S' → zWS p l e s m args below meth c D ca A d μ b ad0 Qs (pc + 1) S') : zWS p l e s m args below meth c D ca A d μ b ad0 Qs pc S := by
  obtain ⟨ls, st, w⟩ := S
  intro H locs cv ad hs
  unfold zlng at h
  have hst := hs.2.2.2.2.2.1
  rcases st with _ | ⟨y | y | y | y, st⟩
  case cons.inr.inl =>
    obtain ⟨h1, h2⟩ := zvo_t hst
    have e1 : -(Int64.ofInt y) = Int64.ofInt (zwl (-y)) := by unfold zwl; rw [Int64.ofInt_toInt, Int64.ofInt_neg]
    refine lv_lneg hx hb hdg ?_
    rw [e1]
    exact hk _ h H locs cv ad (hs.stk (zvo_L (zr64_of _) h2))
  all_goals exact absurd h id
theorem zs_i2l (hx : p.tables.exec = Jvm.exec) (hb : c.code = zcode μ) (hdg : decode (zcode μ) pc = .ok (.i2l, 1)) (h : zi2l S k) (hk : ∀ S', k S' → zWS p l e s m args below meth c D ca A d μ b ad0 Qs (pc + 1) S') : zWS p l e s m args below meth c D ca A d μ b ad0 Qs pc S := by
  obtain ⟨ls, st, w⟩ := S
  intro H locs cv ad hs
  unfold zi2l at h
  have hst := hs.2.2.2.2.2.1
  rcases st with _ | ⟨y | y | y | y, st⟩
  case cons.inl =>
    obtain ⟨h1, h2⟩ := zvo_t hst
    have h6 : zr64 y := by unfold zvo zr32 at h1; unfold zr64; constructor <;> simp at h1 ⊢ <;> omega
    have e1 : (Int32.ofInt y).toInt64 = Int64.ofInt y := Int64.toInt_inj.mp (by rw [Int32.toInt_toInt64, zr32_t h1, zr64_t h6])
    refine lv_i2l hx hb hdg e1 ?_
    exact hk _ h H locs cv ad (hs.stk (zvo_L h6 h2))
  all_goals exact absurd h id
theorem zs_dup (hx : p.tables.exec = Jvm.exec) (hb : c.code = zcode μ) (hdg : decode (zcode μ) pc = .ok (.dup, 1)) (h : zdup S k) (hk : ∀ S', k S' → zWS p l e s m args below meth c D ca A d μ b ad0 Qs (pc + 1) S') : zWS p l e s m args below meth c D ca A d μ b ad0 Qs pc S := by
  obtain ⟨ls, st, w⟩ := S
  intro H locs cv ad hs
  unfold zdup at h
  have hst := hs.2.2.2.2.2.1
  rcases st with _ | ⟨y | y | y | y, st⟩
  case cons.inl =>
    obtain ⟨h1, h2⟩ := zvo_t hst
    exact lv_dup hx hb hdg rfl (hk _ h H locs cv ad (hs.stk (zvo_I h1 hst)))
  case cons.inr.inr.inl =>
    obtain ⟨h1, h2⟩ := zvo_t hst
    exact lv_dup hx hb hdg rfl (hk _ h H locs cv ad (hs.stk (zvo_R h1 hst)))
  all_goals exact absurd h id
theorem zs_du2 (hx : p.tables.exec = Jvm.exec) (hb : c.code = zcode μ) (hdg : decode (zcode μ) pc = .ok (.dup2, 1)) (h : zdu2 S k) (hk : ∀ S', k S' → zWS p l e s m args below meth c D ca A d μ b ad0 Qs (pc + 1) S') : zWS p l e s m args below meth c D ca A d μ b ad0 Qs pc S := by
  obtain ⟨ls, st, w⟩ := S
  intro H locs cv ad hs
  unfold zdu2 at h
  have hst := hs.2.2.2.2.2.1
  rcases st with _ | ⟨y | y | y | y, _ | ⟨x | x | x | x, st⟩⟩
  case cons.inl.cons.inr.inr.inl =>
    obtain ⟨h1, h2⟩ := zvo_t hst
    obtain ⟨h3, h4⟩ := zvo_t h2
    exact lv_dup2_11 hx hb hdg rfl rfl (hk _ h H locs cv ad (hs.stk (zvo_I h1 (zvo_R h3 hst))))
  all_goals exact absurd h id
theorem zs_pop (hx : p.tables.exec = Jvm.exec) (hb : c.code = zcode μ) (hdg : decode (zcode μ) pc = .ok (.pop, 1)) (h : zpop S k) (hk : ∀ S', k S' → zWS p l e s m args below meth c D ca A d μ b ad0 Qs (pc + 1) S') : zWS p l e s m args below meth c D ca A d μ b ad0 Qs pc S := by
  obtain ⟨ls, st, w⟩ := S
  intro H locs cv ad hs
  unfold zpop at h
  have hst := hs.2.2.2.2.2.1
  rcases st with _ | ⟨y | y | y | y, st⟩
  case cons.inl =>
    obtain ⟨h1, h2⟩ := zvo_t hst
    exact lv_pop hx hb hdg rfl (hk _ h H locs cv ad (hs.stk h2))
  case cons.inr.inr.inl =>
    obtain ⟨h1, h2⟩ := zvo_t hst
    exact lv_pop hx hb hdg rfl (hk _ h H locs cv ad (hs.stk h2))
  all_goals exact absurd h id
end ZS
end
section
/-! instructions of the heap -/
theorem zce_obj {ca : Nat → ClassId} {ad : Nat → Nat} {w : zW} {k ci : Nat} (h : zkd w.1 k = ci) (hc : ci < 20) : zce ca ad w k = .inr (ci, (List.range (znf ci)).map (zfv ad w.1 w.2.1 ci k)) := by
  unfold zce; rw [h, if_pos hc]
theorem zce_i {ca : Nat → ClassId} {ad : Nat → Nat} {w : zW} {k t : Nat} (h : zkd w.1 k = t) (ht : t = 20 ∨ t = 21) : zce ca ad w k = .inl (ca t, (zln w.1 k).toNat, .inl (fun j => Int32.ofInt (w.2.1 k j))) := by
  unfold zce; rw [h, if_neg (by omega), if_neg (by omega), if_pos (by omega)]
theorem zce_l {ca : Nat → ClassId} {ad : Nat → Nat} {w : zW} {k : Nat} (h : zkd w.1 k = 22) : zce ca ad w k = .inl (ca 22, (zln w.1 k).toNat, .inr (.inl (fun j => Int64.ofInt (w.2.2 k j)))) := by
  unfold zce; rw [h, if_neg (by omega), if_pos rfl]
theorem zce_q {ca : Nat → ClassId} {ad : Nat → Nat} {w : zW} {k t : Nat} (h : zkd w.1 k = t) (ht : t = 23 ∨ t = 24) : zce ca ad w k = .inl (ca t, (zln w.1 k).toNat, .inr (.inr (.inr (.inr (fun j => (zrf w.1 k j).map ad))))) := by
  unfold zce; rw [h, if_neg (by omega), if_neg (by omega), if_neg (by omega)]
theorem zfv_congr {ad ad' : Nat → Nat} {σ σ' : zSh} {M M' : zM} {ci k : Nat} (h2 : ∀ j, (zrf σ' k j).map ad' = (zrf σ k j).map ad) (h4 : ∀ j, M' k j = M k j) : zfv ad' σ' M' ci k = zfv ad σ M ci k := by
  funext j
  unfold zfv
  rw [h2 j, h4 j]
theorem zce_congr {ca : Nat → ClassId} {ad ad' : Nat → Nat} {w w' : zW} {k : Nat} (h1 : zkd w'.1 k = zkd w.1 k) (h2 : ∀ j, (zrf w'.1 k j).map ad' = (zrf w.1 k j).map ad) (h3 : zln w'.1 k = zln w.1 k) (h4 : ∀ j, w'.2.1 k j = w.2.1 k j) (h5 : ∀ j, w'.2.2 k j = w.2.2 k j) : zce ca ad' w' k = zce ca ad w k := by
  unfold zce
  rw [h1, h3, zfv_congr h2 h4, funext (fun j => congrArg Int32.ofInt (h4 j)), funext (fun j => congrArg Int64.ofInt (h5 j)), funext h2]
theorem zmap_set {α : Type} {n j : Nat} {f g : Nat → α} {v : α} (hj : j < n) (hv : g j = v) (ho : ∀ i, i ≠ j → g i = f i) : ((List.range n).map f).set j v = (List.range n).map g := by
  apply List.ext_getElem?
  intro i
  rw [List.getElem?_set, List.length_map, List.length_range]
  by_cases hi : i < n
  · by_cases hij : j = i
    · subst hij
      rw [if_pos rfl, if_pos hj, List.getElem?_map, List.getElem?_range hj, ← hv]
      rfl
    · rw [if_neg hij, List.getElem?_map, List.getElem?_map, List.getElem?_range hi]
      simp only [Option.map_some]
      rw [ho i (Ne.symm hij)]
  · rw [if_neg (by omega), List.getElem?_eq_none (by simp; omega), List.getElem?_eq_none (by simp; omega)]
theorem zat_e2 {P Q : Bool} (h : (P && Q) = true) : P = true ∧ Q = true := by rw [Bool.and_eq_true] at h; exact h
/-- what a getfield, a putfield of the code links -/
theorem zchf_e {μ k : Nat} {r : List Nat} {put : Bool} (h : zchf μ k r put = true) : ∃ (C : String) (T : u_T) (N : Nat), vwCl[r.getD 0 0]? = some (C, T, N) ∧ r.getD 1 0 < N ∧ (Jvm.Cond.fieldLink (zy μ).cls k C (T (r.getD 1 0)).2.1 (T (r.getD 1 0)).2.2.1) ∈ zwd μ ∧ r.getD 3 0 = zft (r.getD 0 0) (r.getD 1 0) ∧ (put = true → (T (r.getD 1 0)).2.2.2 = true → (zy μ).name = "<init>" ∧ C = (zy μ).cls) := by
  unfold zchf at h
  obtain ⟨h1, h2⟩ := zat_e2 h
  rw [decide_eq_true_eq] at h1
  unfold zclf at h2
  cases hq : vwCl[r.getD 0 0]? with
  | none => rw [hq] at h2; cases h2
  | some q =>
    rw [hq] at h2
    obtain ⟨C, T, N⟩ := q
    obtain ⟨h3, h4⟩ := zat_e2 h2
    obtain ⟨h5, h6⟩ := zat_e2 h3
    rw [decide_eq_true_eq] at h5
    refine ⟨C, T, N, rfl, h5, zwd_in (zat_e h6), h1, fun hp hf => ?_⟩
    subst hp
    dsimp only at h4
    rw [hf] at h4
    simp at h4
    exact h4
theorem zci_lt {ci : Nat} {q : vw_C} (h : vwCl[ci]? = some q) : ci < 11 := (List.getElem?_eq_some_iff.mp h).1
theorem zin_of {i : Int} {n : Int} (hi : zr32 i) (h : 0 ≤ i ∧ i < n) : vp_in (Int32.ofInt i) n.toNat := vp_in_iff.mpr (by rw [zr32_t hi]; omega)
section ZH
variable {p : Program} {l : Launch} {e : Env} {s : State} {m : MethodId} {args : Array Value} {below : List Frame} {meth : Method} {c : Code} {D : va_G} {ca : Nat → ClassId} {A : Nat → Prop} {d μ : Nat} {b : zB} {ad0 : Nat → Nat} {Qs : State → Prop}
variable {pc n : Nat} {S : zMS} {k : zMS → Prop}
theorem zs_gf {r : List Nat} {idx : Nat} (C0 : zCx p s m args meth c D ca A μ) (hdg : decode (zcode μ) pc = .ok (.getfield idx, 3)) (hch : zchf μ idx r false = true) (h : zgf (r.getD 0 0) (r.getD 1 0) (r.getD 3 0) S k) (hk : ∀ S', k S' → zWS p l e s m args below meth c D ca A d μ b ad0 Qs (pc + 3) S') : zWS p l e s m args below meth c D ca A d μ b ad0 Qs pc S := by
  obtain ⟨hx, hb, hml, hr, hown, hlocks, hin, hts, hnw, hao, hK, hA⟩ := C0
  obtain ⟨C, T, N, hcl, hj, hw, hty, -⟩ := zchf_e hch
  obtain ⟨q1, -, -, q4, q5, ty0, q6, q7⟩ := zclp_all _ _ hcl
  obtain ⟨ls, st, w⟩ := S
  intro H locs cv ad hs
  unfold zgf at h
  have hst := hs.2.2.2.2.2.1
  rcases st with _ | ⟨y | y | y | y, st⟩
  case cons.inr.inr.inl =>
    obtain ⟨h1, h2⟩ := zvo_t hst
    obtain ⟨h3, h4⟩ := zkq_e h
    dsimp only at h3
    have hci := zci_lt hcl
    have hcell : (zws ca ad w)[y]? = some (ad y, .inr (r.getD 0 0, (List.range (znf (r.getD 0 0))).map (zfv ad w.1 w.2.1 (r.getD 0 0) y))) := by
      rw [zws_at h1, zce_obj h3 (by omega)]
    have hf : ((List.range (znf (r.getD 0 0))).map (zfv ad w.1 w.2.1 (r.getD 0 0) y))[r.getD 1 0]? = some (zfv ad w.1 w.2.1 (r.getD 0 0) y (r.getD 1 0)) := by
      rw [List.getElem?_map, List.getElem?_range (by rw [q4]; exact hj)]; rfl
    refine va_get hx hb hts (fun u hu => zwd_in (q1 u hu)) hown hK hs.1 y hcell hcl (r.getD 1 0) hj (hts _ hw) (fun x hx => by rw [(q7 _ hj).1] at hx; exact hx) hf hdg ?_
    rw [hty] at h4
    unfold zfv
    split at h4
    · next h6 =>
      rw [if_pos h6]
      cases hz : zrf w.1 y (r.getD 1 0) with
      | none => rw [hz] at h4; exact absurd h4 id
      | some q =>
        rw [hz] at h4
        exact hk _ h4 H locs cv ad (hs.stk (zvo_R (hs.2.2.2.1.2.2.1 _ _ _ hz) h2))
    · next h6 =>
      rw [if_neg h6]
      exact hk _ h4 H locs cv ad (hs.stk (zvo_I (hs.2.2.2.1.1 _ _) h2))
  all_goals exact absurd h id
theorem zs_put {r : List Nat} {idx y : Nat} {x : zV} {ls st : List zV} {w w' : zW} {H : Heap} {locs : List Loc} {cv : Array Slot} {ad : Nat → Nat} (C0 : zCx p s m args meth c D ca A μ) (hdg : decode (zcode μ) pc = .ok (.putfield idx, 3)) (hch : zchf μ idx r true = true)
    (hs : zst D ca A s b ad0 (zmaxL μ) H locs cv ad (ls, x :: zR y :: st, w)) (hy : zkd w.1 y = r.getD 0 0)
    (hn : ∀ ty : FieldType, (zft (r.getD 0 0) (r.getD 1 0) = 0 ∧ ty = .int ∨ zft (r.getD 0 0) (r.getD 1 0) = 1 ∧ ty = .boolean ∨ zft (r.getD 0 0) (r.getD 1 0) = 2 ∧ ty.isReference = true) → narrow ty (zcv ad x) = zcv ad x ∧ fits ty (zcv ad x) = true)
    (hl : w'.1.length = w.1.length) (hz : zsz w'.1 = zsz w.1) (hok : zok w') (ho : ∀ j, j ≠ y → zce ca ad w' j = zce ca ad w j) (hy' : zkd w'.1 y = r.getD 0 0) (hv : zfv ad w'.1 w'.2.1 (r.getD 0 0) y (r.getD 1 0) = zcv ad x) (hvo : ∀ i, i ≠ r.getD 1 0 → zfv ad w'.1 w'.2.1 (r.getD 0 0) y i = zfv ad w.1 w.2.1 (r.getD 0 0) y i)
    (hk : zWS p l e s m args below meth c D ca A d μ b ad0 Qs (pc + 3) (ls, st, w')) : W p l e (zrm d b) s m args below meth c H locs (w.1.length - b.1) (zsz w.1 - b.2.1) Qs (F0 m pc cv (zcv ad x :: .ref (ad y) :: st.map (zcv ad))) := by
  obtain ⟨hx, hb, hml, hr, hown, hlocks, hin, hts, hnw, hao, hK, hA⟩ := C0
  obtain ⟨C, T, N, hcl, hj, hw, hty, hfi⟩ := zchf_e hch
  obtain ⟨q1, -, -, q4, q5, ty0, q6, q7⟩ := zclp_all _ _ hcl
  have hci := zci_lt hcl
  have hst := hs.2.2.2.2.2.1
  obtain ⟨h0, h1⟩ := zvo_t hst
  obtain ⟨h1, h2⟩ := zvo_t h1
  have hcell : (zws ca ad w)[y]? = some (ad y, .inr (r.getD 0 0, (List.range (znf (r.getD 0 0))).map (zfv ad w.1 w.2.1 (r.getD 0 0) y))) := by
    rw [zws_at h1, zce_obj hy (by omega)]
  have hnf := hn (ty0 (r.getD 1 0)) (q7 _ hj).2
  have hlen : r.getD 1 0 < ((List.range (znf (r.getD 0 0))).map (zfv ad w.1 w.2.1 (r.getD 0 0) y)).length := by rw [List.length_map, List.length_range, q4]; exact hj
  have heq : (zws ca ad w).set y (ad y, .inr (r.getD 0 0, ((List.range (znf (r.getD 0 0))).map (zfv ad w.1 w.2.1 (r.getD 0 0) y)).set (r.getD 1 0) (zcv ad x))) = zws ca ad w' := by
    refine zws_set hl ho ?_
    rw [zce_obj hy' (by omega)]
    rw [zmap_set (by rw [q4]; exact hj) hv hvo]
  have fin : ∀ (H1 : Heap) (locs1 : List Loc), va_P D vwCl ((zws ca ad w).set y (ad y, .inr (r.getD 0 0, ((List.range (znf (r.getD 0 0))).map (zfv ad w.1 w.2.1 (r.getD 0 0) y)).set (r.getD 1 0) (zcv ad x)))) H1 → va_D A ((zws ca ad w).set y (ad y, .inr (r.getD 0 0, ((List.range (znf (r.getD 0 0))).map (zfv ad w.1 w.2.1 (r.getD 0 0) y)).set (r.getD 1 0) (zcv ad x)))) → va_S A s.heap H1 locs1 → W p l e (zrm d b) s m args below meth c H1 locs1 (w.1.length - b.1) (zsz w.1 - b.2.1) Qs (F0 m (pc + 3) cv (st.map (zcv ad))) := by
    intro H1 locs1 g1 g2 g3
    rw [heq] at g1 g2
    have e1 := hk H1 locs1 cv ad ⟨g1, g2, g3, hok, by rw [hl]; exact hs.2.2.2.2.1, by rw [hl]; exact h2, hs.2.2.2.2.2.2.1, by unfold zfr; rw [hl, hz]; exact hs.2.2.2.2.2.2.2.1, hs.2.2.2.2.2.2.2.2⟩
    dsimp only at e1
    rw [hl, hz] at e1
    exact e1
  cases hfin : (T (r.getD 1 0)).2.2.2 with
  | false => exact va_put hx hb hts (fun u hu => zwd_in (q1 u hu)) ty0 q6 q5 hown hK hs.1 hs.2.1 hs.2.2.1 y hcell hcl (r.getD 1 0) hj (hts _ hw) (fun x hx => by rw [(q7 _ hj).1] at hx; exact hx) hfin (q6 _ hj) hnf.1 hnf.2 hlen hdg fin
  | true =>
    obtain ⟨f1, f2⟩ := hfi rfl hfin
    exact va_putF hx hb hts (fun u hu => zwd_in (q1 u hu)) ty0 q6 q5 hown hK hs.1 hs.2.1 hs.2.2.1 y hcell hcl (r.getD 1 0) hj (hts _ hw) (fun x hx => by rw [(q7 _ hj).1] at hx; exact hx) hfin (hin f1) (by rw [(q7 _ hj).1]; exact f2) (q6 _ hj) hnf.1 hnf.2 hlen hdg fin
end ZH
theorem zmu_s {M : zM} {k j : Nat} {v : Int} : zmu M k j v k j = v := by unfold zmu; rw [if_pos ⟨rfl, rfl⟩]
theorem zmu_j {M : zM} {k j i : Nat} {v : Int} (h : i ≠ j) : zmu M k j v k i = M k i := by unfold zmu; rw [if_neg (fun q => h q.2)]
theorem zmu_k {M : zM} {k j a i : Nat} {v : Int} (h : a ≠ k) : zmu M k j v a i = M a i := by unfold zmu; rw [if_neg (fun q => h q.1)]
theorem zok_mu {σ : zSh} {M L : zM} {k j : Nat} {v : Int} (h : zok (σ, M, L)) (hv : zr32 v) : zok (σ, zmu M k j v, L) := ⟨zmu_r h.1 hv, h.2.1, h.2.2.1, h.2.2.2⟩
theorem zok_ml {σ : zSh} {M L : zM} {k j : Nat} {v : Int} (h : zok (σ, M, L)) (hv : zr64 v) : zok (σ, M, zmu L k j v) := ⟨h.1, zmu_r h.2.1 hv, h.2.2.1, h.2.2.2⟩
/-! a reference is stored -/
theorem zsr_len {σ : zSh} {k j q : Nat} : (zsr σ k j q).length = σ.length := by
  unfold zsr
  split
  · exact List.length_set
  · rfl
theorem zsr_at {σ : zSh} {k j q : Nat} (a : Nat) : (zsr σ k j q)[a]? = if a = k then (σ[a]?).map (fun e => (e.1, e.2.1, e.2.2.set j (some q))) else σ[a]? := by
  unfold zsr
  split
  · next e he =>
    rw [List.getElem?_set]
    by_cases h : k = a
    · subst h
      rw [if_pos rfl, if_pos rfl, if_pos (List.getElem?_eq_some_iff.mp he).1, he]
      rfl
    · rw [if_neg h, if_neg (Ne.symm h)]
  · next he =>
    by_cases h : a = k
    · subst h
      rw [if_pos rfl, he]
      rfl
    · rw [if_neg h]
theorem zsr_kd {σ : zSh} {k j q : Nat} (a : Nat) : zkd (zsr σ k j q) a = zkd σ a := by
  unfold zkd
  rw [zsr_at]
  by_cases h : a = k
  · rw [if_pos h]; cases σ[a]? <;> rfl
  · rw [if_neg h]
theorem zsr_ln {σ : zSh} {k j q : Nat} (a : Nat) : zln (zsr σ k j q) a = zln σ a := by
  unfold zln
  rw [zsr_at]
  by_cases h : a = k
  · rw [if_pos h]; cases σ[a]? <;> rfl
  · rw [if_neg h]
theorem zsr_rfo {σ : zSh} {k j q a i : Nat} (h : ¬ (a = k ∧ i = j)) : zrf (zsr σ k j q) a i = zrf σ a i := by
  unfold zrf
  rw [zsr_at]
  by_cases ha : a = k
  · rw [if_pos ha]
    cases hz : σ[a]? with
    | none => rfl
    | some e =>
      show ((e.2.2.set j (some q))[i]?).join = (e.2.2[i]?).join
      rw [List.getElem?_set, if_neg (fun g => h ⟨ha, g.symm⟩)]
  · rw [if_neg ha]
theorem zsr_rfs {σ : zSh} {k j q : Nat} {e : Nat × Nat × List (Option Nat)} (he : σ[k]? = some e) (hj : j < e.2.2.length) : zrf (zsr σ k j q) k j = some q := by
  unfold zrf
  rw [zsr_at, if_pos rfl, he]
  show ((e.2.2.set j (some q))[j]?).join = some q
  rw [List.getElem?_set, if_pos rfl, if_pos hj]
  rfl
theorem zsz_set : ∀ (σ : zSh) (k : Nat) (e e' : Nat × Nat × List (Option Nat)), σ[k]? = some e → zsz1 e' = zsz1 e → zsz (σ.set k e') = zsz σ
  | [], k, e, e', h, _ => by simp at h
  | a :: σ, 0, e, e', h, h2 => by
    cases h
    simp [zsz, h2]
  | a :: σ, k + 1, e, e', h, h2 => by
    simp [zsz]
    exact zsz_set σ k e e' h h2
theorem zsr_sz {σ : zSh} {k j q : Nat} : zsz (zsr σ k j q) = zsz σ := by
  unfold zsr
  split
  · next e he => exact zsz_set σ k e _ he rfl
  · rfl
theorem zok_sr {σ : zSh} {M L : zM} {k j q : Nat} (h : zok (σ, M, L)) (hq : q < σ.length) : zok (zsr σ k j q, M, L) := by
  refine ⟨h.1, h.2.1, fun a i u hu => ?_, fun a e he => ?_⟩
  · show u < (zsr σ k j q).length
    rw [zsr_len]
    by_cases g : a = k ∧ i = j
    · obtain ⟨g1, g2⟩ := g
      subst g1; subst g2
      unfold zrf at hu
      dsimp only at hu
      rw [zsr_at, if_pos rfl] at hu
      cases hz : σ[a]? with
      | none => rw [hz] at hu; cases hu
      | some e =>
        rw [hz] at hu
        have hu : ((e.2.2.set i (some q))[i]?).join = some u := hu
        rw [List.getElem?_set, if_pos rfl] at hu
        split at hu
        · cases hu; exact hq
        · cases hu
    · rw [zsr_rfo g] at hu
      exact h.2.2.1 a i u hu
  · have he : (zsr σ k j q)[a]? = some e := he
    rw [zsr_at] at he
    split at he
    · cases hz : σ[a]? with
      | none => rw [hz] at he; cases he
      | some e' =>
        rw [hz] at he
        cases he
        have h3 := h.2.2.2 a e' hz
        simpa using h3
    · exact h.2.2.2 a e he
end
section
/-! putfield, arrays -/
section ZA
variable {p : Program} {l : Launch} {e : Env} {s : State} {m : MethodId} {args : Array Value} {below : List Frame} {meth : Method} {c : Code} {D : va_G} {ca : Nat → ClassId} {A : Nat → Prop} {d μ : Nat} {b : zB} {ad0 : Nat → Nat} {Qs : State → Prop}
variable {pc n : Nat} {S : zMS} {k : zMS → Prop}
theorem zbl_e {x : Int} {k : Int → Prop} (h : zbl x k) : (x = 0 ∨ x = 1) ∧ k x := by
  unfold zbl at h
  split at h
  · next h1 => subst h1; exact ⟨Or.inl rfl, h⟩
  · split at h
    · next h1 => subst h1; exact ⟨Or.inr rfl, h⟩
    · exact absurd h id
theorem zs_pfI {r : List Nat} {idx y : Nat} {x : Int} {ls st : List zV} {w : zW} (C0 : zCx p s m args meth c D ca A μ) (hdg : decode (zcode μ) pc = .ok (.putfield idx, 3)) (hch : zchf μ idx r true = true) (hy : zkd w.1 y = r.getD 0 0) (hty : zft (r.getD 0 0) (r.getD 1 0) = 0 ∨ zft (r.getD 0 0) (r.getD 1 0) = 1 ∧ (x = 0 ∨ x = 1))
    (hk : zWS p l e s m args below meth c D ca A d μ b ad0 Qs (pc + 3) (ls, st, w.1, zmu w.2.1 y (r.getD 1 0) x, w.2.2)) : zWS p l e s m args below meth c D ca A d μ b ad0 Qs pc (ls, zI x :: zR y :: st, w) := by
  intro H locs cv ad hs
  obtain ⟨h0, h1⟩ := zvo_t hs.2.2.2.2.2.1
  have hne : ¬ zft (r.getD 0 0) (r.getD 1 0) = 2 := by rcases hty with h | h <;> omega
  refine zs_put C0 hdg hch hs hy ?_ (w' := (w.1, zmu w.2.1 y (r.getD 1 0) x, w.2.2)) rfl rfl (zok_mu hs.2.2.2.1 h0) ?_ hy ?_ ?_ hk
  · intro ty ht
    rcases ht with ⟨-, rfl⟩ | ⟨t1, rfl⟩ | ⟨t1, -⟩
    · exact ⟨rfl, rfl⟩
    · rcases hty with h | ⟨-, rfl | rfl⟩
      · omega
      · exact ⟨rfl, rfl⟩
      · exact ⟨rfl, rfl⟩
    · exact absurd t1 hne
  · intro j hj
    exact zce_congr rfl (fun _ => rfl) rfl (fun i => zmu_k hj) (fun _ => rfl)
  · unfold zfv
    rw [if_neg hne]
    show Value.int (Int32.ofInt (zmu _ _ _ _ _ _)) = _
    rw [zmu_s]
    rfl
  · intro i hi
    unfold zfv
    show (if _ then _ else Value.int (Int32.ofInt (zmu _ _ _ _ _ _))) = _
    rw [zmu_j hi]
theorem zs_pfR {r : List Nat} {idx y q : Nat} {ls st : List zV} {w : zW} (C0 : zCx p s m args meth c D ca A μ) (hdg : decode (zcode μ) pc = .ok (.putfield idx, 3)) (hch : zchf μ idx r true = true) (hy : zkd w.1 y = r.getD 0 0) (hty : zft (r.getD 0 0) (r.getD 1 0) = 2)
    (hk : zWS p l e s m args below meth c D ca A d μ b ad0 Qs (pc + 3) (ls, st, zsr w.1 y (r.getD 1 0) q, w.2.1, w.2.2)) : zWS p l e s m args below meth c D ca A d μ b ad0 Qs pc (ls, zR q :: zR y :: st, w) := by
  intro H locs cv ad hs
  obtain ⟨h0, h1⟩ := zvo_t hs.2.2.2.2.2.1
  obtain ⟨C, T, N, hcl, hj, -, -, -⟩ := zchf_e hch
  have q4 := (zclp_all _ _ hcl).2.2.2.1
  obtain ⟨h1, h2⟩ := zvo_t h1
  have hok := hs.2.2.2.1
  obtain ⟨ee, hee⟩ : ∃ e, w.1[y]? = some e := ⟨_, List.getElem?_eq_getElem h1⟩
  have he1 : ee.1 = r.getD 0 0 := by unfold zkd at hy; rw [hee] at hy; exact hy
  have hlen : r.getD 1 0 < ee.2.2.length := by
    have h3 := (hok.2.2.2 y ee hee).1
    have := zci_lt hcl
    rcases h3 with ⟨-, h3⟩ | h3
    · rw [h3, he1, q4]; exact hj
    · omega
  refine zs_put C0 hdg hch hs hy ?_ (w' := (zsr w.1 y (r.getD 1 0) q, w.2.1, w.2.2)) zsr_len zsr_sz (zok_sr hok h0) ?_ (by rw [zsr_kd]; exact hy) ?_ ?_ hk
  · intro ty ht
    rcases ht with ⟨t1, -⟩ | ⟨t1, -⟩ | ⟨-, t1⟩
    · omega
    · omega
    · cases ty <;> first | (simp [FieldType.isReference] at t1; done) | exact ⟨rfl, rfl⟩
  · intro j hj
    exact zce_congr (zsr_kd j) (fun i => by rw [zsr_rfo (fun g => hj g.1)]) (zsr_ln j) (fun _ => rfl) (fun _ => rfl)
  · unfold zfv
    rw [if_pos hty]
    show va_rf ((zrf (zsr _ _ _ _) _ _).map ad) = _
    rw [zsr_rfs hee hlen]
    rfl
  · intro i hi
    unfold zfv
    show (if _ then va_rf ((zrf (zsr _ _ _ _) _ _).map ad) else _) = _
    rw [zsr_rfo (fun g => hi g.2)]
theorem zs_pf {r : List Nat} {idx : Nat} (C0 : zCx p s m args meth c D ca A μ) (hdg : decode (zcode μ) pc = .ok (.putfield idx, 3)) (hch : zchf μ idx r true = true) (h : zpf (r.getD 0 0) (r.getD 1 0) (r.getD 3 0) S k) (hk : ∀ S', k S' → zWS p l e s m args below meth c D ca A d μ b ad0 Qs (pc + 3) S') : zWS p l e s m args below meth c D ca A d μ b ad0 Qs pc S := by
  obtain ⟨C, T, N, hcl, hj, -, hty, -⟩ := zchf_e hch
  obtain ⟨-, -, -, -, -, ty0, -, q7⟩ := zclp_all _ _ hcl
  have h7 := (q7 _ hj).2
  obtain ⟨ls, st, w⟩ := S
  unfold zpf at h
  rw [hty] at h
  split at h
  · next h6 =>
    rcases st with _ | ⟨x | x | x | x, _ | ⟨y | y | y | y, st⟩⟩
    case cons.inl.cons.inr.inr.inl =>
      obtain ⟨h3, h4⟩ := zkq_e h
      exact zs_pfI C0 hdg hch h3 (Or.inl h6) (hk _ h4)
    all_goals exact absurd h id
  · next h6 =>
    rcases st with _ | ⟨x | x | x | x, _ | ⟨y | y | y | y, st⟩⟩
    case cons.inl.cons.inr.inr.inl =>
      obtain ⟨h3, h4⟩ := zkq_e h
      obtain ⟨h5, h8⟩ := zbl_e h4
      exact zs_pfI C0 hdg hch h3 (Or.inr ⟨h6, h5⟩) (hk _ h8)
    all_goals exact absurd h id
  · next h6 h6' =>
    have h2 : zft (r.getD 0 0) (r.getD 1 0) = 2 := by
      rcases h7 with h | h | h
      · exact absurd h.1 h6
      · exact absurd h.1 h6'
      · exact h.1
    rcases st with _ | ⟨x | x | x | x, _ | ⟨y | y | y | y, st⟩⟩
    case cons.inr.inr.inl.cons.inr.inr.inl =>
      obtain ⟨h3, h4⟩ := zkq_e h
      exact zs_pfR C0 hdg hch h3 h2 (hk _ h4)
    all_goals exact absurd h id
theorem zix_e {σ : zSh} {t a : Nat} {i : Int} {k : Prop} (h : zix σ t a i k) : zkd σ a = t ∧ (0 ≤ i ∧ i < zln σ a) ∧ k := by
  obtain ⟨h1, h2⟩ := zkq_e h
  obtain ⟨h3, h4⟩ := zck_e h2
  exact ⟨h1, h3, h4⟩
theorem zs_ial (C0 : zCx p s m args meth c D ca A μ) (hdg : decode (zcode μ) pc = .ok (.iaload, 1)) (h : zial 20 S k) (hk : ∀ S', k S' → zWS p l e s m args below meth c D ca A d μ b ad0 Qs (pc + 1) S') : zWS p l e s m args below meth c D ca A d μ b ad0 Qs pc S := by
  obtain ⟨hx, hb, hml, hr, hown, hlocks, hin, hts, hnw, hao, hK, hA⟩ := C0
  obtain ⟨ls, st, w⟩ := S
  unfold zial at h
  rcases st with _ | ⟨x | x | x | x, _ | ⟨y | y | y | y, st⟩⟩
  case cons.inl.cons.inr.inr.inl =>
    intro H locs cv ad hs
    obtain ⟨h0, h1⟩ := zvo_t hs.2.2.2.2.2.1
    obtain ⟨h1, h2⟩ := zvo_t h1
    obtain ⟨h3, h4, h5⟩ := zix_e h
    have e1 := hk _ h5 H locs cv ad (hs.stk (zvo_I (hs.2.2.2.1.1 _ _) h2))
    refine va_iald hx hb hK hs.1 y 0 (by rw [zws_at h1, zce_i h3 (Or.inl rfl)]) rfl (zin_of h0 h4) hdg ?_
    rw [zr32_n h0]
    exact e1
  all_goals exact absurd h id
theorem zs_bal (C0 : zCx p s m args meth c D ca A μ) (hdg : decode (zcode μ) pc = .ok (.baload, 1)) (h : zial 21 S k) (hk : ∀ S', k S' → zWS p l e s m args below meth c D ca A d μ b ad0 Qs (pc + 1) S') : zWS p l e s m args below meth c D ca A d μ b ad0 Qs pc S := by
  obtain ⟨hx, hb, hml, hr, hown, hlocks, hin, hts, hnw, hao, hK, hA⟩ := C0
  obtain ⟨ls, st, w⟩ := S
  unfold zial at h
  rcases st with _ | ⟨x | x | x | x, _ | ⟨y | y | y | y, st⟩⟩
  case cons.inl.cons.inr.inr.inl =>
    intro H locs cv ad hs
    obtain ⟨h0, h1⟩ := zvo_t hs.2.2.2.2.2.1
    obtain ⟨h1, h2⟩ := zvo_t h1
    obtain ⟨h3, h4, h5⟩ := zix_e h
    have e1 := hk _ h5 H locs cv ad (hs.stk (zvo_I (hs.2.2.2.1.1 _ _) h2))
    refine va_zald hx hb hK hs.1 y 1 (by rw [zws_at h1, zce_i h3 (Or.inr rfl)]) rfl (zin_of h0 h4) hdg ?_
    rw [zr32_n h0]
    exact e1
  all_goals exact absurd h id
theorem zs_lal (C0 : zCx p s m args meth c D ca A μ) (hdg : decode (zcode μ) pc = .ok (.laload, 1)) (h : zlal S k) (hk : ∀ S', k S' → zWS p l e s m args below meth c D ca A d μ b ad0 Qs (pc + 1) S') : zWS p l e s m args below meth c D ca A d μ b ad0 Qs pc S := by
  obtain ⟨hx, hb, hml, hr, hown, hlocks, hin, hts, hnw, hao, hK, hA⟩ := C0
  obtain ⟨ls, st, w⟩ := S
  unfold zlal at h
  rcases st with _ | ⟨x | x | x | x, _ | ⟨y | y | y | y, st⟩⟩
  case cons.inl.cons.inr.inr.inl =>
    intro H locs cv ad hs
    obtain ⟨h0, h1⟩ := zvo_t hs.2.2.2.2.2.1
    obtain ⟨h1, h2⟩ := zvo_t h1
    obtain ⟨h3, h4, h5⟩ := zix_e h
    have e1 := hk _ h5 H locs cv ad (hs.stk (zvo_L (hs.2.2.2.1.2.1 _ _) h2))
    refine va_lald hx hb hK hs.1 y 2 (by rw [zws_at h1, zce_l h3]) rfl (zin_of h0 h4) hdg ?_
    rw [zr32_n h0]
    exact e1
  all_goals exact absurd h id
theorem zs_aal {t : Nat} (ht : t = 23 ∨ t = 24) (C0 : zCx p s m args meth c D ca A μ) (hdg : decode (zcode μ) pc = .ok (.aaload, 1)) (h : zaal t S k) (hk : ∀ S', k S' → zWS p l e s m args below meth c D ca A d μ b ad0 Qs (pc + 1) S') : zWS p l e s m args below meth c D ca A d μ b ad0 Qs pc S := by
  obtain ⟨hx, hb, hml, hr, hown, hlocks, hin, hts, hnw, hao, hK, hA⟩ := C0
  obtain ⟨ls, st, w⟩ := S
  unfold zaal at h
  rcases st with _ | ⟨x | x | x | x, _ | ⟨y | y | y | y, st⟩⟩
  case cons.inl.cons.inr.inr.inl =>
    intro H locs cv ad hs
    obtain ⟨h0, h1⟩ := zvo_t hs.2.2.2.2.2.1
    obtain ⟨h1, h2⟩ := zvo_t h1
    obtain ⟨h3, h4, h5⟩ := zix_e h
    dsimp only at h5
    cases hz : zrf w.1 y x.toNat with
    | none => rw [hz] at h5; exact absurd h5 id
    | some q =>
      rw [hz] at h5
      have e1 := hk _ h5 H locs cv ad (hs.stk (zvo_R (hs.2.2.2.1.2.2.1 _ _ _ hz) h2))
      rcases ht with rfl | rfl
      · refine va_aldq hx hb hK hs.1 y 3 (by rw [zws_at h1, zce_q h3 (Or.inl rfl)]) rfl (zin_of h0 h4) hdg ?_
        rw [zr32_n h0, hz]
        exact e1
      · refine va_aldq hx hb hK hs.1 y 4 (by rw [zws_at h1, zce_q h3 (Or.inr rfl)]) rfl (zin_of h0 h4) hdg ?_
        rw [zr32_n h0, hz]
        exact e1
  all_goals exact absurd h id
/-- behind a store into an array -/
theorem zst.put {H H1 : Heap} {locs locs1 : List Loc} {cv : Array Slot} {ad : Nat → Nat} {ls st st' : List zV} {w w' : zW} {a : Nat} {x : va_E} {nL : Nat} (hs : zst D ca A s b ad0 nL H locs cv ad (ls, st, w)) (h2 : ∀ v ∈ st', zvo w.1.length v) (hl : w'.1.length = w.1.length) (hz : zsz w'.1 = zsz w.1) (hok : zok w') (ho : ∀ j, j ≠ a → zce ca ad w' j = zce ca ad w j) (hx : zce ca ad w' a = x)
    (g1 : va_P D vwCl ((zws ca ad w).set a (ad a, x)) H1) (g2 : va_D A ((zws ca ad w).set a (ad a, x))) (g3 : va_S A s.heap H1 locs1) : zst D ca A s b ad0 nL H1 locs1 cv ad (ls, st', w') := by
  rw [zws_set hl ho hx] at g1 g2
  exact ⟨g1, g2, g3, hok, by rw [hl]; exact hs.2.2.2.2.1, by rw [hl]; exact h2, hs.2.2.2.2.2.2.1, by unfold zfr; rw [hl, hz]; exact hs.2.2.2.2.2.2.2.1, hs.2.2.2.2.2.2.2.2⟩
theorem zs_ias (C0 : zCx p s m args meth c D ca A μ) (hdg : decode (zcode μ) pc = .ok (.iastore, 1)) (h : zias S k) (hk : ∀ S', k S' → zWS p l e s m args below meth c D ca A d μ b ad0 Qs (pc + 1) S') : zWS p l e s m args below meth c D ca A d μ b ad0 Qs pc S := by
  obtain ⟨hx, hb, hml, hr, hown, hlocks, hin, hts, hnw, hao, hK, hA⟩ := C0
  obtain ⟨ls, st, w⟩ := S
  unfold zias at h
  rcases st with _ | ⟨x | x | x | x, _ | ⟨i | i | i | i, _ | ⟨y | y | y | y, st⟩⟩⟩
  case cons.inl.cons.inl.cons.inr.inr.inl =>
    intro H locs cv ad hs
    obtain ⟨h0, h1⟩ := zvo_t hs.2.2.2.2.2.1
    obtain ⟨h6, h1⟩ := zvo_t h1
    obtain ⟨h1, h2⟩ := zvo_t h1
    obtain ⟨h3, h4, h5⟩ := zix_e h
    refine va_iast hx hb hK hs.1 hs.2.1 hs.2.2.1 y 0 (by rw [zws_at h1, zce_i h3 (Or.inl rfl)]) rfl (zin_of h6 h4) hdg (fun H1 locs1 g1 g2 g3 => ?_)
    refine hk _ h5 H1 locs1 cv ad (hs.put h2 rfl rfl (zok_mu hs.2.2.2.1 h0) (fun j hj => zce_congr rfl (fun _ => rfl) rfl (fun i => zmu_k hj) (fun _ => rfl)) ?_ g1 g2 g3)
    rw [zce_i (w := (w.1, zmu w.2.1 y i.toNat x, w.2.2)) h3 (Or.inl rfl)]
    congr 4
    funext j
    rw [zr32_n h6]
    by_cases hj : j = i.toNat
    · subst hj
      simp [upd, zmu]
    · simp [upd, zmu, hj]
  all_goals exact absurd h id
theorem zs_bas (C0 : zCx p s m args meth c D ca A μ) (hdg : decode (zcode μ) pc = .ok (.bastore, 1)) (h : zbas S k) (hk : ∀ S', k S' → zWS p l e s m args below meth c D ca A d μ b ad0 Qs (pc + 1) S') : zWS p l e s m args below meth c D ca A d μ b ad0 Qs pc S := by
  obtain ⟨hx, hb, hml, hr, hown, hlocks, hin, hts, hnw, hao, hK, hA⟩ := C0
  obtain ⟨ls, st, w⟩ := S
  unfold zbas at h
  rcases st with _ | ⟨x | x | x | x, _ | ⟨i | i | i | i, _ | ⟨y | y | y | y, st⟩⟩⟩
  case cons.inl.cons.inl.cons.inr.inr.inl =>
    intro H locs cv ad hs
    obtain ⟨h0, h1⟩ := zvo_t hs.2.2.2.2.2.1
    obtain ⟨h6, h1⟩ := zvo_t h1
    obtain ⟨h1, h2⟩ := zvo_t h1
    obtain ⟨h3, h4, h5⟩ := zix_e h
    obtain ⟨h7, h5⟩ := zbl_e h5
    have hnar : vp_nar .boolean (Int32.ofInt x) = Int32.ofInt x := by rcases h7 with rfl | rfl <;> rfl
    refine va_zast hx hb hK hs.1 hs.2.1 hs.2.2.1 y 1 (by rw [zws_at h1, zce_i h3 (Or.inr rfl)]) rfl (zin_of h6 h4) hdg (fun H1 locs1 g1 g2 g3 => ?_)
    refine hk _ h5 H1 locs1 cv ad (hs.put h2 rfl rfl (zok_mu hs.2.2.2.1 h0) (fun j hj => zce_congr rfl (fun _ => rfl) rfl (fun i => zmu_k hj) (fun _ => rfl)) ?_ g1 g2 g3)
    rw [zce_i (w := (w.1, zmu w.2.1 y i.toNat x, w.2.2)) h3 (Or.inr rfl), hnar]
    congr 4
    funext j
    rw [zr32_n h6]
    by_cases hj : j = i.toNat
    · subst hj
      simp [upd, zmu]
    · simp [upd, zmu, hj]
  all_goals exact absurd h id
theorem zs_las (C0 : zCx p s m args meth c D ca A μ) (hdg : decode (zcode μ) pc = .ok (.lastore, 1)) (h : zlas S k) (hk : ∀ S', k S' → zWS p l e s m args below meth c D ca A d μ b ad0 Qs (pc + 1) S') : zWS p l e s m args below meth c D ca A d μ b ad0 Qs pc S := by
  obtain ⟨hx, hb, hml, hr, hown, hlocks, hin, hts, hnw, hao, hK, hA⟩ := C0
  obtain ⟨ls, st, w⟩ := S
  unfold zlas at h
  rcases st with _ | ⟨x | x | x | x, _ | ⟨i | i | i | i, _ | ⟨y | y | y | y, st⟩⟩⟩
  case cons.inr.inl.cons.inl.cons.inr.inr.inl =>
    intro H locs cv ad hs
    obtain ⟨h0, h1⟩ := zvo_t hs.2.2.2.2.2.1
    obtain ⟨h6, h1⟩ := zvo_t h1
    obtain ⟨h1, h2⟩ := zvo_t h1
    obtain ⟨h3, h4, h5⟩ := zix_e h
    refine va_last hx hb hK hs.1 hs.2.1 hs.2.2.1 y 2 (by rw [zws_at h1, zce_l h3]) rfl (zin_of h6 h4) hdg (fun H1 locs1 g1 g2 g3 => ?_)
    refine hk _ h5 H1 locs1 cv ad (hs.put h2 rfl rfl (zok_ml hs.2.2.2.1 h0) (fun j hj => zce_congr rfl (fun _ => rfl) rfl (fun _ => rfl) (fun i => zmu_k hj)) ?_ g1 g2 g3)
    rw [zce_l (w := (w.1, w.2.1, zmu w.2.2 y i.toNat x)) h3]
    congr 5
    funext j
    rw [zr32_n h6]
    by_cases hj : j = i.toNat
    · subst hj
      simp [vp_updL, zmu]
    · simp [vp_updL, zmu, hj]
  all_goals exact absurd h id
theorem zs_aas {t : Nat} (ht : t = 23 ∨ t = 24) (C0 : zCx p s m args meth c D ca A μ) (hdg : decode (zcode μ) pc = .ok (.aastore, 1)) (h : zaas t S k) (hk : ∀ S', k S' → zWS p l e s m args below meth c D ca A d μ b ad0 Qs (pc + 1) S') : zWS p l e s m args below meth c D ca A d μ b ad0 Qs pc S := by
  obtain ⟨hx, hb, hml, hr, hown, hlocks, hin, hts, hnw, hao, hK, hA⟩ := C0
  obtain ⟨ls, st, w⟩ := S
  unfold zaas at h
  rcases st with _ | ⟨x | x | x | x, _ | ⟨i | i | i | i, _ | ⟨y | y | y | y, st⟩⟩⟩
  case cons.inr.inr.inl.cons.inl.cons.inr.inr.inl =>
    intro H locs cv ad hs
    obtain ⟨h0, h1⟩ := zvo_t hs.2.2.2.2.2.1
    obtain ⟨h6, h1⟩ := zvo_t h1
    obtain ⟨h1, h2⟩ := zvo_t h1
    obtain ⟨h3, h4, h5⟩ := zix_e h
    obtain ⟨h7, h10⟩ := zkq_e h5
    dsimp only at h3 h4 h7
    have hok := hs.2.2.2.1
    obtain ⟨ee, hee⟩ : ∃ e, w.1[y]? = some e := ⟨_, List.getElem?_eq_getElem h1⟩
    have he1 : ee.1 = t := by unfold zkd at h3; rw [hee] at h3; exact h3
    have hlen : i.toNat < ee.2.2.length := by
      have h8 := (hok.2.2.2 y ee hee).2.1 (by omega)
      have h9 : zln w.1 y = (ee.2.1 : Int) := by unfold zln; rw [hee]
      rw [h8]
      omega
    have e9 : ∀ a : Nat, (fun j => (zrf (zsr w.1 y i.toNat x) y j).map ad) = va_up (fun j => (zrf w.1 y j).map ad) (Int32.ofInt i).toNatClampNeg (some (ad x)) := by
      intro _
      funext j
      rw [zr32_n h6]
      by_cases hj : j = i.toNat
      · subst hj
        rw [zsr_rfs hee hlen]
        simp [va_up]
      · rw [zsr_rfo (fun g => hj g.2)]
        simp [va_up, hj]
    have ho : ∀ j, j ≠ y → zce ca ad (zsr w.1 y i.toNat x, w.2.1, w.2.2) j = zce ca ad w j := fun j hj => zce_congr (zsr_kd j) (fun i => by rw [zsr_rfo (fun g => hj g.1)]) (zsr_ln j) (fun _ => rfl) (fun _ => rfl)
    rcases ht with rfl | rfl
    · refine va_astq (r := (RX2, TX2, 2)) hx hb hK hs.1 hs.2.1 hs.2.2.1 y 3 x 2 (by rw [zws_at h1, zce_q h3 (Or.inl rfl)]) rfl (by rw [zws_at h0, zce_obj h7 (by decide)]; rfl) rfl (zin_of h6 h4) hdg (fun H1 locs1 g1 g2 g3 => ?_)
      have e8 := hk _ h10 H1 locs1 cv ad (hs.put h2 zsr_len zsr_sz (zok_sr hok h0) ho (by rw [zce_q (t := 23) (by rw [zsr_kd]; exact h3) (Or.inl rfl), e9 0, zsr_ln]) g1 g2 g3)
      dsimp only at e8
      rw [zsr_len, zsr_sz] at e8
      exact e8
    · refine va_astq (r := (RX5, TX5, 2)) hx hb hK hs.1 hs.2.1 hs.2.2.1 y 4 x 5 (by rw [zws_at h1, zce_q h3 (Or.inr rfl)]) rfl (by rw [zws_at h0, zce_obj h7 (by decide)]; rfl) rfl (zin_of h6 h4) hdg (fun H1 locs1 g1 g2 g3 => ?_)
      have e8 := hk _ h10 H1 locs1 cv ad (hs.put h2 zsr_len zsr_sz (zok_sr hok h0) ho (by rw [zce_q (t := 24) (by rw [zsr_kd]; exact h3) (Or.inr rfl), e9 0, zsr_ln]) g1 g2 g3)
      dsimp only at e8
      rw [zsr_len, zsr_sz] at e8
      exact e8
  all_goals exact absurd h id
theorem zln_r {w : zW} {a : Nat} (h : zok w) : zr32 (zln w.1 a) ∧ 0 ≤ zln w.1 a := by
  unfold zln
  cases hz : w.1[a]? with
  | none => exact ⟨zr32_0, Int.le_refl 0⟩
  | some e =>
    have h2 := (h.2.2.2 a e hz).2.2
    show zr32 (e.2.1 : Int) ∧ 0 ≤ (e.2.1 : Int)
    unfold zr32
    omega
theorem zs_ale (C0 : zCx p s m args meth c D ca A μ) (hdg : decode (zcode μ) pc = .ok (.arraylength, 1)) (h : zale S k) (hk : ∀ S', k S' → zWS p l e s m args below meth c D ca A d μ b ad0 Qs (pc + 1) S') : zWS p l e s m args below meth c D ca A d μ b ad0 Qs pc S := by
  obtain ⟨hx, hb, hml, hr, hown, hlocks, hin, hts, hnw, hao, hK, hA⟩ := C0
  obtain ⟨ls, st, w⟩ := S
  unfold zale at h
  rcases st with _ | ⟨y | y | y | y, st⟩
  case cons.inr.inr.inl =>
    intro H locs cv ad hs
    obtain ⟨h1, h2⟩ := zvo_t hs.2.2.2.2.2.1
    obtain ⟨h34, h5⟩ := zkb_e h
    rw [Bool.and_eq_true] at h34
    have h3 := Nat.le_of_ble_eq_true h34.1
    have h4 := Nat.le_of_ble_eq_true h34.2
    dsimp only at h3 h4 h5
    obtain ⟨g1, g2⟩ := zln_r (a := y) hs.2.2.2.1
    have e1 := hk _ h5 H locs cv ad (hs.stk (zvo_I g1 h2))
    have e2 : Int32.ofNat (zln w.1 y).toNat = Int32.ofInt (zln w.1 y) := by
      rw [← Int32.ofInt_eq_ofNat, Int.toNat_of_nonneg g2]
    rcases (show zkd w.1 y = 20 ∨ zkd w.1 y = 21 ∨ zkd w.1 y = 22 ∨ zkd w.1 y = 23 ∨ zkd w.1 y = 24 by omega) with q | q | q | q | q
    · exact va_alen hx hb hK hs.1 y 0 (by rw [zws_at h1, zce_i q (Or.inl rfl)]) rfl e2 hdg e1
    · exact va_alen hx hb hK hs.1 y 1 (by rw [zws_at h1, zce_i q (Or.inr rfl)]) rfl e2 hdg e1
    · exact va_alen hx hb hK hs.1 y 2 (by rw [zws_at h1, zce_l q]) rfl e2 hdg e1
    · exact va_alen hx hb hK hs.1 y 3 (by rw [zws_at h1, zce_q q (Or.inl rfl)]) rfl e2 hdg e1
    · exact va_alen hx hb hK hs.1 y 4 (by rw [zws_at h1, zce_q q (Or.inr rfl)]) rfl e2 hdg e1
  all_goals exact absurd h id
end ZA
end
section
/-! new cells -/
theorem zsz_app : ∀ (σ : zSh) (e : Nat × Nat × List (Option Nat)), zsz (σ ++ [e]) = zsz σ + zsz1 e
  | [], e => by simp [zsz]
  | a :: σ, e => by simp [zsz, zsz_app σ e]; omega
theorem zap_at {σ : zSh} {e : Nat × Nat × List (Option Nat)} {k : Nat} (h : k < σ.length) : (σ ++ [e])[k]? = σ[k]? := List.getElem?_append_left h
theorem zap_last {σ : zSh} {e : Nat × Nat × List (Option Nat)} : (σ ++ [e])[σ.length]? = some e := by simp
theorem zcv_up {ad : Nat → Nat} {n q : Nat} {v : zV} (h : zvo n v) : zcv (va_up ad n q) v = zcv ad v := by
  rcases v with x | x | x | x
  · rfl
  · rfl
  · have h : x < n := h
    show Value.ref (va_up ad n q x) = Value.ref (ad x)
    rw [va_up_ne _ _ (by omega)]
  · rfl
theorem zrep_none {n j : Nat} : (((List.replicate n none : List (Option Nat)))[j]?).join = none := by
  rw [List.getElem?_replicate]
  split <;> rfl
section ZN
variable {p : Program} {l : Launch} {e : Env} {s : State} {m : MethodId} {args : Array Value} {below : List Frame} {meth : Method} {c : Code} {D : va_G} {ca : Nat → ClassId} {A : Nat → Prop} {d μ : Nat} {b : zB} {ad0 : Nat → Nat} {Qs : State → Prop}
variable {pc n : Nat} {S : zMS} {k : zMS → Prop}
/-- a cell more: the state behind it -/
theorem zst.new {H H1 : Heap} {locs : List Loc} {cv : Array Slot} {ad : Nat → Nat} {ls st st' : List zV} {σ : zSh} {M L L' : zM} {q nL : Nat} {x : va_E} {en : Nat × Nat × List (Option Nat)} (hs : zst D ca A s b ad0 nL H locs cv ad (ls, st, σ, M, L)) (hst : ∀ v ∈ st', zvo σ.length v)
    (he : (en.1 < 11 ∧ en.2.2.length = znf en.1 ∨ 20 ≤ en.1 ∧ en.1 < 25) ∧ (23 ≤ en.1 → en.2.2.length = en.2.1) ∧ en.2.1 ≤ 20000) (hno : ∀ j : Nat, (en.2.2[j]?).join = none) (hL : L' = L ∨ L' = zmz L σ.length) (hb1 : σ.length + 1 ≤ b.1 + b.2.2.1 ∧ zsz σ + zsz1 en ≤ b.2.1 + b.2.2.2)
    (hx : zce ca (va_up ad σ.length q) (σ ++ [en], zmz M σ.length, L') σ.length = x) (g1 : va_P D vwCl (zws ca ad (σ, M, L) ++ [(q, x)]) H1) (g2 : va_D A (zws ca ad (σ, M, L) ++ [(q, x)])) (g3 : va_S A s.heap H1 locs) :
    zst D ca A s b ad0 nL H1 locs cv (va_up ad σ.length q) (ls, zR σ.length :: st', σ ++ [en], zmz M σ.length, L') ∧ ∀ v ∈ st', zcv (va_up ad σ.length q) v = zcv ad v := by
  obtain ⟨p1, p2, p3, p4, p5, p6, p7, p8, p9⟩ := hs
  have hlen : (σ ++ [en]).length = σ.length + 1 := by simp
  have heq : zws ca ad (σ, M, L) ++ [(q, x)] = zws ca (va_up ad σ.length q) (σ ++ [en], zmz M σ.length, L') := by
    refine zws_push hlen (fun j hj => ⟨va_up_ne _ _ (Nat.ne_of_lt hj), ?_⟩) ⟨va_up_self _ _ _, hx⟩
    have hj : j < σ.length := hj
    refine zce_congr ?_ (fun i => ?_) ?_ (fun i => ?_) (fun i => ?_)
    · unfold zkd; dsimp only; rw [zap_at hj]
    · have e1 : zrf (σ ++ [en]) j i = zrf σ j i := by unfold zrf; rw [zap_at hj]
      dsimp only
      rw [e1]
      cases hz : zrf σ j i with
      | none => rfl
      | some u =>
        have hu := p4.2.2.1 j i u hz
        dsimp only at hu
        rw [Option.map_some, Option.map_some, va_up_ne _ _ (Nat.ne_of_lt hu)]
    · unfold zln; dsimp only; rw [zap_at hj]
    · show zmz M σ.length j i = M j i
      unfold zmz; rw [if_neg (Nat.ne_of_lt hj)]
    · show L' j i = L j i
      rcases hL with rfl | rfl
      · rfl
      · unfold zmz; rw [if_neg (Nat.ne_of_lt hj)]
  rw [heq] at g1 g2
  have up : ∀ v : zV, zvo σ.length v → zvo (σ ++ [en]).length v := by
    intro v hv
    rcases v with x | x | x | x
    · exact hv
    · exact hv
    · have hv : x < σ.length := hv
      show x < (σ ++ [en]).length
      omega
    · exact hv
  refine ⟨⟨g1, g2, g3, ⟨zmz_r p4.1 zr32_0, ?_, ?_, ?_⟩, fun v hv => up v (p5 v hv), ?_, ?_, ?_, ?_⟩, fun v hv => zcv_up (hst v hv)⟩
  · rcases hL with rfl | rfl
    · exact p4.2.1
    · exact zmz_r p4.2.1 ⟨by decide, by decide⟩
  · intro a i u hu
    show u < (σ ++ [en]).length
    have hu : zrf (σ ++ [en]) a i = some u := hu
    by_cases ha : a < σ.length
    · have e1 : zrf (σ ++ [en]) a i = zrf σ a i := by unfold zrf; rw [zap_at ha]
      rw [e1] at hu
      have := p4.2.2.1 a i u hu
      dsimp only at this
      omega
    · by_cases ha2 : a = σ.length
      · subst ha2
        unfold zrf at hu
        rw [zap_last] at hu
        dsimp only at hu
        rw [hno] at hu
        cases hu
      · unfold zrf at hu
        rw [List.getElem?_eq_none (by omega)] at hu
        cases hu
  · intro a e he2
    have he2 : (σ ++ [en])[a]? = some e := he2
    by_cases ha : a < σ.length
    · rw [zap_at ha] at he2
      exact p4.2.2.2 a e he2
    · by_cases ha2 : a = σ.length
      · subst ha2
        rw [zap_last] at he2
        cases he2
        exact he
      · rw [List.getElem?_eq_none (by omega)] at he2
        cases he2
  · intro v hv
    rcases List.mem_cons.mp hv with rfl | hv
    · show σ.length < (σ ++ [en]).length
      omega
    · exact up v (hst v hv)
  · refine ⟨p7.1, p7.2.1, fun j v hj hn => ?_⟩
    rw [zcv_up (p5 v (List.mem_of_getElem? hj))]
    exact p7.2.2 j v hj hn
  · have h8 : zfr b σ := p8
    unfold zfr at h8 ⊢
    dsimp only
    rw [zsz_app, hlen]
    omega
  · intro a ha
    have h8 : zfr b σ := p8
    unfold zfr at h8
    rw [va_up_ne _ _ (by omega)]
    exact p9 a ha
theorem zmap_up {ad : Nat → Nat} {n q : Nat} {st : List zV} (h : ∀ v ∈ st, zcv (va_up ad n q) v = zcv ad v) : st.map (zcv (va_up ad n q)) = st.map (zcv ad) := List.map_congr_left h
theorem zs_new {idx ci nf pl : Nat} (C0 : zCx p s m args meth c D ca A μ) (hdg : decode (zcode μ) pc = .ok (.new idx, 3)) (hch : zcln vwCl[ci]? (zy μ).cls idx pl nf = true) (h : znew b ci nf S k) (hk : ∀ S', k S' → zWS p l e s m args below meth c D ca A d μ b ad0 Qs (pc + 3) S') : zWS p l e s m args below meth c D ca A d μ b ad0 Qs pc S := by
  obtain ⟨hx, hb, hml, hr, hown, hlocks, hin, hts, hnw, hao, hK, hA⟩ := C0
  obtain ⟨ls, st, σ, M, L⟩ := S
  unfold zcln at hch
  cases hq : vwCl[ci]? with
  | none => rw [hq] at hch; cases hch
  | some q0 =>
    rw [hq] at hch
    obtain ⟨C, T, N⟩ := q0
    obtain ⟨k1, k2⟩ := zat_e2 hch
    rw [decide_eq_true_eq] at k1
    dsimp only at k1 k2
    obtain ⟨q1, q2, q3, q4, q5, ty0, q6, q7⟩ := zclp_all _ _ hq
    have hci := zci_lt hq
    dsimp only at q1 q2 q3 q4 q5 q6 q7
    intro H locs cv ad hs
    unfold znew at h
    obtain ⟨⟨h1, h2⟩, h3⟩ := zck_e h
    dsimp only at h1 h2 h3
    have h8 : zfr b σ := hs.2.2.2.2.2.2.2.1
    unfold zfr at h8
    have hkd : zkd (σ ++ [(ci, 0, List.replicate nf none)]) σ.length = ci := by unfold zkd; rw [zap_last]
    have hrf : ∀ j, zrf (σ ++ [(ci, 0, List.replicate nf none)]) σ.length j = none := by intro j; unfold zrf; rw [zap_last]; exact zrep_none
    have hsz : zsz1 (ci, 0, List.replicate nf none) = nf := by unfold zsz1; rw [if_pos (by show ci < 20; omega)]; show znf ci = nf; omega
    have hv : ∀ (ad' : Nat → Nat) (j : Nat), j < N → defaultValue (ty0 j) = zfv ad' (σ ++ [(ci, 0, List.replicate nf none)]) (zmz M σ.length) ci σ.length j := by
      intro ad' j hj
      unfold zfv
      rw [hrf]
      have hz : zmz M σ.length σ.length j = 0 := by unfold zmz; rw [if_pos rfl]
      rw [hz]
      rcases (q7 j hj).2 with ⟨t1, t2⟩ | ⟨t1, t2⟩ | ⟨t1, t2⟩
      · rw [if_neg (by omega), t2]; rfl
      · rw [if_neg (by omega), t2]; rfl
      · rw [if_pos t1]
        cases hty : ty0 j <;> rw [hty] at t2 <;> first | (simp [FieldType.isReference] at t2; done) | rfl
    refine va_new (ci := ci) (fs := (List.range (znf ci)).map (zfv ad (σ ++ [(ci, 0, List.replicate nf none)]) (zmz M σ.length) ci σ.length)) (C := C) (T := T) (N := N) hx hb hts (fun u hu => zwd_in (q1 u hu)) ty0 q6 hown (hts _ (zwd_in (zat_e k2))) (hts _ (zwd_in q2)) (hts _ (zwd_in q3)) hK hs.1 hs.2.1 hs.2.2.1 hA hq ?_ ?_ ?_ hdg (fun q H1 g1 g2 g3 => ?_)
    · intro j hj
      rw [hv ad j hj]
      unfold vp_V
      rw [List.getD_eq_getElem?_getD, List.getElem?_map, List.getElem?_range (by omega)]
      rfl
    · show σ.length - b.1 + 1 ≤ b.2.2.1; omega
    · show zsz σ - b.2.1 + N ≤ b.2.2.2; omega
    · have hxx : zce ca (va_up ad σ.length q) (σ ++ [(ci, 0, List.replicate nf none)], zmz M σ.length, L) σ.length = .inr (ci, (List.range (znf ci)).map (zfv ad (σ ++ [(ci, 0, List.replicate nf none)]) (zmz M σ.length) ci σ.length)) := by
        have hfv : zfv (va_up ad σ.length q) (σ ++ [(ci, 0, List.replicate nf none)]) (zmz M σ.length) ci σ.length = zfv ad (σ ++ [(ci, 0, List.replicate nf none)]) (zmz M σ.length) ci σ.length := zfv_congr (fun j => by rw [hrf]; rfl) (fun j => rfl)
        rw [zce_obj hkd (by omega)]
        dsimp only
        rw [hfv]
      obtain ⟨n1, n2⟩ := hs.new (en := (ci, 0, List.replicate nf none)) hs.2.2.2.2.2.1 ⟨Or.inl ⟨hci, by show (List.replicate nf none).length = znf ci; rw [List.length_replicate, q4, k1]⟩, fun g => by dsimp only at g; omega, Nat.zero_le _⟩ (fun j => zrep_none) (Or.inl rfl) (by rw [hsz]; exact ⟨h1, h2⟩) hxx g1 g2 g3
      have e1 := hk _ h3 H1 locs cv _ n1
      dsimp only at e1
      rw [zsz_app, hsz, List.map_cons, zmap_up n2] at e1
      have e2 : (σ ++ [(ci, 0, List.replicate nf none)]).length - b.1 = σ.length - b.1 + 1 := by simp; omega
      have e3 : zsz σ + nf - b.2.1 = zsz σ - b.2.1 + N := by omega
      rw [e2, e3] at e1
      have e4 : zcv (va_up ad σ.length q) (zR σ.length) = .ref q := by show Value.ref (va_up ad σ.length q σ.length) = _; rw [va_up_self]
      rw [e4] at e1
      exact e1
theorem zra_eq {U : State} {ty : FieldType} {c1 c2 : ClassId} (h1 : va_RA U c1 ty) (h2 : va_RA U c2 ty) : c1 = c2 := by
  cases ty with
  | object C =>
    obtain ⟨-, -, -, -, -, a1⟩ := h1
    obtain ⟨-, -, -, -, -, a2⟩ := h2
    exact Option.some.inj (a1.symm.trans a2)
  | _ => exact Option.some.inj (Eq.trans (Eq.symm h1) h2)
theorem zs_nwa_core {t : Nat} {x : Int} {ls st : List zV} {σ : zSh} {M L : zM} {H : Heap} {locs : List Loc} {cv : Array Slot} {ad : Nat → Nat} {q : Nat} {H1 : Heap} {N' pc' : Nat} {xa : va_E} (hs : zst D ca A s b ad0 (zmaxL μ) H locs cv ad (ls, zI x :: st, σ, M, L)) (ht : 20 ≤ t ∧ t < 25) (h0 : 0 ≤ x ∧ x ≤ 20000) (h1 : σ.length + 1 ≤ b.1 + b.2.2.1 ∧ zsz σ + x.toNat ≤ b.2.1 + b.2.2.2) (hN : N' = x.toNat)
    (hxx : zce ca (va_up ad σ.length q) (σ ++ [(t, x.toNat, if 23 ≤ t then List.replicate x.toNat none else [])], zmz M σ.length, zmz L σ.length) σ.length = xa)
    (g1 : va_P D vwCl (zws ca ad (σ, M, L) ++ [(q, xa)]) H1) (g2 : va_D A (zws ca ad (σ, M, L) ++ [(q, xa)])) (g3 : va_S A s.heap H1 locs)
    (hk : zWS p l e s m args below meth c D ca A d μ b ad0 Qs pc' (ls, zR σ.length :: st, σ ++ [(t, x.toNat, if 23 ≤ t then List.replicate x.toNat none else [])], zmz M σ.length, zmz L σ.length)) :
    W p l e (zrm d b) s m args below meth c H1 locs (σ.length - b.1 + 1) (zsz σ - b.2.1 + N') Qs (F0 m pc' cv (.ref q :: st.map (zcv ad))) := by
  have h8 : zfr b σ := hs.2.2.2.2.2.2.2.1
  unfold zfr at h8
  have hsz : zsz1 (t, x.toNat, if 23 ≤ t then List.replicate x.toNat none else []) = x.toNat := by unfold zsz1; rw [if_neg (by show ¬ t < 20; omega)]
  obtain ⟨n1, n2⟩ := hs.new (en := (t, x.toNat, if 23 ≤ t then List.replicate x.toNat none else [])) (L' := zmz L σ.length) (zvo_t hs.2.2.2.2.2.1).2 ⟨Or.inr ht, fun g => by dsimp only at g ⊢; rw [if_pos g, List.length_replicate], by dsimp only; omega⟩ (fun j => by
    dsimp only
    split
    · exact zrep_none
    · rfl) (Or.inr rfl) (by rw [hsz]; exact h1) hxx g1 g2 g3
  have e1 := hk H1 locs cv _ n1
  dsimp only at e1
  rw [zsz_app, hsz, List.map_cons, zmap_up n2] at e1
  have e2 : (σ ++ [(t, x.toNat, if 23 ≤ t then List.replicate x.toNat none else [])]).length - b.1 = σ.length - b.1 + 1 := by simp; omega
  have e3 : zsz σ + x.toNat - b.2.1 = zsz σ - b.2.1 + N' := by omega
  rw [e2, e3] at e1
  have e4 : zcv (va_up ad σ.length q) (zR σ.length) = .ref q := by show Value.ref (va_up ad σ.length q σ.length) = _; rw [va_up_self]
  rw [e4] at e1
  exact e1
theorem zx_nonneg {x : Int} (hx : zr32 x) (h0 : 0 ≤ x) : ¬ Int32.ofInt x < 0 := fun q => by
  have := (zr32_lt hx zr32_0).mp q
  omega
theorem zs_nwa {aty : ArrayType} {t : Nat} (C0 : zCx p s m args meth c D ca A μ) (hdg : decode (zcode μ) pc = .ok (.newarray aty, 2)) (hch : aty = .int ∧ t = 20 ∨ aty = .boolean ∧ t = 21 ∨ aty = .long ∧ t = 22) (h : znwa b t S k) (hk : ∀ S', k S' → zWS p l e s m args below meth c D ca A d μ b ad0 Qs (pc + 2) S') : zWS p l e s m args below meth c D ca A d μ b ad0 Qs pc S := by
  obtain ⟨hx, hb, hml, hr, hown, hlocks, hin, hts, hnw, hao, hK, hA⟩ := C0
  obtain ⟨ls, st, σ, M, L⟩ := S
  unfold znwa at h
  rcases st with _ | ⟨x | x | x | x, st⟩
  case cons.inl =>
    obtain ⟨h0, h⟩ := zck_e h
    obtain ⟨h1, h3⟩ := zck_e h
    dsimp only at h1 h3
    intro H locs cv ad hs
    have h8 : zfr b σ := hs.2.2.2.2.2.2.2.1
    unfold zfr at h8
    obtain ⟨hx32, -⟩ := zvo_t hs.2.2.2.2.2.1
    have hx32 : zr32 x := hx32
    have hk' := hk _ h3
    have hlast : ∀ en : Nat × Nat × List (Option Nat), zln (σ ++ [en]) σ.length = (en.2.1 : Int) := by intro en; unfold zln; rw [zap_last]
    have hkd : ∀ en : Nat × Nat × List (Option Nat), zkd (σ ++ [en]) σ.length = en.1 := by intro en; unfold zkd; rw [zap_last]
    have hz : ∀ (F : zM) (j : Nat), zmz F σ.length σ.length j = 0 := by intro F j; unfold zmz; rw [if_pos rfl]
    rcases hch with ⟨rfl, rfl⟩ | ⟨rfl, rfl⟩ | ⟨rfl, rfl⟩
    · refine va_newa (atype := .int) (ty := .int) (N' := x.toNat) (a0 := (x.toNat, .inl (fun _ => 0))) hx hb (hts _ (zwd_in ⟨List.mem_of_getElem? (i := 84) (by decide +kernel), rfl⟩)) rfl hK hs.1 hs.2.1 hs.2.2.1 hA (fun cA => rfl) (zx_nonneg hx32 h0.1) (zr32_n hx32) (by show x.toNat * 4 ≤ 536870912; omega) (by show σ.length - b.1 + 1 ≤ b.2.2.1; omega) (by show zsz σ - b.2.1 + x.toNat ≤ b.2.2.2; omega) hdg (fun q cA H1 gK g1 g2 g3 => ?_)
      have hcA : cA = ca 20 := zra_eq (gK.2 5 (cA, .int) rfl).2 (hK.2 0 (ca 20, .int) rfl).2
      subst hcA
      refine zs_nwa_core hs ⟨by omega, by omega⟩ h0 h1 rfl ?_ g1 g2 g3 hk'
      rw [zce_i (hkd _) (Or.inl rfl)]
      dsimp only
      rw [hlast, funext (fun j => congrArg Int32.ofInt (hz M j))]
      rfl
    · refine va_newa (atype := .boolean) (ty := .boolean) (N' := x.toNat) (a0 := (x.toNat, .inl (fun _ => 0))) hx hb (hts _ (zwd_in ⟨List.mem_of_getElem? (i := 178) (by decide +kernel), rfl⟩)) rfl hK hs.1 hs.2.1 hs.2.2.1 hA (fun cA => rfl) (zx_nonneg hx32 h0.1) (zr32_n hx32) (by show x.toNat * 1 ≤ 536870912; omega) (by show σ.length - b.1 + 1 ≤ b.2.2.1; omega) (by show zsz σ - b.2.1 + x.toNat ≤ b.2.2.2; omega) hdg (fun q cA H1 gK g1 g2 g3 => ?_)
      have hcA : cA = ca 21 := zra_eq (gK.2 5 (cA, .boolean) rfl).2 (hK.2 1 (ca 21, .boolean) rfl).2
      subst hcA
      refine zs_nwa_core hs ⟨by omega, by omega⟩ h0 h1 rfl ?_ g1 g2 g3 hk'
      rw [zce_i (hkd _) (Or.inr rfl)]
      dsimp only
      rw [hlast, funext (fun j => congrArg Int32.ofInt (hz M j))]
      rfl
    · refine va_newa (atype := .long) (ty := .long) (N' := x.toNat) (a0 := (x.toNat, .inr (.inl (fun _ => 0)))) hx hb (hts _ (zwd_in ⟨List.mem_of_getElem? (i := 228) (by decide +kernel), rfl⟩)) rfl hK hs.1 hs.2.1 hs.2.2.1 hA (fun cA => rfl) (zx_nonneg hx32 h0.1) (zr32_n hx32) (by show x.toNat * 8 ≤ 536870912; omega) (by show σ.length - b.1 + 1 ≤ b.2.2.1; omega) (by show zsz σ - b.2.1 + x.toNat ≤ b.2.2.2; omega) hdg (fun q cA H1 gK g1 g2 g3 => ?_)
      have hcA : cA = ca 22 := zra_eq (gK.2 5 (cA, .long) rfl).2 (hK.2 2 (ca 22, .long) rfl).2
      subst hcA
      refine zs_nwa_core hs ⟨by omega, by omega⟩ h0 h1 rfl ?_ g1 g2 g3 hk'
      rw [zce_l (hkd _)]
      dsimp only
      rw [hlast, funext (fun j => congrArg Int64.ofInt (hz L j))]
      rfl
  all_goals exact absurd h id
theorem zs_ana {idx t : Nat} {C : String} (C0 : zCx p s m args meth c D ca A μ) (hdg : decode (zcode μ) pc = .ok (.anewarray idx, 3)) (hch : t = 23 ∧ C = RX2 ∨ t = 24 ∧ C = RX5) (hw : Jvm.Cond.classLink (zy μ).cls idx C ∈ zwd μ) (h : znwa b t S k) (hk : ∀ S', k S' → zWS p l e s m args below meth c D ca A d μ b ad0 Qs (pc + 3) S') : zWS p l e s m args below meth c D ca A d μ b ad0 Qs pc S := by
  obtain ⟨hx, hb, hml, hr, hown, hlocks, hin, hts, hnw, hao, hK, hA⟩ := C0
  obtain ⟨ls, st, σ, M, L⟩ := S
  unfold znwa at h
  rcases st with _ | ⟨x | x | x | x, st⟩
  case cons.inl =>
    obtain ⟨h0, h⟩ := zck_e h
    obtain ⟨h1, h3⟩ := zck_e h
    dsimp only at h1 h3
    intro H locs cv ad hs
    have h8 : zfr b σ := hs.2.2.2.2.2.2.2.1
    unfold zfr at h8
    obtain ⟨hx32, -⟩ := zvo_t hs.2.2.2.2.2.1
    have hx32 : zr32 x := hx32
    have hk' := hk _ h3
    have hlast : ∀ en : Nat × Nat × List (Option Nat), zln (σ ++ [en]) σ.length = (en.2.1 : Int) := by intro en; unfold zln; rw [zap_last]
    have hkd : ∀ en : Nat × Nat × List (Option Nat), zkd (σ ++ [en]) σ.length = en.1 := by intro en; unfold zkd; rw [zap_last]
    have hrf : ∀ (t n j : Nat), zrf (σ ++ [(t, n, List.replicate n none)]) σ.length j = none := by intro t n j; unfold zrf; rw [zap_last]; exact zrep_none
    rcases hch with ⟨rfl, rfl⟩ | ⟨rfl, rfl⟩
    · refine va_newq (N' := x.toNat) hx hb hown (hts _ hw) hao.1 hK hs.1 hs.2.1 hs.2.2.1 hA (zx_nonneg hx32 h0.1) (zr32_n hx32) (by omega) (by show σ.length - b.1 + 1 ≤ b.2.2.1; omega) (by show zsz σ - b.2.1 + x.toNat ≤ b.2.2.2; omega) hdg (fun q cA H1 gK g1 g2 g3 => ?_)
      have hcA : cA = ca 23 := zra_eq (gK.2 5 (cA, .object RX2) rfl).2 (hK.2 3 (ca 23, .object RX2) rfl).2
      subst hcA
      refine zs_nwa_core hs ⟨by omega, by omega⟩ h0 h1 rfl ?_ g1 g2 g3 hk'
      rw [zce_q (hkd _) (Or.inl rfl)]
      dsimp only
      rw [hlast, if_pos (by omega), funext (fun j => congrArg (Option.map (va_up ad σ.length q)) (hrf 23 x.toNat j))]
      rfl
    · refine va_newq (N' := x.toNat) hx hb hown (hts _ hw) hao.2 hK hs.1 hs.2.1 hs.2.2.1 hA (zx_nonneg hx32 h0.1) (zr32_n hx32) (by omega) (by show σ.length - b.1 + 1 ≤ b.2.2.1; omega) (by show zsz σ - b.2.1 + x.toNat ≤ b.2.2.2; omega) hdg (fun q cA H1 gK g1 g2 g3 => ?_)
      have hcA : cA = ca 24 := zra_eq (gK.2 5 (cA, .object RX5) rfl).2 (hK.2 4 (ca 24, .object RX5) rfl).2
      subst hcA
      refine zs_nwa_core hs ⟨by omega, by omega⟩ h0 h1 rfl ?_ g1 g2 g3 hk'
      rw [zce_q (hkd _) (Or.inr rfl)]
      dsimp only
      rw [hlast, if_pos (by omega), funext (fun j => congrArg (Option.map (va_up ad σ.length q)) (hrf 24 x.toNat j))]
      rfl
  all_goals exact absurd h id
theorem zs_obj {idx : Nat} (C0 : zCx p s m args meth c D ca A μ) (hd : 0 < d) (hdg : decode (zcode μ) pc = .ok (.invokespecial idx, 3)) (hw : Jvm.Cond.methodLink (zy μ).cls idx objectInit ∈ zwd μ) (hw2 : Jvm.Cond.instanceMethod objectInit ∈ zwd μ) (hw3 : Jvm.Cond.code objectInit ⟨#[0xb1]⟩ 1 none ∈ zwd μ) (h : zobj S k) (hk : ∀ S', k S' → zWS p l e s m args below meth c D ca A d μ b ad0 Qs (pc + 3) S') : zWS p l e s m args below meth c D ca A d μ b ad0 Qs pc S := by
  obtain ⟨hx, hb, hml, hr, hown, hlocks, hin, hts, hnw, hao, hK, hA⟩ := C0
  obtain ⟨ls, st, w⟩ := S
  unfold zobj at h
  rcases st with _ | ⟨y | y | y | y, st⟩
  case cons.inr.inr.inl =>
    intro H locs cv ad hs
    obtain ⟨h1, h2⟩ := zvo_t hs.2.2.2.2.2.1
    obtain ⟨h9, h⟩ := zkb_e h
    have h9 := Nat.le_of_ble_eq_true h9
    have hcat : ∀ st : List zV, ((st.map (zcv ad)).map fun v => v.category).sum = zcat st := by
      intro st
      induction st with
      | nil => rfl
      | cons v st ih =>
        rw [List.map_cons, List.map_cons, List.sum_cons, ih]
        rcases v with x | x | x | x <;> rfl
    refine W.objInit hx hb hown (hts _ hw) (hts _ hw2) (hts _ hw3) rfl (by rw [hml]; exact hs.2.2.2.2.2.2.1.1) rfl hdg (by show 1 ≤ d; omega) ?_ (hk _ h H locs cv ad (hs.stk h2))
    have := lv_room (m := m) (pc := pc) (ls := cv) (rest := []) (st := st.map (zcv ad)) (by rw [hcat]; omega)
    show _ ≤ 200 * d
    have hmr : (F0 m pc cv (((Sum.inr (Sum.inr (Sum.inl y))) :: st).map (zcv ad))).monitorRoom = (F0 m pc cv []).monitorRoom := rfl
    rw [hmr]
    omega
  all_goals exact absurd h id
end ZN
end
section
/-! all straight instructions together -/
section ZP
variable {p : Program} {l : Launch} {e : Env} {s : State} {m : MethodId} {args : Array Value} {below : List Frame} {meth : Method} {c : Code} {D : va_G} {ca : Nat → ClassId} {A : Nat → Prop} {d μ : Nat} {b : zB} {ad0 : Nat → Nat} {Qs : State → Prop}
variable {pc : Nat} {S : zMS} {k : zMS → Prop}
theorem zwr_o (x : Int) : Int32.ofInt (zwr x) = Int32.ofInt x := by unfold zwr; rw [Int32.ofInt_toInt]
theorem zwl_o (x : Int) : Int64.ofInt (zwl x) = Int64.ofInt x := by unfold zwl; rw [Int64.ofInt_toInt]
set_option maxHeartbeats 4000000 in
theorem zsop_ok {i : zIns} (C0 : zCx p s m args meth c D ca A μ) (hch : zch μ pc i = true) (h : zsop b i S k) (hk : ∀ S', k S' → zWS p l e s m args below meth c D ca A d μ b ad0 Qs (pc + zlen i.1) S') : zWS p l e s m args below meth c D ca A d μ b ad0 Qs pc S := by
  obtain ⟨hd, h2⟩ := zdec hch
  obtain ⟨hx, hb, hml, hr, hown, hlocks, hin, hts, hnw, hao, hK, hA⟩ := id C0
  obtain ⟨ins, r⟩ := i
  cases ins
  case iconst n =>
    have hn : -5 ≤ n ∧ n ≤ 5 := of_decide_eq_true h2
    exact zs_push (v := zI n) (x := .int (Int32.ofInt n)) (fun _ => ⟨by omega, by omega⟩) (fun _ => rfl) (fun H locs cv rest cells slots w => lv_iconst hx hb hd rfl w) h hk
  case bipush n =>
    have hn : -128 ≤ n ∧ n < 128 := of_decide_eq_true h2
    have he : (Int8.ofInt n).toInt32 = Int32.ofInt n := Int32.toInt_inj.mp (by rw [Int8.toInt_toInt32, Int8.toInt_ofInt_of_le (by omega) (by omega), Int32.toInt_ofInt_of_le (by omega) (by omega)])
    exact zs_push (v := zI n) (x := .int (Int32.ofInt n)) (fun _ => ⟨by omega, by omega⟩) (fun _ => rfl) (fun H locs cv rest cells slots w => lv_bipush hx hb hd he w) h hk
  case sipush n =>
    have hn : -32768 ≤ n ∧ n < 32768 := of_decide_eq_true h2
    have he : (Int16.ofInt n).toInt32 = Int32.ofInt n := Int32.toInt_inj.mp (by rw [Int16.toInt_toInt32, Int16.toInt_ofInt_of_le (by omega) (by omega), Int32.toInt_ofInt_of_le (by omega) (by omega)])
    exact zs_push (v := zI n) (x := .int (Int32.ofInt n)) (fun _ => ⟨by omega, by omega⟩) (fun _ => rfl) (fun H locs cv rest cells slots w => lv_sipush hx hb hd he w) h hk
  case lconst n =>
    have hn : (n : Nat) < 2 := n.isLt
    exact zs_push (v := zL ((n : Nat) : Int)) (x := .long (Int64.ofInt ((n : Nat) : Int))) (fun _ => ⟨by omega, by omega⟩) (fun _ => rfl) (fun H locs cv rest cells slots w => lv_lconst hx hb hd (by rw [Int64.ofInt_eq_ofNat]) w) h hk
  case ldc n =>
    obtain ⟨k1, k2⟩ := zat_e2 h2
    have k1 : r.getD 0 0 < 2147483648 := of_decide_eq_true k1
    exact zs_push (v := zI ((r.getD 0 0 : Nat) : Int)) (x := .int (Int32.ofInt ((r.getD 0 0 : Nat) : Int))) (fun _ => ⟨by omega, by omega⟩) (fun _ => rfl) (fun H locs cv rest cells slots w => lv_ldc hx hb hown (hts _ (zwd_in (zat_e k2))) hd w) h hk
  case ldc_w n =>
    obtain ⟨k1, k2⟩ := zat_e2 h2
    have k1 : r.getD 0 0 < 2147483648 := of_decide_eq_true k1
    exact zs_push (v := zI ((r.getD 0 0 : Nat) : Int)) (x := .int (Int32.ofInt ((r.getD 0 0 : Nat) : Int))) (fun _ => ⟨by omega, by omega⟩) (fun _ => rfl) (fun H locs cv rest cells slots w => lv_ldcw hx hb hown (hts _ (zwd_in (zat_e k2))) hd w) h hk
  case ldc2_w n =>
    obtain ⟨k1, k2⟩ := zat_e2 h2
    have k1 : r.getD 0 0 < 9223372036854775808 := of_decide_eq_true k1
    exact zs_push (v := zL ((r.getD 0 0 : Nat) : Int)) (x := .long (Int64.ofInt ((r.getD 0 0 : Nat) : Int))) (fun _ => ⟨by omega, by omega⟩) (fun _ => rfl) (fun H locs cv rest cells slots w => lv_ldc2 hx hb hown (hts _ (zwd_in (zat_e k2))) hd w) h hk
  case iload n => exact zs_ldI (i := n) (fun H locs cv rest cells slots x hx1 w => lv_iload hx hb hd hx1 w) h hk
  case iload_n n => exact zs_ldI (i := (n : Nat)) (fun H locs cv rest cells slots x hx1 w => lv_iload_n hx hb hd rfl hx1 w) h hk
  case lload n => exact zs_ldL (i := n) (fun H locs cv rest cells slots x hx1 w => lv_lload hx hb hd hx1 w) h hk
  case lload_n n => exact zs_ldL (i := (n : Nat)) (fun H locs cv rest cells slots x hx1 w => lv_lload_n hx hb hd rfl hx1 w) h hk
  case aload n => exact zs_ldR (i := n) (fun H locs cv rest cells slots x hx1 w => lv_aload hx hb hd hx1 w) h hk
  case aload_n n => exact zs_ldR (i := (n : Nat)) (fun H locs cv rest cells slots x hx1 w => lv_aload_n hx hb hd rfl hx1 w) h hk
  case istore n => exact zs_stI (i := n) (fun H locs cv rest cells slots x lv hl w => lv_istore hx hb hd hl (of_decide_eq_true h2) rfl w) h hk
  case istore_n n => exact zs_stI (i := (n : Nat)) (fun H locs cv rest cells slots x lv hl w => lv_istore_n hx hb hd rfl hl (of_decide_eq_true h2) rfl w) h hk
  case astore n => exact zs_stR (i := n) (fun H locs cv rest cells slots x lv hl w => lv_astore hx hb hd hl (of_decide_eq_true h2) rfl w) h hk
  case astore_n n => exact zs_stR (i := (n : Nat)) (fun H locs cv rest cells slots x lv hl w => lv_astore_n hx hb hd rfl hl (of_decide_eq_true h2) rfl w) h hk
  case lstore n => exact zs_stL (i := n) (fun H locs cv rest cells slots x lv hl w => lv_lstore hx hb hd hl (of_decide_eq_true h2) rfl w) h hk
  case lstore_n n => exact zs_stL (i := (n : Nat)) (fun H locs cv rest cells slots x lv hl w => lv_lstore_n hx hb hd rfl hl (of_decide_eq_true h2) rfl w) h hk
  case iinc n z => exact zs_inc hx hb hd (of_decide_eq_true h2) h hk
  case iadd => exact zs_bin (F := fun x y => x + y) (fun x y => by rw [Int32.ofInt_toInt, Int32.ofInt_add]) (fun x y => zr32_of _) (fun H locs cv rest cells slots x y w => lv_iadd hx hb hd w) h hk
  case isub => exact zs_bin (F := fun x y => x - y) (fun x y => by rw [Int32.ofInt_toInt, Int32.ofInt_sub]) (fun x y => zr32_of _) (fun H locs cv rest cells slots x y w => lv_isub hx hb hd w) h hk
  case imul => exact zs_bin (F := fun x y => x * y) (fun x y => by rw [Int32.ofInt_toInt, Int32.ofInt_mul]) (fun x y => zr32_of _) (fun H locs cv rest cells slots x y w => lv_imul hx hb hd w) h hk
  case iand => exact zs_bin (F := fun x y => x &&& y) (fun x y => by rw [Int32.ofInt_toInt]) (fun x y => zr32_of _) (fun H locs cv rest cells slots x y w => lv_iand hx hb hd w) h hk
  case ior => exact zs_bin (F := fun x y => x ||| y) (fun x y => by rw [Int32.ofInt_toInt]) (fun x y => zr32_of _) (fun H locs cv rest cells slots x y w => lv_ior hx hb hd w) h hk
  case ixor => exact zs_bin (F := fun x y => x ^^^ y) (fun x y => by rw [Int32.ofInt_toInt]) (fun x y => zr32_of _) (fun H locs cv rest cells slots x y w => lv_ixor hx hb hd w) h hk
  case ishl => exact zs_bin (F := fun x y => x <<< (y &&& 31)) (fun x y => by rw [Int32.ofInt_toInt]) (fun x y => zr32_of _) (fun H locs cv rest cells slots x y w => lv_ishl hx hb hd w) h hk
  case ishr => exact zs_bin (F := fun x y => x >>> (y &&& 31)) (fun x y => by rw [Int32.ofInt_toInt]) (fun x y => zr32_of _) (fun H locs cv rest cells slots x y w => lv_ishr hx hb hd w) h hk
  case iushr => exact zs_bin (F := fun x y => (x.toUInt32 >>> (y.toUInt32 &&& Int32.toUInt32 31)).toInt32) (fun x y => by rw [Int32.ofInt_toInt]) (fun x y => zr32_of _) (fun H locs cv rest cells slots x y w => lv_iushr hx hb hd rfl w) h hk
  case idiv => exact zs_binN (F := fun x y => x / y) (fun x y => by rw [Int32.ofInt_toInt]) (fun x y => zr32_of _) (fun H locs cv rest cells slots x y hne w => lv_idiv hx hb hd hne w) h hk
  case irem => exact zs_binN (F := fun x y => x - x / y * y) (fun x y => by rw [Int32.ofInt_toInt]) (fun x y => zr32_of _) (fun H locs cv rest cells slots x y hne w => lv_irem hx hb hd hne w) h hk
  case ineg => exact zs_un (F := fun x => -x) (fun x => by rw [Int32.ofInt_toInt, Int32.ofInt_neg]) (fun x => zr32_of _) (fun H locs cv rest cells slots x w => lv_ineg hx hb hd w) h hk
  case ladd => exact zs_lbin (F := fun x y => x + y) (fun x y => by rw [Int64.ofInt_toInt, Int64.ofInt_add]) (fun x y => zr64_of _) (fun H locs cv rest cells slots x y w => lv_ladd hx hb hd w) h hk
  case lsub => exact zs_lbin (F := fun x y => x - y) (fun x y => by rw [Int64.ofInt_toInt, Int64.ofInt_sub]) (fun x y => zr64_of _) (fun H locs cv rest cells slots x y w => lv_lsub hx hb hd w) h hk
  case lmul => exact zs_lbin (F := fun x y => x * y) (fun x y => by rw [Int64.ofInt_toInt, Int64.ofInt_mul]) (fun x y => zr64_of _) (fun H locs cv rest cells slots x y w => lv_lmul hx hb hd w) h hk
  case ldiv => exact zs_lbinN (F := fun x y => x / y) (fun x y => by rw [Int64.ofInt_toInt]) (fun x y => zr64_of _) (fun H locs cv rest cells slots x y hne w => lv_ldiv hx hb hd hne w) h hk
  case lrem => exact zs_lbinN (F := fun x y => x - x / y * y) (fun x y => by rw [Int64.ofInt_toInt]) (fun x y => zr64_of _) (fun H locs cv rest cells slots x y hne w => lv_lrem hx hb hd hne w) h hk
  case lneg => exact zs_lng hx hb hd h hk
  case lcmp => exact zs_lcm hx hb hd h hk
  case i2l => exact zs_i2l hx hb hd h hk
  case dup => exact zs_dup hx hb hd h hk
  case dup2 => exact zs_du2 hx hb hd h hk
  case pop => exact zs_pop hx hb hd h hk
  case getfield n => exact zs_gf C0 hd h2 h hk
  case putfield n => exact zs_pf C0 hd h2 h hk
  case iaload => exact zs_ial C0 hd h hk
  case baload => exact zs_bal C0 hd h hk
  case laload => exact zs_lal C0 hd h hk
  case aaload => exact zs_aal (of_decide_eq_true h2) C0 hd h hk
  case iastore => exact zs_ias C0 hd h hk
  case bastore => exact zs_bas C0 hd h hk
  case lastore => exact zs_las C0 hd h hk
  case aastore => exact zs_aas (of_decide_eq_true h2) C0 hd h hk
  case arraylength => exact zs_ale C0 hd h hk
  case new n =>
    obtain ⟨k1, k2⟩ := zat_e2 h2
    exact zs_new C0 hd k2 h hk
  case newarray n => exact zs_nwa C0 hd (of_decide_eq_true h2) h hk
  case anewarray n =>
    have h2 : (decide (r.getD 0 0 = 23) && zat (r.getD 1 0) (.classLink (zy μ).cls n RX2) || decide (r.getD 0 0 = 24) && zat (r.getD 1 0) (.classLink (zy μ).cls n RX5)) = true := h2
    rw [Bool.or_eq_true] at h2
    rcases h2 with h2 | h2
    · obtain ⟨k1, k2⟩ := zat_e2 h2
      exact zs_ana (C := RX2) C0 hd (Or.inl ⟨of_decide_eq_true k1, rfl⟩) (zwd_in (zat_e k2)) h hk
    · obtain ⟨k1, k2⟩ := zat_e2 h2
      exact zs_ana (C := RX5) C0 hd (Or.inr ⟨of_decide_eq_true k1, rfl⟩) (zwd_in (zat_e k2)) h hk
  all_goals exact absurd h id
end ZP
end
section
/-! calls and ends of methods; what a method does, by the small machine -/
def zrt (rk : Nat) (ret : Option FieldType) : Bool := match rk, ret with
  | 0, none => true
  | 1, some .int => true
  | 2, some .long => true
  | 3, some (.object _) => true
  | 4, some .boolean => true
  | _, _ => false
/-- descriptors and how many parameters they have -/
def zds : List (String × Nat) := [("()I", 0), ("()LLettersThatPass$Row;", 0), ("()V", 0), ("()Z", 0), ("(I)I", 1), ("(I)J", 1), ("(I)LLettersThatPass$Row;", 1), ("(I)V", 1), ("(I)Z", 1), ("(II)I", 2), ("(II)J", 2), ("(II)V", 2), ("(II)Z", 2), ("(III)I", 3), ("(III)Z", 3), ("(IIII)I", 4), ("(IILLettersThatPass$Laws;)J", 3), ("(ILLettersThatPass$Row;)V", 2), ("(I[II)V", 3), ("(JJ)J", 2), ("(LLettersThatPass$Laws;)V", 1), ("(LLettersThatPass$Laws;)Z", 1), ("(LLettersThatPass$Laws;LLettersThatPass$Bench;)V", 2), ("(LLettersThatPass$Laws;ZII)V", 4), ("(LLettersThatPass$Row;)I", 1), ("(LLettersThatPass$Row;)V", 1), ("(LLettersThatPass$Row;)Z", 1), ("(LLettersThatPass$Row;I)I", 2), ("(LLettersThatPass$Row;I)V", 2), ("(LLettersThatPass$Row;II)I", 3), ("(LLettersThatPass$Row;II)V", 3), ("(LLettersThatPass$Row;ILLettersThatPass$Row;)V", 3), ("(LLettersThatPass$Row;ILLettersThatPass$Row;)Z", 3), ("(LLettersThatPass$Row;IZ)I", 3), ("(LLettersThatPass$Row;LLettersThatPass$Laws;)I", 2), ("(LLettersThatPass$Row;LLettersThatPass$Laws;)J", 2), ("(LLettersThatPass$Row;LLettersThatPass$Row;)I", 2), ("(LLettersThatPass$Row;LLettersThatPass$Row;)V", 2), ("(LLettersThatPass$Row;LLettersThatPass$Row;)Z", 2), ("(LLettersThatPass$Row;LLettersThatPass$Row;LLettersThatPass$Row;)V", 3), ("(LLettersThatPass$Row;LLettersThatPass$Row;LLettersThatPass$Row;)Z", 3), ("(LLettersThatPass$Row;ZLLettersThatPass$Row;)V", 3), ("(LLettersThatPass$Shelf;)V", 1), ("(Z)I", 1), ("([II)I", 2), ("([II)Z", 2), ("([III)I", 3), ("([III)V", 3), ("([II[IZ)V", 4), ("([I[I)V", 2), ("([I[II)Z", 3)]
theorem zds_ok : ∀ q ∈ zds, (parseMethodDescriptor q.1).map (fun d => d.parameters.length) = some q.2 := List.forall_mem_cons.mpr ⟨by decide +kernel, List.forall_mem_cons.mpr ⟨by decide +kernel, List.forall_mem_cons.mpr ⟨by decide +kernel, List.forall_mem_cons.mpr ⟨by decide +kernel, List.forall_mem_cons.mpr ⟨by decide +kernel, List.forall_mem_cons.mpr ⟨by decide +kernel, List.forall_mem_cons.mpr ⟨by decide +kernel, List.forall_mem_cons.mpr ⟨by decide +kernel, List.forall_mem_cons.mpr ⟨by decide +kernel, List.forall_mem_cons.mpr ⟨by decide +kernel, List.forall_mem_cons.mpr ⟨by decide +kernel, List.forall_mem_cons.mpr ⟨by decide +kernel, List.forall_mem_cons.mpr ⟨by decide +kernel, List.forall_mem_cons.mpr ⟨by decide +kernel, List.forall_mem_cons.mpr ⟨by decide +kernel, List.forall_mem_cons.mpr ⟨by decide +kernel, List.forall_mem_cons.mpr ⟨by decide +kernel, List.forall_mem_cons.mpr ⟨by decide +kernel, List.forall_mem_cons.mpr ⟨by decide +kernel, List.forall_mem_cons.mpr ⟨by decide +kernel, List.forall_mem_cons.mpr ⟨by decide +kernel, List.forall_mem_cons.mpr ⟨by decide +kernel, List.forall_mem_cons.mpr ⟨by decide +kernel, List.forall_mem_cons.mpr ⟨by decide +kernel, List.forall_mem_cons.mpr ⟨by decide +kernel, List.forall_mem_cons.mpr ⟨by decide +kernel, List.forall_mem_cons.mpr ⟨by decide +kernel, List.forall_mem_cons.mpr ⟨by decide +kernel, List.forall_mem_cons.mpr ⟨by decide +kernel, List.forall_mem_cons.mpr ⟨by decide +kernel, List.forall_mem_cons.mpr ⟨by decide +kernel, List.forall_mem_cons.mpr ⟨by decide +kernel, List.forall_mem_cons.mpr ⟨by decide +kernel, List.forall_mem_cons.mpr ⟨by decide +kernel, List.forall_mem_cons.mpr ⟨by decide +kernel, List.forall_mem_cons.mpr ⟨by decide +kernel, List.forall_mem_cons.mpr ⟨by decide +kernel, List.forall_mem_cons.mpr ⟨by decide +kernel, List.forall_mem_cons.mpr ⟨by decide +kernel, List.forall_mem_cons.mpr ⟨by decide +kernel, List.forall_mem_cons.mpr ⟨by decide +kernel, List.forall_mem_cons.mpr ⟨by decide +kernel, List.forall_mem_cons.mpr ⟨by decide +kernel, List.forall_mem_cons.mpr ⟨by decide +kernel, List.forall_mem_cons.mpr ⟨by decide +kernel, List.forall_mem_cons.mpr ⟨by decide +kernel, List.forall_mem_cons.mpr ⟨by decide +kernel, List.forall_mem_cons.mpr ⟨by decide +kernel, List.forall_mem_cons.mpr ⟨by decide +kernel, List.forall_mem_cons.mpr ⟨by decide +kernel, List.forall_mem_cons.mpr ⟨by decide +kernel, fun _ h => absurd h List.not_mem_nil⟩⟩⟩⟩⟩⟩⟩⟩⟩⟩⟩⟩⟩⟩⟩⟩⟩⟩⟩⟩⟩⟩⟩⟩⟩⟩⟩⟩⟩⟩⟩⟩⟩⟩⟩⟩⟩⟩⟩⟩⟩⟩⟩⟩⟩⟩⟩⟩⟩⟩⟩
def zdn (dsc : String) (n : Nat) : Bool := decide ((dsc, n) ∈ zds)
def ziscode (w : Option Jvm.Cond) : Bool := match w with
  | some (.code _ _ _ _) => true
  | _ => false
theorem ziscode_e {w : Option Jvm.Cond} (h : ziscode w = true) : w = some (.code (zcy w) (zcc w) (zcm w) (zcr w)) := by
  unfold ziscode at h
  split at h
  · rfl
  · cases h
def zchm (μ : Nat) : Bool := ziscode (ztb (zrow μ 2)) && zat (zrow μ 5) (.initialized (zy μ).cls) && (match zrow μ 7 with
    | 0 => zat (zrow μ 3) (.instanceMethod (zy μ)) && (decide ((zy μ).name = "<init>") || zat (zrow μ 4) (.selects (zy μ).cls (zy μ) (zy μ))) && zdn (zy μ).desc (zrow μ 1 - 1) && decide (0 < zrow μ 1)
    | _ => zat (zrow μ 3) (.static (zy μ)) && zdn (zy μ).desc (zrow μ 1)) &&
  plainName (zy μ).cls && decide ((zy μ).cls ≠ "java/lang/invoke/MethodHandle" ∧ (zy μ).cls ≠ "java/lang/invoke/VarHandle") && decide (zmaxL μ ≤ 100) && zrt (zrk μ) (zret μ) && decide ((zy μ).name = "<init>" → zrk μ = 0)
theorem zchm_dec : (List.range zmt.length).all zchm = true := by decide +kernel
theorem zchm_all {μ : Nat} (h : μ < zmt.length) : zchm μ = true := List.all_eq_true.mp zchm_dec μ (List.mem_range.mpr h)
/-- what zchm says -/
theorem zchm_e {μ : Nat} (h : μ < zmt.length) : (Jvm.Cond.code (zy μ) (zcode μ) (zmaxL μ) (zret μ) ∈ lw_tbl ∧ goodWord (Jvm.Cond.code (zy μ) (zcode μ) (zmaxL μ) (zret μ)) = true) ∧ (Jvm.Cond.initialized (zy μ).cls ∈ lw_tbl ∧ goodWord (Jvm.Cond.initialized (zy μ).cls) = true) ∧ plainName (zy μ).cls = true ∧ ((zy μ).cls ≠ "java/lang/invoke/MethodHandle" ∧ (zy μ).cls ≠ "java/lang/invoke/VarHandle") ∧ zmaxL μ ≤ 100 ∧ zrt (zrk μ) (zret μ) = true ∧ ((zy μ).name = "<init>" → zrk μ = 0) ∧
    (zrow μ 7 = 0 → (Jvm.Cond.instanceMethod (zy μ) ∈ lw_tbl ∧ goodWord (Jvm.Cond.instanceMethod (zy μ)) = true) ∧ ((zy μ).name ≠ "<init>" → (Jvm.Cond.selects (zy μ).cls (zy μ) (zy μ) ∈ lw_tbl ∧ goodWord (Jvm.Cond.selects (zy μ).cls (zy μ) (zy μ)) = true)) ∧ (parseMethodDescriptor (zy μ).desc).map (fun d => d.parameters.length) = some (zrow μ 1 - 1) ∧ 0 < zrow μ 1) ∧
    (zrow μ 7 = 1 → (Jvm.Cond.static (zy μ) ∈ lw_tbl ∧ goodWord (Jvm.Cond.static (zy μ)) = true) ∧ (parseMethodDescriptor (zy μ).desc).map (fun d => d.parameters.length) = some (zrow μ 1)) := by
  have h1 := zchm_all h
  unfold zchm at h1
  obtain ⟨h1, a1⟩ := zat_e2 h1
  obtain ⟨h1, a2⟩ := zat_e2 h1
  obtain ⟨h1, a3⟩ := zat_e2 h1
  obtain ⟨h1, a4⟩ := zat_e2 h1
  obtain ⟨h1, a5⟩ := zat_e2 h1
  obtain ⟨h1, a6⟩ := zat_e2 h1
  obtain ⟨a7, a8⟩ := zat_e2 h1
  refine ⟨⟨ztb_in (ziscode_e a7), rfl⟩, zat_e a8, a5, of_decide_eq_true a4, of_decide_eq_true a3, a2, of_decide_eq_true a1, fun h0 => ?_, fun h0 => ?_⟩
  · rw [h0] at a6
    obtain ⟨b1, b2⟩ := zat_e2 a6
    obtain ⟨b1, b3⟩ := zat_e2 b1
    obtain ⟨b1, b4⟩ := zat_e2 b1
    refine ⟨zat_e b1, fun hn => ?_, zds_ok _ (of_decide_eq_true b3), of_decide_eq_true b2⟩
    rw [Bool.or_eq_true] at b4
    rcases b4 with b4 | b4
    · exact absurd (of_decide_eq_true b4) hn
    · exact zat_e b4
  · rw [h0] at a6
    obtain ⟨b1, b2⟩ := zat_e2 a6
    exact ⟨zat_e b1, zds_ok _ (of_decide_eq_true b2)⟩
end
section
def zrv (rk : Nat) (ad : Nat → Nat) (r : Int) : Option Value := match rk with
  | 0 => none
  | 2 => some (.long (Int64.ofInt r))
  | 3 => some (.ref (ad r.toNat))
  | _ => some (.int (Int32.ofInt r))
def zro (rk n : Nat) (r : Int) : Prop := match rk with
  | 0 => True
  | 2 => zr64 r
  | 3 => r.toNat < n
  | _ => zr32 r
def zPo (D : va_G) (ca : Nat → ClassId) (A : Nat → Prop) (b : zB) (ad0 : Nat → Nat) (rk : Nat) (Q : Int → zW → Prop) : Array Value → State → Outcome → State → Prop := fun _ st oc t =>
  (∃ (r : Int) (w : zW) (ad : Nat → Nat), oc = .returned (zrv rk ad r) ∧ Q r w ∧ zro rk w.1.length r ∧ va_P D vwCl (zws ca ad w) t.heap ∧ va_D A (zws ca ad w) ∧ zok w ∧ w.1.length = b.1 + b.2.2.1 ∧ zsz w.1 = b.2.1 + b.2.2.2 ∧ ∀ k, k < b.1 → ad k = ad0 k) ∧ va_F A st t
def zPr (D : va_G) (ca : Nat → ClassId) (ad : Nat → Nat) (a : List zV) (w : zW) (sz : Nat) : Array Value → State → Prop := va_Pc (a.map (zcv ad)) (fun U => U.heap.size = sz ∧ va_P D vwCl (zws ca ad w) U.heap ∧ va_K D vwCl (ztys ca) U ∧ va_D (fun _ => True) (zws ca ad w) ∧ (∀ w ∈ znw, va_Nw w U) ∧ (va_AO RX2 U ∧ va_AO RX5 U) ∧ zok w ∧ ∀ v ∈ a, zvo w.1.length v)
def zbd (μ : Nat) (a : List zV) (w : zW) : zB := (w.1.length, zsz w.1, (zal μ a).1, (zal μ a).2)
/-- THE METHOD μ, called with a in the world w, d calls deep at most, ends; Q of its answer and of the world then -/
def zEv (d μ : Nat) (a : List zV) (w : zW) (Q : Int → zW → Prop) : Prop :=
  ∀ (l : Launch) (D : va_G) (ca : Nat → ClassId) (ad : Nat → Nat) (sz : Nat), Met l (zy μ) (zwd μ) (zrm d (zbd μ a w)) (zPr D ca ad a w sz) (zPo D ca (va_A (zws ca ad w) sz) (zbd μ a w) ad (zrk μ) Q) (zal μ a).1 (zal μ a).2 (va_A (zws ca ad w) sz)
/-- THE METHOD μ, at pc in the state S, comes to its end -/
def zEx (d μ : Nat) (b : zB) (Q : Int → zW → Prop) (pc : Nat) (S : zMS) : Prop :=
  (b.2.2.1 = 0 → b.2.2.2 = 0) → ∀ (p : Program) (l : Launch) (e : Env) (s : State) (m : MethodId) (args : Array Value) (below : List Frame) (meth : Method) (c : Code) (D : va_G) (ca : Nat → ClassId) (A : Nat → Prop) (ad0 : Nat → Nat), zCx p s m args meth c D ca A μ → zWS p l e s m args below meth c D ca A d μ b ad0 (MQ below (zPo D ca A b ad0 (zrk μ) Q) args s b.2.2.1 b.2.2.2 A) pc S
theorem zcat_eq {ad : Nat → Nat} : ∀ st : List zV, ((st.map (zcv ad)).map fun v => v.category).sum = zcat st
  | [] => rfl
  | v :: st => by
    rw [List.map_cons, List.map_cons, List.sum_cons, zcat_eq st]
    rcases v with x | x | x | x <;> rfl
theorem znw_isn {w : Jvm.Cond} (h : w ∈ znw) : ∃ a i x y, w = .methodLinkNest a i x y := by
  have h2 := (List.mem_filter.mp h).2
  unfold zisn at h2
  split at h2
  · exact ⟨_, _, _, _, rfl⟩
  · cases h2
section ZC
variable {p : Program} {l : Launch} {e : Env} {s : State} {m : MethodId} {args : Array Value} {below : List Frame} {meth : Method} {c : Code} {D : va_G} {ca : Nat → ClassId} {A : Nat → Prop} {d μ : Nat} {b : zB} {ad0 : Nat → Nat} {Qs : State → Prop}
variable {pc : Nat} {S : zMS} {k : zMS → Prop}
theorem zgood {μ' : Nat} (h : μ' < zmt.length) : GoodIn (zwd μ) (zwd μ') := by
  intro w hw
  rcases List.mem_cons.mp hw with rfl | hw
  · exact ⟨zwd_in (zchm_e h).1, good_of_word (zchm_e h).1.2⟩
  · exact ⟨List.mem_cons_of_mem _ hw, good_of_word (List.mem_filter.mp hw).2⟩
theorem zPr_blind {ad : Nat → Nat} {a : List zV} {w : zW} {sz : Nat} : FrameBlind (zPr D ca ad a w sz) := by
  intro av U g mk hq
  obtain ⟨h1, h2, h3, h4, h5, h6, h7, h8⟩ := hq
  exact ⟨h1, h2, h3, va_K.moved (u := U) (U := U.calling g mk av) (Vm.Alike.refl U.vm) h4, h5, fun w hw => by
    obtain ⟨a, i, x, y, rfl⟩ := znw_isn hw
    exact va_Nw.same (u := U) (U := U.calling g mk av) rfl rfl (h6 _ hw), ⟨va_AO.moved (u := U) (U := U.calling g mk av) (Vm.Alike.refl U.vm) h7.1, va_AO.moved (u := U) (U := U.calling g mk av) (Vm.Alike.refl U.vm) h7.2⟩, h8⟩
theorem zPr_at {ad : Nat → Nat} {a : List zV} {w : zW} {H : Heap} (hnw : ∀ w ∈ znw, va_Nw w s) (hao : va_AO RX2 s ∧ va_AO RX5 s) (hK : va_K D vwCl (ztys ca) s) (hP : va_P D vwCl (zws ca ad w) H) (hD : va_D A (zws ca ad w)) (hok : zok w) (ha : ∀ v ∈ a, zvo w.1.length v) : ∀ U : State, U.heap = H → s.WarmedH U.vm → zPr D ca ad a w H.size (a.map (zcv ad)).toArray U := by
  intro U hU hW
  exact ⟨rfl, by rw [hU], by rw [hU]; exact hP, va_K.moved hW.alike hK, hD.weaken (fun _ _ _ _ => trivial), fun w hw => by
    obtain ⟨a, i, x, y, rfl⟩ := znw_isn hw
    exact va_Nw.warmM hW (hnw _ hw), ⟨va_AO.moved hW.alike hao.1, va_AO.moved hW.alike hao.2⟩, hok, ha⟩
/-- behind a call -/
theorem zcb {rk mc ms : Nat} {Q : Int → zW → Prop} {w : zW} {b' : zB} {ad : Nat → Nat} {cv : Array Slot} {H : Heap} {locs : List Loc} {cells slots : Nat} {st0 : List Value} {st ls : List zV} {R : Room} {av : Array Value} {sz : Nat}
    (hr : va_Run p l e R s m args below meth c H locs cells slots mc ms (F0 m pc cv st0) (st.map (zcv ad)) (zPo D ca (va_A (zws ca ad w) sz) b' ad rk Q av) (va_A (zws ca ad w) sz)) (hsz : sz = H.size) (hA : ∀ q, s.heap.size ≤ q → A q) (hP : va_P D vwCl (zws ca ad w) H) (hD : va_D A (zws ca ad w)) (hS : va_S A s.heap H locs)
    (kk : ∀ (r : Int) (w' : zW) (ad' : Nat → Nat) (H1 : Heap) (locs1 : List Loc), Q r w' → zro rk w'.1.length r → va_P D vwCl (zws ca ad' w') H1 → va_D A (zws ca ad' w') → zok w' → w'.1.length = b'.1 + b'.2.2.1 → zsz w'.1 = b'.2.1 + b'.2.2.2 → (∀ k, k < b'.1 → ad' k = ad k) → va_S A s.heap H1 locs1 → W p l e R s m args below meth c H1 locs1 (cells + mc) (slots + ms) Qs (F0 m (pc + 3) cv ((zrv rk ad' r).toList ++ st.map (zcv ad)))) :
    W p l e R s m args below meth c H locs cells slots Qs (F0 m pc cv st0) := by
  subst hsz
  have hf : ∀ q, va_A (zws ca ad w) H.size q → A q := fun q hq => by
    rcases hq with ⟨k, e, hk⟩ | hq
    · exact hD.2 k (q, e) hk
    · exact hA q (Nat.le_trans hS.1 hq)
  intro T hT X
  obtain ⟨v, st₀, t, T', L, h0, X', hL, e1, e2, ⟨⟨r, w', ad', hv, k1, k2, k3, k4, k5, k6, k7, k8⟩, hz, hkk⟩, stp⟩ := hr T hT X
  cases hv
  rw [h0] at hz hkk
  obtain ⟨t2, a1, b1⟩ := kk r w' ad' T'.heap (locs ++ L) k1 k2 (by rw [e1]; exact k3) (k4.weaken (fun _ q _ h => hf q.1 h)) k5 k6 k7 k8
    ⟨Nat.le_trans hS.1 (by rw [e1]; exact hz), fun q h1 h2 => by rw [e1, hkk q (Nat.lt_of_lt_of_le h1 hS.1) (fun z => h2 (hf q z))]; exact hS.2.1 q h1 h2, fun q hq => by
      rcases List.mem_append.mp hq with h | h
      · exact hS.2.2 q h
      · exact hf _ (hL q h)⟩ T' rfl X'
  exact ⟨t2, stp t2 a1, b1⟩
theorem zrcv_e {σ : zSh} {kind ci : Nat} {a : List zV} {k : Prop} (h : zrcv σ kind ci a k) : k ∧ (kind = 0 → ∃ r as, a = zR r :: as ∧ zkd σ r = ci) ∧ (kind ≠ 1 → kind ≠ 3 → ∃ r as, a = zR r :: as) := by
  unfold zrcv at h
  split at h
  · exact ⟨h, fun h0 => (by cases h0), fun h1 => absurd rfl h1⟩
  · exact ⟨h, fun h0 => (by cases h0), fun _ h1 => absurd rfl h1⟩
  · split at h
    · next r as =>
      obtain ⟨h1, h2⟩ := zkq_e h
      exact ⟨h2, fun _ => ⟨r, as, rfl, h1⟩, fun _ _ => ⟨r, as, rfl⟩⟩
    · exact absurd h id
  · next h1 h3 h0 =>
    split at h
    · next r as => exact ⟨h, fun g => absurd g h0, fun _ _ => ⟨r, as, rfl⟩⟩
    · exact absurd h id
theorem zal_0 {μ : Nat} {a : List zV} (h : (zal μ a).1 = 0) : (zal μ a).2 = 0 := by
  unfold zal at h ⊢
  split at h
  · cases h
  · next h0 =>
    rw [if_neg h0]
    unfold zalT at h ⊢
    simp only [List.lookup] at h ⊢
    repeat' (split at h; · cases h)
    rfl
theorem zbud_e {b : zB} {n : Nat × Nat} {σ : zSh} {k : Prop} (h : zbud b n σ k) (h0 : n.1 = 0 → n.2 = 0) (hf : zfr b σ) : k ∧ σ.length + n.1 ≤ b.1 + b.2.2.1 ∧ zsz σ + n.2 ≤ b.2.1 + b.2.2.2 := by
  unfold zbud at h
  unfold zfr at hf
  split at h
  · next hn =>
    have := h0 hn
    exact ⟨h, by omega, by omega⟩
  · next hn =>
    obtain ⟨h1, h2⟩ := zck_e h
    exact ⟨h2, h1.1, h1.2⟩
end ZC
end
section
/-! a stretch of code goes as the machine does -/
theorem zrt_0 {ret : Option FieldType} (h : zrt 0 ret = true) : ret = none := by
  rcases ret with _ | t
  · rfl
  · cases t <;> exact absurd h (by simp [zrt])
theorem zrt_1 {ret : Option FieldType} (h : zrt 1 ret = true) : ret = some .int := by
  rcases ret with _ | t
  · exact absurd h (by simp [zrt])
  · cases t <;> first | rfl | exact absurd h (by simp [zrt])
theorem zrt_2 {ret : Option FieldType} (h : zrt 2 ret = true) : ret = some .long := by
  rcases ret with _ | t
  · exact absurd h (by simp [zrt])
  · cases t <;> first | rfl | exact absurd h (by simp [zrt])
theorem zrt_3 {ret : Option FieldType} (h : zrt 3 ret = true) : ∃ cn, ret = some (.object cn) := by
  rcases ret with _ | t
  · exact absurd h (by simp [zrt])
  · cases t <;> first | exact ⟨_, rfl⟩ | exact absurd h (by simp [zrt])
theorem zrt_4 {ret : Option FieldType} (h : zrt 4 ret = true) : ret = some .boolean := by
  rcases ret with _ | t
  · exact absurd h (by simp [zrt])
  · cases t <;> first | rfl | exact absurd h (by simp [zrt])
section ZR
variable {p : Program} {l : Launch} {e : Env} {s : State} {m : MethodId} {args : Array Value} {below : List Frame} {meth : Method} {c : Code} {D : va_G} {ca : Nat → ClassId} {A : Nat → Prop} {d μ : Nat} {b : zB} {ad0 : Nat → Nat} {Qs : State → Prop} {Q : Int → zW → Prop}
variable {pc : Nat} {S : zMS} {k : zMS → Prop}
theorem zs_mm {f : Int → Int → Int} {F : Int32 → Int32 → Int32} (hf : ∀ x y, zr32 x → zr32 y → Int32.ofInt (f x y) = F (Int32.ofInt x) (Int32.ofInt y) ∧ zr32 (f x y)) (hr : ∀ (H : Heap) (locs : List Loc) (cv : Array Slot) (rest : List Value) (cells slots : Nat) (x y : Int32), c.maxLocals = cv.size → (rest.map fun v => v.category).sum ≤ 8 → cells ≤ b.2.2.1 → slots ≤ b.2.2.2 → W p l e (zrm d b) s m args below meth c H locs cells slots Qs (F0 m (pc + 3) cv (.int (F x y) :: rest)) → W p l e (zrm d b) s m args below meth c H locs cells slots Qs (F0 m pc cv (.int y :: .int x :: rest)))
    (hml : c.maxLocals = zmaxL μ) (h : zmm f S k) (hk : ∀ S', k S' → zWS p l e s m args below meth c D ca A d μ b ad0 Qs (pc + 3) S') : zWS p l e s m args below meth c D ca A d μ b ad0 Qs pc S := by
  obtain ⟨ls, st, w⟩ := S
  intro H locs cv ad hs
  unfold zmm at h
  have hst := hs.2.2.2.2.2.1
  rcases st with _ | ⟨y | y | y | y, _ | ⟨x | x | x | x, st⟩⟩
  case cons.inl.cons.inl =>
    obtain ⟨h1, h2⟩ := zvo_t hst
    obtain ⟨h3, h4⟩ := zvo_t h2
    obtain ⟨h5, h6⟩ := zkb_e h
    have h5 := Nat.le_of_ble_eq_true h5
    obtain ⟨q1, q2⟩ := hf x y h3 h1
    have h8 : zfr b w.1 := hs.2.2.2.2.2.2.2.1
    unfold zfr at h8
    refine hr H locs cv _ _ _ (Int32.ofInt x) (Int32.ofInt y) (by rw [hml, hs.2.2.2.2.2.2.1.1]) (by rw [zcat_eq]; exact h5) (by show w.1.length - b.1 ≤ _; omega) (by show zsz w.1 - b.2.1 ≤ _; omega) ?_
    rw [← q1]
    exact hk _ h6 H locs cv ad (hs.stk (zvo_I q2 h4))
  all_goals exact absurd h id
theorem zmax_ok (x y : Int) (hx : zr32 x) (hy : zr32 y) : Int32.ofInt (zmax x y) = (fun x y : Int32 => if x < y then y else x) (Int32.ofInt x) (Int32.ofInt y) ∧ zr32 (zmax x y) := by
  unfold zmax
  dsimp only
  by_cases h : x < y
  · rw [if_pos ((zr32_lt hx hy).mpr h), Int.max_eq_right (by omega)]; exact ⟨rfl, hy⟩
  · rw [if_neg (fun q => h ((zr32_lt hx hy).mp q)), Int.max_eq_left (by omega)]; exact ⟨rfl, hx⟩
theorem zmin_ok (x y : Int) (hx : zr32 x) (hy : zr32 y) : Int32.ofInt (zmin x y) = (fun x y : Int32 => if y < x then y else x) (Int32.ofInt x) (Int32.ofInt y) ∧ zr32 (zmin x y) := by
  unfold zmin
  dsimp only
  by_cases h : y < x
  · rw [if_pos ((zr32_lt hy hx).mpr h), Int.min_eq_right (by omega)]; exact ⟨rfl, hy⟩
  · rw [if_neg (fun q => h ((zr32_lt hy hx).mp q)), Int.min_eq_left (by omega)]; exact ⟨rfl, hx⟩
theorem zite {c a b : Prop} [Decidable c] (h : if c then a else b) : (c → a) ∧ (¬ c → b) := by
  by_cases hc : c
  · rw [if_pos hc] at h; exact ⟨fun _ => h, fun n => absurd hc n⟩
  · rw [if_neg hc] at h; exact ⟨fun n => absurd n hc, fun _ => h⟩
/-- the world and the locals stay, the stack is a part of what it was -/
theorem zs_if {cd : ClassFile.Cond} {o : Int} {x : Int} {t : Nat} {ls st : List zV} {w : zW} {a f : Prop} (C0 : zCx p s m args meth c D ca A μ) (hdg : decode (zcode μ) pc = .ok (.ifCond cd o, 3)) (ht : (pc : Int) + o = (t : Int)) (h : zif cd x 0 a f) (ha : a → zWS p l e s m args below meth c D ca A d μ b ad0 Qs t (ls, st, w)) (hf : f → zWS p l e s m args below meth c D ca A d μ b ad0 Qs (pc + 3) (ls, st, w)) : zWS p l e s m args below meth c D ca A d μ b ad0 Qs pc (ls, zI x :: st, w) := by
  obtain ⟨hx, hb, -⟩ := C0
  intro H locs cv ad hs
  obtain ⟨h1, h2⟩ := zvo_t hs.2.2.2.2.2.1
  have h1 : zr32 x := h1
  have hs2 := hs.stk h2
  cases cd
  case eq =>
    obtain ⟨g1, g2⟩ := zite h
    exact lv_if_eq hx hb hdg ht (fun q => ha (g1 ((zr32_eq h1 zr32_0).mp q)) H locs cv ad hs2) (fun q => hf (g2 (fun z => q ((zr32_eq h1 zr32_0).mpr z))) H locs cv ad hs2)
  case ne =>
    obtain ⟨g1, g2⟩ := zite h
    exact lv_if_ne hx hb hdg ht (fun q => ha (g2 (fun z => q ((zr32_eq h1 zr32_0).mpr z))) H locs cv ad hs2) (fun q => hf (g1 ((zr32_eq h1 zr32_0).mp q)) H locs cv ad hs2)
  case lt =>
    obtain ⟨g1, g2⟩ := zite h
    exact lv_if_lt hx hb hdg ht (fun q => ha (g1 ((zr32_lt h1 zr32_0).mp q)) H locs cv ad hs2) (fun q => hf (g2 (fun z => q ((zr32_lt h1 zr32_0).mpr z))) H locs cv ad hs2)
  case ge =>
    obtain ⟨g1, g2⟩ := zite h
    exact lv_if_ge hx hb hdg ht (fun q => ha (g2 (fun z => by have := (zr32_le zr32_0 h1).mp q; omega)) H locs cv ad hs2) (fun q => hf (g1 (Int.not_le.mp (fun z => q ((zr32_le zr32_0 h1).mpr z)))) H locs cv ad hs2)
  case gt =>
    obtain ⟨g1, g2⟩ := zite h
    exact lv_if_gt hx hb hdg ht (fun q => ha (g1 ((zr32_lt zr32_0 h1).mp q)) H locs cv ad hs2) (fun q => hf (g2 (fun z => q ((zr32_lt zr32_0 h1).mpr z))) H locs cv ad hs2)
  case le =>
    obtain ⟨g1, g2⟩ := zite h
    exact lv_if_le hx hb hdg ht (fun q => ha (g2 (fun z => by have := (zr32_le h1 zr32_0).mp q; omega)) H locs cv ad hs2) (fun q => hf (g1 (Int.not_le.mp (fun z => q ((zr32_le h1 zr32_0).mpr z)))) H locs cv ad hs2)
theorem zs_icmp {cd : ClassFile.Cond} {o : Int} {x y : Int} {t : Nat} {ls st : List zV} {w : zW} {a f : Prop} (C0 : zCx p s m args meth c D ca A μ) (hdg : decode (zcode μ) pc = .ok (.if_icmp cd o, 3)) (ht : (pc : Int) + o = (t : Int)) (h : zif cd x y a f) (ha : a → zWS p l e s m args below meth c D ca A d μ b ad0 Qs t (ls, st, w)) (hf : f → zWS p l e s m args below meth c D ca A d μ b ad0 Qs (pc + 3) (ls, st, w)) : zWS p l e s m args below meth c D ca A d μ b ad0 Qs pc (ls, zI y :: zI x :: st, w) := by
  obtain ⟨hx, hb, -⟩ := C0
  intro H locs cv ad hs
  obtain ⟨hy, h2⟩ := zvo_t hs.2.2.2.2.2.1
  obtain ⟨h1, h2⟩ := zvo_t h2
  have h1 : zr32 x := h1
  have hy : zr32 y := hy
  have hs2 := hs.stk h2
  cases cd
  case eq =>
    obtain ⟨g1, g2⟩ := zite h
    exact lv_icmp_eq hx hb hdg ht (fun q => ha (g1 ((zr32_eq h1 hy).mp q)) H locs cv ad hs2) (fun q => hf (g2 (fun z => q ((zr32_eq h1 hy).mpr z))) H locs cv ad hs2)
  case ne =>
    obtain ⟨g1, g2⟩ := zite h
    exact lv_icmp_ne hx hb hdg ht (fun q => ha (g2 (fun z => q ((zr32_eq h1 hy).mpr z))) H locs cv ad hs2) (fun q => hf (g1 ((zr32_eq h1 hy).mp q)) H locs cv ad hs2)
  case lt =>
    obtain ⟨g1, g2⟩ := zite h
    exact lv_icmp_lt hx hb hdg ht (fun q => ha (g1 ((zr32_lt h1 hy).mp q)) H locs cv ad hs2) (fun q => hf (g2 (fun z => q ((zr32_lt h1 hy).mpr z))) H locs cv ad hs2)
  case ge =>
    obtain ⟨g1, g2⟩ := zite h
    exact lv_icmp_ge hx hb hdg ht (fun q => ha (g2 (fun z => by have := (zr32_le hy h1).mp q; omega)) H locs cv ad hs2) (fun q => hf (g1 (Int.not_le.mp (fun z => q ((zr32_le hy h1).mpr z)))) H locs cv ad hs2)
  case gt =>
    obtain ⟨g1, g2⟩ := zite h
    exact lv_icmp_gt hx hb hdg ht (fun q => ha (g1 ((zr32_lt hy h1).mp q)) H locs cv ad hs2) (fun q => hf (g2 (fun z => q ((zr32_lt hy h1).mpr z))) H locs cv ad hs2)
  case le =>
    obtain ⟨g1, g2⟩ := zite h
    exact lv_icmp_le hx hb hdg ht (fun q => ha (g2 (fun z => by have := (zr32_le h1 hy).mp q; omega)) H locs cv ad hs2) (fun q => hf (g1 (Int.not_le.mp (fun z => q ((zr32_le h1 hy).mpr z)))) H locs cv ad hs2)
/-- which offset a switch takes -/
theorem ztsw_e {J : Nat → Prop} {x dflt : Int} : ∀ (offs : List Int) (lo : Int), ztsw J pc x dflt lo offs → ((x < lo ∨ lo + offs.length ≤ x) ∧ J ((pc : Int) + dflt).toNat) ∨ ∃ o, lo ≤ x ∧ x < lo + offs.length ∧ offs[(x - lo).toNat]? = some o ∧ J ((pc : Int) + o).toNat
  | [], lo, h => Or.inl ⟨by simp; omega, h⟩
  | o :: os, lo, h => by
    unfold ztsw at h
    obtain ⟨g1, g2⟩ := zite h
    by_cases hx : x = lo
    · subst hx
      exact Or.inr ⟨o, by omega, by simp; omega, by simp, g1 rfl⟩
    · rcases ztsw_e os (lo + 1) (g2 hx) with ⟨h1, h2⟩ | ⟨o', h1, h2, h3, h4⟩
      · refine Or.inl ⟨?_, h2⟩
        simp
        omega
      · refine Or.inr ⟨o', by omega, by simp; omega, ?_, h4⟩
        rw [show (x - lo).toNat = (x - (lo + 1)).toNat + 1 by omega]
        exact h3
theorem zs_tsw {dflt lo hi : Int} {offs : Array Int} {x : Int} {ls st : List zV} {w : zW} {J : Nat → Prop} (C0 : zCx p s m args meth c D ca A μ) (hdg : decode (zcode μ) pc = .ok (.tableswitch dflt lo hi offs, 33)) (hhi : hi = lo + offs.toList.length - 1) (h0 : 0 ≤ (pc : Int) + dflt) (h1 : ∀ o ∈ offs.toList, 0 ≤ (pc : Int) + o) (h : ztsw J pc x dflt lo offs.toList) (ha : ∀ t, J t → zWS p l e s m args below meth c D ca A d μ b ad0 Qs t (ls, st, w)) : zWS p l e s m args below meth c D ca A d μ b ad0 Qs pc (ls, zI x :: st, w) := by
  obtain ⟨hx, hb, -⟩ := C0
  intro H locs cv ad hs
  obtain ⟨hx1, h2⟩ := zvo_t hs.2.2.2.2.2.1
  have hx1 : zr32 x := hx1
  have hs2 := hs.stk h2
  rcases ztsw_e _ _ h with ⟨g1, g2⟩ | ⟨o, g1, g2, g3, g4⟩
  · exact lv_tableOut hx hb hdg (by rw [zr32_t hx1]; omega) (tgt := ((pc : Int) + dflt).toNat) (by omega) (ha _ g2 H locs cv ad hs2)
  · refine lv_tableIn hx hb hdg (by rw [zr32_t hx1]; omega) (by rw [zr32_t hx1]; omega) (off := o) ?_ (tgt := ((pc : Int) + o).toNat) ?_ (ha _ g4 H locs cv ad hs2)
    · rw [zr32_t hx1, ← Array.getElem?_toList]
      exact g3
    · have := h1 o (List.mem_of_getElem? g3)
      omega
/-- the end -/
theorem zend_e {b : zB} {S : zMS} {k : Prop} (h : zend b S k) (hb : b.2.2.1 = 0 → b.2.2.2 = 0) (hf : zfr b S.2.2.1) : k ∧ S.2.2.1.length = b.1 + b.2.2.1 ∧ zsz S.2.2.1 = b.2.1 + b.2.2.2 := by
  unfold zfr at hf
  unfold zend at h
  split at h
  · next h0 =>
    have := hb h0
    exact ⟨h, by omega, by omega⟩
  · obtain ⟨h1, h2⟩ := zck_e h
    exact ⟨h2, h1⟩
theorem zQ_at {rk : Nat} {r : Int} {ls st : List zV} {w : zW} {H : Heap} {locs : List Loc} {cv : Array Slot} {ad : Nat → Nat} {nL : Nat} (hs : zst D ca A s b ad0 nL H locs cv ad (ls, st, w)) (hq : Q r w) (hr : zro rk w.1.length r) (h1 : w.1.length = b.1 + b.2.2.1) (h2 : zsz w.1 = b.2.1 + b.2.2.2) : ∀ t : State, t.heap = H → s.WarmedH t.vm → zPo D ca A b ad0 rk Q args s (.returned (zrv rk ad r)) t := by
  intro t ht hW
  exact ⟨⟨r, w, ad, rfl, hq, hr, by rw [ht]; exact hs.1, hs.2.1, hs.2.2.2.1, h1, h2, hs.2.2.2.2.2.2.2.2⟩, hs.2.2.1.F ht⟩
theorem zarg_split {n : Nat} {st : List zV} {ad : Nat → Nat} : st.map (zcv ad) = ((st.take n).reverse.map (zcv ad)).reverse ++ (st.drop n).map (zcv ad) := by
  rw [List.map_reverse, List.reverse_reverse, ← List.map_append, List.take_append_drop]
/-- a call -/
theorem zs_cal {r : List Nat} {op idx : Nat} {ins : Instr} (hop : op = 0 ∧ ins = .invokevirtual idx ∨ op = 1 ∧ ins = .invokestatic idx ∨ op = 2 ∧ ins = .invokespecial idx) (C0 : zCx p s m args meth c D ca A μ) (hdg : decode (zcode μ) pc = .ok (ins, 3)) (hch : zchi μ idx r op = true) (h5 : r.getD 2 0 ≠ 5) (h6 : r.getD 2 0 ≠ 6) (h7 : r.getD 2 0 ≠ 7)
    (h : zcal b (zEv d) (r.getD 0 0) (r.getD 2 0) (r.getD 3 0) (r.getD 4 0) (r.getD 5 0) S k) (hk : ∀ S', k S' → zWS p l e s m args below meth c D ca A (d + 1) μ b ad0 Qs (pc + 3) S') : zWS p l e s m args below meth c D ca A (d + 1) μ b ad0 Qs pc S := by
  obtain ⟨hx, hb, hml, hr, hown, hlocks, hin, hts, hnw, hao, hK, hA⟩ := C0
  obtain ⟨ls, st, w⟩ := S
  intro H locs cv ad hs
  have h8 : zfr b w.1 := hs.2.2.2.2.2.2.2.1
  have hst : ∀ v ∈ st, zvo w.1.length v := hs.2.2.2.2.2.1
  unfold zcal at h
  dsimp only at h
  have ha1 := zrcv_e h
  clear h
  have ha2 := zkb_e ha1.1
  have ha4 := ha2.1
  rw [Bool.and_eq_true] at ha4
  have ha3 := zbud_e ha2.2 zal_0 h8
  have h := ha3.1
  have hrc := ha1.2.1
  have hrc2 := ha1.2.2
  have hroom := Nat.le_of_ble_eq_true ha4.2
  have hsl := Nat.le_of_ble_eq_true ha4.1
  have hbc := ha3.2.1
  have hbs := ha3.2.2
  clear ha1 ha2 ha3 ha4
  unfold zfr at h8
  unfold zchi at hch
  rw [if_neg h5, if_neg h6, if_neg h7] at hch
  obtain ⟨hch, hkind⟩ := zat_e2 hch
  obtain ⟨hch, hn⟩ := zat_e2 hch
  obtain ⟨hlt, hrk⟩ := zat_e2 hch
  have hlt : r.getD 0 0 < zmt.length := of_decide_eq_true hlt
  have hrk : r.getD 4 0 = zrk (r.getD 0 0) := of_decide_eq_true hrk
  have hn : r.getD 3 0 = zrow (r.getD 0 0) 1 := of_decide_eq_true hn
  generalize hμ : r.getD 0 0 = μ' at *
  generalize hkd : r.getD 2 0 = kd at *
  generalize hnn : r.getD 3 0 = n at *
  generalize hrr : r.getD 4 0 = rk at *
  generalize ha : (st.take n).reverse = a at *
  have hav : ∀ v ∈ a, zvo w.1.length v := fun v hv => hst v (List.mem_of_mem_take (by rw [← ha] at hv; exact List.mem_reverse.mp hv))
  have hdv : ∀ v ∈ st.drop n, zvo w.1.length v := fun v hv => hst v (List.mem_of_mem_drop hv)
  have hstk : st.map (zcv ad) = (a.map (zcv ad)).reverse ++ (st.drop n).map (zcv ad) := by rw [← ha]; exact zarg_split
  obtain ⟨c1, c2, c3, c4, c5, c6, c7, c8, c9⟩ := zchm_e hlt
  -- what is behind the call, for every kind of answer
  obtain ⟨Q', hEv, hQ'⟩ : ∃ Q' : Int → zW → Prop, zEv d μ' a w Q' ∧ ∀ (x : Int) (w' : zW) (ad' : Nat → Nat), Q' x w' → zro rk w'.1.length x → ∃ vs : List zV, (zrv rk ad' x).toList = vs.map (zcv ad') ∧ (∀ v ∈ vs, zvo w'.1.length v) ∧ k (ls, vs ++ st.drop n, w') := by
    split at h
    · exact ⟨_, h, fun x w' ad' q1 q2 => ⟨[], rfl, by simp, q1⟩⟩
    · exact ⟨_, h, fun x w' ad' q1 q2 => ⟨[zL x], rfl, fun v hv => by rw [List.mem_singleton.mp hv]; exact q2, q1⟩⟩
    · exact ⟨_, h, fun x w' ad' q1 q2 => ⟨[zR x.toNat], rfl, fun v hv => by rw [List.mem_singleton.mp hv]; exact q2, q1⟩⟩
    · next n0 n2 n3 =>
      refine ⟨_, h, fun x w' ad' q1 q2 => ⟨[zI x], ?_, fun v hv => ?_, q1⟩⟩
      · unfold zrv
        split
        · exact absurd rfl n0
        · exact absurd rfl n2
        · exact absurd rfl n3
        · rfl
      · rw [List.mem_singleton.mp hv]
        unfold zro at q2
        split at q2
        · exact absurd rfl n0
        · exact absurd rfl n2
        · exact absurd rfl n3
        · exact q2
  have hM := hEv l D ca ad H.size
  have behind : ∀ (av : Array Value), va_Run p l e (zrm (d + 1) b) s m args below meth c H locs (w.1.length - b.1) (zsz w.1 - b.2.1) (zal μ' a).1 (zal μ' a).2 (F0 m pc cv (st.map (zcv ad))) ((st.drop n).map (zcv ad)) (zPo D ca (va_A (zws ca ad w) H.size) (zbd μ' a w) ad (zrk μ') Q' av) (va_A (zws ca ad w) H.size) → W p l e (zrm (d + 1) b) s m args below meth c H locs (w.1.length - b.1) (zsz w.1 - b.2.1) Qs (F0 m pc cv (st.map (zcv ad))) := by
    intro av hrun
    refine zcb (ls := ls) hrun rfl hA hs.1 hs.2.1 hs.2.2.1 (fun x w' ad' H1 locs1 q1 q2 q3 q4 q5 q6 q7 q8 q9 => ?_)
    have q6 : w'.1.length = w.1.length + (zal μ' a).1 := q6
    have q7 : zsz w'.1 = zsz w.1 + (zal μ' a).2 := q7
    have q8 : ∀ k, k < w.1.length → ad' k = ad k := q8
    rw [← hrk] at q2 ⊢
    obtain ⟨vs, v1, v2, v3⟩ := hQ' x w' ad' q1 q2
    have hup : ∀ v : zV, zvo w.1.length v → zvo w'.1.length v ∧ zcv ad' v = zcv ad v := by
      intro v hv
      rcases v with y | y | y | y
      · exact ⟨hv, rfl⟩
      · exact ⟨hv, rfl⟩
      · have hv : y < w.1.length := hv
        exact ⟨by show y < w'.1.length; omega, by show Value.ref (ad' y) = Value.ref (ad y); rw [q8 y hv]⟩
      · exact ⟨trivial, rfl⟩
    have e1 := hk _ v3 H1 locs1 cv ad' ⟨q3, q4, q9, q5, fun v hv => (hup v (hs.2.2.2.2.1 v hv)).1, fun v hv => by
      rcases List.mem_append.mp hv with hv | hv
      · exact v2 v hv
      · exact (hup v (hdv v hv)).1, ⟨hs.2.2.2.2.2.2.1.1, hs.2.2.2.2.2.2.1.2.1, fun j v hj hn => by
        rw [(hup v (hs.2.2.2.2.1 v (List.mem_of_getElem? hj))).2]
        exact hs.2.2.2.2.2.2.1.2.2 j v hj hn⟩, by
      show zfr b w'.1
      unfold zfr
      omega, fun k hk => by rw [q8 k (by omega)]; exact hs.2.2.2.2.2.2.2.2 k hk⟩
    dsimp only at e1
    rw [List.map_append, ← v1, List.map_congr_left (fun v hv => (hup v (hdv v hv)).2)] at e1
    rw [show w'.1.length - b.1 = w.1.length - b.1 + (zal μ' a).1 by omega, show zsz w'.1 - b.2.1 = zsz w.1 - b.2.1 + (zal μ' a).2 by omega] at e1
    exact e1
  have hroom2 : 2 * (F0 m pc cv (st.map (zcv ad))).monitorRoom + (((st.drop n).map (zcv ad)).map fun v => v.category).sum ≤ 8 := lv_room (by rw [zcat_eq]; exact hroom)
  have hR : (zrm d (zbd μ' a w)).frames + 1 ≤ (zrm (d + 1) b).frames ∧ 8 + (zmaxL μ' + 11) + (zrm d (zbd μ' a w)).locals ≤ (zrm (d + 1) b).locals := by
    show d + 1 ≤ d + 1 ∧ 8 + (zmaxL μ' + 11) + 200 * d ≤ 200 * (d + 1)
    omega
  have hfit : w.1.length - b.1 + (zal μ' a).1 ≤ (zrm (d + 1) b).cells ∧ zsz w.1 - b.2.1 + (zal μ' a).2 ≤ (zrm (d + 1) b).slots := by
    show w.1.length - b.1 + (zal μ' a).1 ≤ b.2.2.1 ∧ zsz w.1 - b.2.1 + (zal μ' a).2 ≤ b.2.2.2
    omega
  have hfix : CallFix p m c (zcode μ) (zmaxL μ) s args (zwd μ) (zy μ).cls := ⟨hx, hb, hml, hown, hts⟩
  have hini : (Jvm.Cond.initialized (zy μ').cls).before args s = true := hts _ (zwd_in c2)
  have hlen : a.length = n := by rw [← ha, List.length_reverse, List.length_take]; omega
  split at hkind
  · -- virtual
    obtain ⟨hkind, k1⟩ := zat_e2 hkind
    obtain ⟨hkind, k2⟩ := zat_e2 hkind
    obtain ⟨hkind, k3⟩ := zat_e2 hkind
    obtain ⟨k4, k5⟩ := zat_e2 hkind
    have k1 : (vwCl[r.getD 5 0]?).map (fun q => q.1) = some (zy μ').cls := of_decide_eq_true k1
    have k2 : (zy μ').name ≠ "<init>" := of_decide_eq_true k2
    have k3 : zrow μ' 7 = 0 := of_decide_eq_true k3
    have k4 : op = 0 := of_decide_eq_true k4
    obtain ⟨i1, i2, i3, i4⟩ := c8 k3
    obtain ⟨rr, as, rfl, hkr⟩ := hrc rfl
    have hrl : rr < w.1.length := hav (zR rr) List.mem_cons_self
    have hins : ins = .invokevirtual idx := by rcases hop with h | h | h <;> first | exact h.2 | (exfalso; omega)
    subst hins
    cases hq : vwCl[r.getD 5 0]? with
    | none => rw [hq] at k1; cases k1
    | some q0 =>
      rw [hq] at k1
      obtain ⟨C, T, N⟩ := q0
      have hC : C = (zy μ').cls := Option.some.inj k1
      subst hC
      have hci := zci_lt hq
      have hasl : as.length = zrow μ' 1 - 1 := by
        have : (zR rr :: as).length = as.length + 1 := rfl
        omega
      refine behind _ (va_runV (C := (zy μ').cls) (b := ad rr) (As := as.map (zcv ad)) (n := zrow μ' 1 - 1) hfix hM ⟨callB_of (zrow μ' 1 - 1) hts (zgood hlt) rfl rfl rfl hini (hts _ (zwd_in (zat_e k5))) ⟨c4.1, c4.2, i3⟩ hR, hts _ (zwd_in i1), hts _ (zwd_in (i2 k2))⟩ ⟨zPr_blind, va_recv hK hs.1 hq (q0 := rr) (fs := (List.range (znf (r.getD 5 0))).map (zfv ad w.1 w.2.1 (r.getD 5 0) rr)) (by rw [zws_at hrl, zce_obj hkr (by omega)]), zPr_at (a := zR rr :: as) hnw hao hK hs.1 hs.2.1 hs.2.2.2.1 hav⟩ rfl (by rw [List.length_map, hasl]) hs.2.2.2.2.2.2.1.1 ?_ hroom2 hdg hfit)
      rw [hstk]
      simp [zcv]
  · -- static
    obtain ⟨hkind, k3⟩ := zat_e2 hkind
    obtain ⟨k4, k5⟩ := zat_e2 hkind
    have k3 : zrow μ' 7 = 1 := of_decide_eq_true k3
    have k4 : op = 1 := of_decide_eq_true k4
    obtain ⟨i1, i2⟩ := c9 k3
    have hins : ins = .invokestatic idx := by rcases hop with h | h | h <;> first | exact h.2 | (exfalso; omega)
    subst hins
    exact behind _ (va_runS (As := a.map (zcv ad)) (n := zrow μ' 1) hfix hM ⟨callB_of (zrow μ' 1) hts (zgood hlt) rfl rfl rfl hini (hts _ (zwd_in (zat_e k5))) ⟨c4.1, c4.2, i2⟩ hR, hts _ (zwd_in i1)⟩ ⟨zPr_blind, zPr_at hnw hao hK hs.1 hs.2.1 hs.2.2.2.1 hav⟩ rfl (by rw [List.length_map]; omega) hs.2.2.2.2.2.2.1.1 hstk hroom2 hdg hfit)
  · -- a constructor
    obtain ⟨hkind, k2⟩ := zat_e2 hkind
    obtain ⟨hkind, k3⟩ := zat_e2 hkind
    obtain ⟨k4, k5⟩ := zat_e2 hkind
    have k2 : (zy μ').name = "<init>" := of_decide_eq_true k2
    have k3 : zrow μ' 7 = 0 := of_decide_eq_true k3
    have k4 : op = 2 := of_decide_eq_true k4
    obtain ⟨i1, i2, i3, i4⟩ := c8 k3
    have hins : ins = .invokespecial idx := by rcases hop with h | h | h <;> first | exact h.2 | (exfalso; omega)
    subst hins
    have hnone : zret μ' = none := by
      have := c7 k2
      rw [this] at c6
      exact zrt_0 c6
    obtain ⟨rr, as, rfl⟩ := hrc2 (by decide) (by decide)
    · have hv0 := hav (zR rr) List.mem_cons_self
      refine behind _ (va_runI (b := ad rr) (As := as.map (zcv ad)) (n := zrow μ' 1 - 1) hfix hM ⟨by rw [← hnone]; exact callB_of (zrow μ' 1 - 1) hts (zgood hlt) rfl rfl rfl hini (hts _ (zwd_in (zat_e k5))) ⟨c4.1, c4.2, i3⟩ hR, k2, hts _ (zwd_in i1)⟩ ⟨zPr_blind, zPr_at (a := zR rr :: as) hnw hao hK hs.1 hs.2.1 hs.2.2.2.1 hav⟩ rfl (by rw [List.length_map]; simp at hlen; omega) hs.2.2.2.2.2.2.1.1 ?_ hroom2 hdg hfit)
      rw [hstk]
      simp [zcv]
  · -- static, of a nest mate
    obtain ⟨hkind, k3⟩ := zat_e2 hkind
    obtain ⟨k4, k5⟩ := zat_e2 hkind
    have k3 : zrow μ' 7 = 1 := of_decide_eq_true k3
    have k4 : op = 1 := of_decide_eq_true k4
    have k5 := of_decide_eq_true k5
    obtain ⟨i1, i2⟩ := c9 k3
    have hins : ins = .invokestatic idx := by rcases hop with h | h | h <;> first | exact h.2 | (exfalso; omega)
    subst hins
    exact behind _ (va_runSN (As := a.map (zcv ad)) (n := zrow μ' 1) hfix hM ⟨va_cnB (zrow μ' 1) hts (zgood hlt) rfl rfl rfl (hnw _ (List.mem_filter.mpr ⟨ztb_in k5, rfl⟩)) hini ⟨c4.1, c4.2, i2⟩ hR, hts _ (zwd_in i1), trivial⟩ ⟨zPr_blind, zPr_at hnw hao hK hs.1 hs.2.1 hs.2.2.2.1 hav⟩ rfl (by rw [List.length_map]; omega) hs.2.2.2.2.2.2.1.1 hstk hroom2 hdg hfit)
  · -- a constructor, of a nest mate
    obtain ⟨hkind, k2⟩ := zat_e2 hkind
    obtain ⟨hkind, k3⟩ := zat_e2 hkind
    obtain ⟨k4, k5⟩ := zat_e2 hkind
    have k2 : (zy μ').name = "<init>" := of_decide_eq_true k2
    have k3 : zrow μ' 7 = 0 := of_decide_eq_true k3
    have k4 : op = 2 := of_decide_eq_true k4
    have k5 := of_decide_eq_true k5
    obtain ⟨i1, i2, i3, i4⟩ := c8 k3
    have hins : ins = .invokespecial idx := by rcases hop with h | h | h <;> first | exact h.2 | (exfalso; omega)
    subst hins
    have hnone : zret μ' = none := by
      have := c7 k2
      rw [this] at c6
      exact zrt_0 c6
    obtain ⟨rr, as, rfl⟩ := hrc2 (by decide) (by decide)
    · have hv0 := hav (zR rr) List.mem_cons_self
      refine behind _ (va_runIN (b := ad rr) (As := as.map (zcv ad)) (n := zrow μ' 1 - 1) hfix hM ⟨by rw [← hnone]; exact va_cnB (zrow μ' 1 - 1) hts (zgood hlt) rfl rfl rfl (hnw _ (List.mem_filter.mpr ⟨ztb_in k5, rfl⟩)) hini ⟨c4.1, c4.2, i3⟩ hR, k2, hts _ (zwd_in i1)⟩ ⟨zPr_blind, zPr_at (a := zR rr :: as) hnw hao hK hs.1 hs.2.1 hs.2.2.2.1 hav⟩ rfl (by rw [List.length_map]; simp at hlen; omega) hs.2.2.2.2.2.2.1.1 ?_ hroom2 hdg hfit)
      rw [hstk]
      simp [zcv]
  · cases hkind
/-- a stretch of code, over any ends of its jumps that the machine comes to -/
theorem zbr_ok {J : Nat → zMS → Prop} (hbb : b.2.2.1 = 0 → b.2.2.2 = 0) (hμ : μ < zmt.length) (C0 : zCx p s m args meth c D ca A μ) (hJ : ∀ pc S, J pc S → zWS p l e s m args below meth c D ca A (d + 1) μ b ad0 (MQ below (zPo D ca A b ad0 (zrk μ) Q) args s b.2.2.1 b.2.2.2 A) pc S) : ∀ (is : List zIns) (pc : Nat) (S : zMS), zchb μ pc is = true → zbr b (zEv d) J Q (zrk μ) is pc S → zWS p l e s m args below meth c D ca A (d + 1) μ b ad0 (MQ below (zPo D ca A b ad0 (zrk μ) Q) args s b.2.2.1 b.2.2.2 A) pc S
  | [], pc, S, _, h => hJ pc S h
  | i :: is, pc, S, hch, h => by
    obtain ⟨hx, hb, hml, hr, hown, hlocks, hin, hts, hnw, hao, hK, hA⟩ := id C0
    unfold zchb at hch
    obtain ⟨hc1, hc2⟩ := zat_e2 hch
    obtain ⟨hd, hc3⟩ := zdec hc1
    have ih := fun S => zbr_ok hbb hμ C0 hJ is (pc + zlen i.1) S hc2
    obtain ⟨ls, st, w⟩ := S
    obtain ⟨ins, r⟩ := i
    obtain ⟨-, -, -, -, -, c6, -, -, -⟩ := zchm_e hμ
    have hin6 : Jvm.Cond.initialized "java/lang/Math" ∈ zwd μ := zwd_in ⟨ztb_in (i := 54) (by decide +kernel), rfl⟩
    cases ins
    case goto o =>
      intro H locs cv ad hs
      exact lv_goto hx hb hd (of_decide_eq_true hc3) (hJ _ _ h H locs cv ad hs)
    case ifCond cd o =>
      rcases st with _ | ⟨x | x | x | x, st⟩
      case cons.inl => exact zs_if C0 hd (of_decide_eq_true hc3) h (hJ _ _) (ih _)
      all_goals exact absurd h id
    case if_icmp cd o =>
      rcases st with _ | ⟨y | y | y | y, _ | ⟨x | x | x | x, st⟩⟩
      case cons.inl.cons.inl => exact zs_icmp C0 hd (of_decide_eq_true hc3) h (hJ _ _) (ih _)
      all_goals exact absurd h id
    case tableswitch d0 lo hi offs =>
      rcases st with _ | ⟨x | x | x | x, st⟩
      case cons.inl =>
        obtain ⟨k1, k2⟩ := zat_e2 hc3
        obtain ⟨k1, k3⟩ := zat_e2 k1
        exact zs_tsw C0 hd (of_decide_eq_true k1) (of_decide_eq_true k3) (fun o ho => of_decide_eq_true (List.all_eq_true.mp k2 o ho)) h (fun t ht => hJ t _ ht)
      all_goals exact absurd h id
    case ireturn =>
      rcases st with _ | ⟨x | x | x | x, _ | ⟨y, st⟩⟩
      case cons.inl.nil =>
        intro H locs cv ad hs
        have hv : zr32 x := hs.2.2.2.2.2.1 (zI x) List.mem_cons_self
        have h : (match zrk μ with
          | 1 => zend b (ls, [zI x], w) (Q x w)
          | 4 => zend b (ls, [zI x], w) (zbl x (fun x => Q x w))
          | _ => False) := h
        split at h
        · next hk1 =>
          obtain ⟨g1, g2, g3⟩ := zend_e h hbb hs.2.2.2.2.2.2.2.1
          dsimp only at g2 g3
          have hret : zret μ = some .int := zrt_1 (by rw [hk1] at c6; exact c6)
          have hq := zQ_at (args := args) (rk := zrk μ) hs g1 (by rw [hk1]; exact hv) g2 g3
          rw [hk1] at hq ⊢
          have e1 := W.iret (p := p) (l := l) (e := e) (R := zrm (d + 1) b) (m := m) (below := below) (cells := w.1.length - b.1) (slots := zsz w.1 - b.2.1) (v := Int32.ofInt x) (free := A) hx hb (by rw [hr, hret]) hq hs.2.2.1.2.2 (ls := cv) hd
          rw [show w.1.length - b.1 = b.2.2.1 by omega, show zsz w.1 - b.2.1 = b.2.2.2 by omega] at e1
          show W p l e (zrm (d + 1) b) s m args below meth c H locs (w.1.length - b.1) (zsz w.1 - b.2.1) _ _
          rw [show w.1.length - b.1 = b.2.2.1 by omega, show zsz w.1 - b.2.1 = b.2.2.2 by omega]
          exact e1
        · next hk1 =>
          obtain ⟨g1, g2, g3⟩ := zend_e h hbb hs.2.2.2.2.2.2.2.1
          obtain ⟨g4, g1⟩ := zbl_e g1
          dsimp only at g2 g3
          have hret : zret μ = some .boolean := zrt_4 (by rw [hk1] at c6; exact c6)
          have hq := zQ_at (args := args) (rk := zrk μ) hs g1 (by rw [hk1]; exact hv) g2 g3
          rw [hk1] at hq ⊢
          have e1 := W.zret (p := p) (l := l) (e := e) (R := zrm (d + 1) b) (m := m) (below := below) (cells := w.1.length - b.1) (slots := zsz w.1 - b.2.1) (v := Int32.ofInt x) (free := A) hx hb (by rw [hr, hret]) (by rcases g4 with rfl | rfl <;> rfl) hq hs.2.2.1.2.2 (ls := cv) hd
          rw [show w.1.length - b.1 = b.2.2.1 by omega, show zsz w.1 - b.2.1 = b.2.2.2 by omega] at e1
          show W p l e (zrm (d + 1) b) s m args below meth c H locs (w.1.length - b.1) (zsz w.1 - b.2.1) _ _
          rw [show w.1.length - b.1 = b.2.2.1 by omega, show zsz w.1 - b.2.1 = b.2.2.2 by omega]
          exact e1
        · exact absurd h id
      all_goals exact absurd h id
    case lreturn =>
      rcases st with _ | ⟨x | x | x | x, _ | ⟨y, st⟩⟩
      case cons.inr.inl.nil =>
        intro H locs cv ad hs
        have hv : zr64 x := hs.2.2.2.2.2.1 (zL x) List.mem_cons_self
        have h : (match zrk μ with
          | 2 => zend b (ls, [zL x], w) (Q x w)
          | _ => False) := h
        split at h
        · next hk1 =>
          obtain ⟨g1, g2, g3⟩ := zend_e h hbb hs.2.2.2.2.2.2.2.1
          dsimp only at g2 g3
          have hret : zret μ = some .long := zrt_2 (by rw [hk1] at c6; exact c6)
          have hq := zQ_at (args := args) (rk := zrk μ) hs g1 (by rw [hk1]; exact hv) g2 g3
          rw [hk1] at hq ⊢
          have e1 := W.lret (p := p) (l := l) (e := e) (R := zrm (d + 1) b) (m := m) (below := below) (cells := w.1.length - b.1) (slots := zsz w.1 - b.2.1) (v := Int64.ofInt x) (free := A) hx hb (by rw [hr, hret]) hq hs.2.2.1.2.2 (ls := cv) hd
          rw [show w.1.length - b.1 = b.2.2.1 by omega, show zsz w.1 - b.2.1 = b.2.2.2 by omega] at e1
          show W p l e (zrm (d + 1) b) s m args below meth c H locs (w.1.length - b.1) (zsz w.1 - b.2.1) _ _
          rw [show w.1.length - b.1 = b.2.2.1 by omega, show zsz w.1 - b.2.1 = b.2.2.2 by omega]
          exact e1
        · exact absurd h id
      all_goals exact absurd h id
    case areturn =>
      rcases st with _ | ⟨x | x | x | x, _ | ⟨y, st⟩⟩
      case cons.inr.inr.inl.nil =>
        intro H locs cv ad hs
        have hv : x < w.1.length := hs.2.2.2.2.2.1 (zR x) List.mem_cons_self
        have h : (match zrk μ with
          | 3 => zend b (ls, [zR x], w) (Q (x : Int) w)
          | _ => False) := h
        split at h
        · next hk1 =>
          obtain ⟨g1, g2, g3⟩ := zend_e h hbb hs.2.2.2.2.2.2.2.1
          dsimp only at g2 g3
          obtain ⟨cn, hret⟩ : ∃ cn, zret μ = some (.object cn) := zrt_3 (by rw [hk1] at c6; exact c6)
          have hq := zQ_at (args := args) (rk := zrk μ) hs g1 (by rw [hk1]; exact hv) g2 g3
          rw [hk1] at hq ⊢
          have e1 := W.aret (p := p) (l := l) (e := e) (R := zrm (d + 1) b) (m := m) (below := below) (cells := w.1.length - b.1) (slots := zsz w.1 - b.2.1) (v := .ref (ad x)) (free := A) hx hb (by rw [hr, hret]) (Or.inl ⟨_, rfl⟩) (Or.inr ⟨_, rfl⟩) hq hs.2.2.1.2.2 (ls := cv) hd
          rw [show w.1.length - b.1 = b.2.2.1 by omega, show zsz w.1 - b.2.1 = b.2.2.2 by omega] at e1
          show W p l e (zrm (d + 1) b) s m args below meth c H locs (w.1.length - b.1) (zsz w.1 - b.2.1) _ _
          rw [show w.1.length - b.1 = b.2.2.1 by omega, show zsz w.1 - b.2.1 = b.2.2.2 by omega]
          exact e1
        · exact absurd h id
      all_goals exact absurd h id
    case return_ =>
      rcases st with _ | ⟨x, st⟩
      case nil =>
        intro H locs cv ad hs
        have h : (match zrk μ with
          | 0 => zend b (ls, [], w) (Q 0 w)
          | _ => False) := h
        split at h
        · next hk1 =>
          obtain ⟨g1, g2, g3⟩ := zend_e h hbb hs.2.2.2.2.2.2.2.1
          dsimp only at g2 g3
          have hret : zret μ = none := zrt_0 (by rw [hk1] at c6; exact c6)
          have hq := zQ_at (args := args) (rk := zrk μ) hs g1 (by rw [hk1]; exact trivial) g2 g3
          rw [hk1] at hq ⊢
          have e1 := W.vret (p := p) (l := l) (e := e) (R := zrm (d + 1) b) (m := m) (below := below) (cells := w.1.length - b.1) (slots := zsz w.1 - b.2.1) (free := A) hx hb (by rw [hr, hret]) hq hs.2.2.1.2.2 (ls := cv) hd
          rw [show w.1.length - b.1 = b.2.2.1 by omega, show zsz w.1 - b.2.1 = b.2.2.2 by omega] at e1
          show W p l e (zrm (d + 1) b) s m args below meth c H locs (w.1.length - b.1) (zsz w.1 - b.2.1) _ _
          rw [show w.1.length - b.1 = b.2.2.1 by omega, show zsz w.1 - b.2.1 = b.2.2.2 by omega]
          exact e1
        · exact absurd h id
      all_goals exact absurd h id
    case invokevirtual n =>
      have hk5 : r.getD 2 0 ≠ 5 := by
        intro q
        have hc3 : zchi μ n r 0 = true := hc3
        unfold zchi at hc3
        rw [if_pos q] at hc3
        exact absurd (of_decide_eq_true (zat_e2 hc3).1) (by decide)
      have hk6 : r.getD 2 0 ≠ 6 := by
        intro q
        have hc3 : zchi μ n r 0 = true := hc3
        unfold zchi at hc3
        rw [if_neg hk5, if_pos q] at hc3
        exact absurd (of_decide_eq_true (zat_e2 hc3).1) (by decide)
      have hk7 : r.getD 2 0 ≠ 7 := by
        intro q
        have hc3 : zchi μ n r 0 = true := hc3
        unfold zchi at hc3
        rw [if_neg hk5, if_neg hk6, if_pos q] at hc3
        exact absurd (of_decide_eq_true (zat_e2 hc3).1) (by decide)
      exact zs_cal (Or.inl ⟨rfl, rfl⟩) C0 hd hc3 hk5 hk6 hk7 h ih
    case invokestatic n =>
      have hk5 : r.getD 2 0 ≠ 5 := by
        intro q
        have hc3 : zchi μ n r 1 = true := hc3
        unfold zchi at hc3
        rw [if_pos q] at hc3
        exact absurd (of_decide_eq_true (zat_e2 hc3).1) (by decide)
      have h : (match r.getD 2 0 with
        | 6 => zmm zmax (ls, st, w) (fun S => zbr b (zEv d) J Q (zrk μ) is (pc + 3) S)
        | 7 => zmm zmin (ls, st, w) (fun S => zbr b (zEv d) J Q (zrk μ) is (pc + 3) S)
        | _ => zcal b (zEv d) (r.getD 0 0) (r.getD 2 0) (r.getD 3 0) (r.getD 4 0) (r.getD 5 0) (ls, st, w) (fun S => zbr b (zEv d) J Q (zrk μ) is (pc + 3) S)) := h
      split at h
      · next hk6 =>
        have hc3 : zchi μ n r 1 = true := hc3
        unfold zchi at hc3
        rw [if_neg hk5, if_pos hk6] at hc3
        have hl := hts _ (zwd_in (zat_e (zat_e2 hc3).2))
        have hw1 : Jvm.Cond.static Lib.Math.max.name ∈ zwd μ := zwd_in ⟨ztb_in (i := 99) (by decide +kernel), rfl⟩
        have hw2 : Jvm.Cond.code Lib.Math.max.name Lib.Math.max.code 2 (some .int) ∈ zwd μ := zwd_in ⟨ztb_in (i := 100) (by decide +kernel), rfl⟩
        exact zs_mm (F := fun x y => if x < y then y else x) zmax_ok (fun H locs cv rest cells slots x y q1 q2 q3 q4 w => va_mmax hx hb q1 hown hl (hts _ hw1) (hts _ hin6) (hts _ hw2) (by show 1 ≤ d + 1; omega) (by show _ ≤ 200 * (d + 1); omega) q3 q4 hd w) hml h ih
      · next hk6 =>
        have hc3 : zchi μ n r 1 = true := hc3
        unfold zchi at hc3
        rw [if_neg hk5, if_neg (by omega), if_pos hk6] at hc3
        have hl := hts _ (zwd_in (zat_e (zat_e2 hc3).2))
        have hw1 : Jvm.Cond.static Lib.Math.min.name ∈ zwd μ := zwd_in ⟨ztb_in (i := 354) (by decide +kernel), rfl⟩
        have hw2 : Jvm.Cond.code Lib.Math.min.name Lib.Math.min.code 2 (some .int) ∈ zwd μ := zwd_in ⟨ztb_in (i := 355) (by decide +kernel), rfl⟩
        exact zs_mm (F := fun x y => if y < x then y else x) zmin_ok (fun H locs cv rest cells slots x y q1 q2 q3 q4 w => va_mmin hx hb q1 hown hl (hts _ hw1) (hts _ hin6) (hts _ hw2) (by show 1 ≤ d + 1; omega) (by show _ ≤ 200 * (d + 1); omega) q3 q4 hd w) hml h ih
      · next hk6 hk7 => exact zs_cal (Or.inr (Or.inl ⟨rfl, rfl⟩)) C0 hd hc3 hk5 hk6 hk7 h ih
    case invokespecial n =>
      have h : (match r.getD 2 0 with
        | 5 => zobj (ls, st, w) (fun S => zbr b (zEv d) J Q (zrk μ) is (pc + 3) S)
        | _ => zcal b (zEv d) (r.getD 0 0) (r.getD 2 0) (r.getD 3 0) (r.getD 4 0) (r.getD 5 0) (ls, st, w) (fun S => zbr b (zEv d) J Q (zrk μ) is (pc + 3) S)) := h
      split at h
      · next hk5 =>
        have hc3 : zchi μ n r 2 = true := hc3
        unfold zchi at hc3
        rw [if_pos hk5] at hc3
        have hw2 : Jvm.Cond.instanceMethod objectInit ∈ zwd μ := zwd_in ⟨ztb_in (i := 69) (by decide +kernel), rfl⟩
        have hw3 : Jvm.Cond.code objectInit ⟨#[0xb1]⟩ 1 none ∈ zwd μ := zwd_in ⟨ztb_in (i := 70) (by decide +kernel), rfl⟩
        exact zs_obj C0 (by omega) hd (zwd_in (zat_e (zat_e2 hc3).2)) hw2 hw3 h ih
      · next hk5 =>
        have hk6 : r.getD 2 0 ≠ 6 := by
          intro q
          have hc3 : zchi μ n r 2 = true := hc3
          unfold zchi at hc3
          rw [if_neg hk5, if_pos q] at hc3
          exact absurd (of_decide_eq_true (zat_e2 hc3).1) (by decide)
        have hk7 : r.getD 2 0 ≠ 7 := by
          intro q
          have hc3 : zchi μ n r 2 = true := hc3
          unfold zchi at hc3
          rw [if_neg hk5, if_neg hk6, if_pos q] at hc3
          exact absurd (of_decide_eq_true (zat_e2 hc3).1) (by decide)
        exact zs_cal (Or.inr (Or.inr ⟨rfl, rfl⟩)) C0 hd hc3 hk5 hk6 hk7 h ih
    all_goals exact zsop_ok C0 hc1 h ih
end ZR
end
