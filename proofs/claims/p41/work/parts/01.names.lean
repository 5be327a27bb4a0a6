/-- a private method of a class that the tables say can be made, by its rows of tables_1 -/
def lw_okq (q : MethodName × Nat) : Prop := (q.1.cls ≠ "java/lang/invoke/MethodHandle" ∧ q.1.cls ≠ "java/lang/invoke/VarHandle") ∧ Cond.instantiable q.1.cls q.2 ∈ tables_1 ∧ Cond.privateMethod q.1 ∈ tables_1 ∧ Cond.instanceMethod q.1 ∈ tables_1
theorem lw_p0 : lw_okq (⟨"FloatTowns$Ledger", "write", "(III)V"⟩, 6) := ⟨⟨by decide +kernel, by decide +kernel⟩, List.mem_of_getElem? (i := 104) (by decide +kernel), List.mem_of_getElem? (i := 485) (by decide +kernel), List.mem_of_getElem? (i := 486) (by decide +kernel)⟩
theorem lw_p1 : lw_okq (⟨"FloatTowns$Ledger", "likedIn", "(III)I"⟩, 6) := ⟨⟨by decide +kernel, by decide +kernel⟩, List.mem_of_getElem? (i := 104) (by decide +kernel), List.mem_of_getElem? (i := 529) (by decide +kernel), List.mem_of_getElem? (i := 530) (by decide +kernel)⟩
theorem lw_p2 : lw_okq (⟨"FloatTowns", "isTown", "(I)Z"⟩, 11) := ⟨⟨by decide +kernel, by decide +kernel⟩, List.mem_of_getElem? (i := 26) (by decide +kernel), List.mem_of_getElem? (i := 575) (by decide +kernel), List.mem_of_getElem? (i := 576) (by decide +kernel)⟩
theorem lw_p3 : lw_okq (⟨"FloatTowns", "isSort", "(I)Z"⟩, 11) := ⟨⟨by decide +kernel, by decide +kernel⟩, List.mem_of_getElem? (i := 26) (by decide +kernel), List.mem_of_getElem? (i := 600) (by decide +kernel), List.mem_of_getElem? (i := 601) (by decide +kernel)⟩
theorem lw_p4 : lw_okq (⟨"FloatTowns", "isPlace", "(I)Z"⟩, 11) := ⟨⟨by decide +kernel, by decide +kernel⟩, List.mem_of_getElem? (i := 26) (by decide +kernel), List.mem_of_getElem? (i := 604) (by decide +kernel), List.mem_of_getElem? (i := 605) (by decide +kernel)⟩
theorem lw_p5 : lw_okq (⟨"FloatTowns$Sailing", "askedByRow", "(LFloatTowns$Scene;III)J"⟩, 10) := ⟨⟨by decide +kernel, by decide +kernel⟩, List.mem_of_getElem? (i := 98) (by decide +kernel), List.mem_of_getElem? (i := 629) (by decide +kernel), List.mem_of_getElem? (i := 630) (by decide +kernel)⟩
theorem lw_p6 : lw_okq (⟨"FloatTowns", "canGo", "(III)Z"⟩, 11) := ⟨⟨by decide +kernel, by decide +kernel⟩, List.mem_of_getElem? (i := 26) (by decide +kernel), List.mem_of_getElem? (i := 653) (by decide +kernel), List.mem_of_getElem? (i := 654) (by decide +kernel)⟩
theorem lw_p7 : lw_okq (⟨"FloatTowns$Sailing", "stayOf", "(LFloatTowns$Scene;II)J"⟩, 10) := ⟨⟨by decide +kernel, by decide +kernel⟩, List.mem_of_getElem? (i := 98) (by decide +kernel), List.mem_of_getElem? (i := 663) (by decide +kernel), List.mem_of_getElem? (i := 664) (by decide +kernel)⟩
theorem lw_p8 : lw_okq (⟨"FloatTowns$Sailing", "canLeave", "(LFloatTowns$Scene;II)Z"⟩, 10) := ⟨⟨by decide +kernel, by decide +kernel⟩, List.mem_of_getElem? (i := 98) (by decide +kernel), List.mem_of_getElem? (i := 725) (by decide +kernel), List.mem_of_getElem? (i := 726) (by decide +kernel)⟩
theorem lw_p9 : lw_okq (⟨"FloatTowns", "foundPlace", "(I)I"⟩, 11) := ⟨⟨by decide +kernel, by decide +kernel⟩, List.mem_of_getElem? (i := 26) (by decide +kernel), List.mem_of_getElem? (i := 736) (by decide +kernel), List.mem_of_getElem? (i := 737) (by decide +kernel)⟩
theorem lw_p10 : lw_okq (⟨"FloatTowns", "crewOfParty", "(I)I"⟩, 11) := ⟨⟨by decide +kernel, by decide +kernel⟩, List.mem_of_getElem? (i := 26) (by decide +kernel), List.mem_of_getElem? (i := 744) (by decide +kernel), List.mem_of_getElem? (i := 745) (by decide +kernel)⟩
theorem lw_p11 : lw_okq (⟨"FloatTowns$Sailing", "seekPlaces", "(LFloatTowns$Scene;I)Z"⟩, 10) := ⟨⟨by decide +kernel, by decide +kernel⟩, List.mem_of_getElem? (i := 98) (by decide +kernel), List.mem_of_getElem? (i := 763) (by decide +kernel), List.mem_of_getElem? (i := 764) (by decide +kernel)⟩
theorem lw_p12 : lw_okq (⟨"FloatTowns$Course", "seenBefore", "(I)I"⟩, 8) := ⟨⟨by decide +kernel, by decide +kernel⟩, List.mem_of_getElem? (i := 170) (by decide +kernel), List.mem_of_getElem? (i := 794) (by decide +kernel), List.mem_of_getElem? (i := 795) (by decide +kernel)⟩
theorem lw_p13 : lw_okq (⟨"FloatTowns$Course", "nextNumber", "()J"⟩, 8) := ⟨⟨by decide +kernel, by decide +kernel⟩, List.mem_of_getElem? (i := 170) (by decide +kernel), List.mem_of_getElem? (i := 820) (by decide +kernel), List.mem_of_getElem? (i := 821) (by decide +kernel)⟩
theorem lw_p14 : lw_okq (⟨"FloatTowns$Survey", "countPartings", "()V"⟩, 10) := ⟨⟨by decide +kernel, by decide +kernel⟩, List.mem_of_getElem? (i := 238) (by decide +kernel), List.mem_of_getElem? (i := 845) (by decide +kernel), List.mem_of_getElem? (i := 846) (by decide +kernel)⟩
theorem lw_p15 : lw_okq (⟨"FloatTowns$Survey", "weigh", "(Z)V"⟩, 10) := ⟨⟨by decide +kernel, by decide +kernel⟩, List.mem_of_getElem? (i := 238) (by decide +kernel), List.mem_of_getElem? (i := 853) (by decide +kernel), List.mem_of_getElem? (i := 854) (by decide +kernel)⟩
def lw_privs_1 : List (MethodName × Nat) := [(⟨"FloatTowns$Ledger", "write", "(III)V"⟩, 6), (⟨"FloatTowns$Ledger", "likedIn", "(III)I"⟩, 6), (⟨"FloatTowns", "isTown", "(I)Z"⟩, 11), (⟨"FloatTowns", "isSort", "(I)Z"⟩, 11), (⟨"FloatTowns", "isPlace", "(I)Z"⟩, 11), (⟨"FloatTowns$Sailing", "askedByRow", "(LFloatTowns$Scene;III)J"⟩, 10), (⟨"FloatTowns", "canGo", "(III)Z"⟩, 11), (⟨"FloatTowns$Sailing", "stayOf", "(LFloatTowns$Scene;II)J"⟩, 10), (⟨"FloatTowns$Sailing", "canLeave", "(LFloatTowns$Scene;II)Z"⟩, 10), (⟨"FloatTowns", "foundPlace", "(I)I"⟩, 11), (⟨"FloatTowns", "crewOfParty", "(I)I"⟩, 11), (⟨"FloatTowns$Sailing", "seekPlaces", "(LFloatTowns$Scene;I)Z"⟩, 10), (⟨"FloatTowns$Course", "seenBefore", "(I)I"⟩, 8), (⟨"FloatTowns$Course", "nextNumber", "()J"⟩, 8), (⟨"FloatTowns$Survey", "countPartings", "()V"⟩, 10), (⟨"FloatTowns$Survey", "weigh", "(Z)V"⟩, 10)]
theorem lw_r1 : ∀ q ∈ lw_privs_1, lw_okq q := List.forall_mem_cons.mpr ⟨lw_p0, List.forall_mem_cons.mpr ⟨lw_p1, List.forall_mem_cons.mpr ⟨lw_p2, List.forall_mem_cons.mpr ⟨lw_p3, List.forall_mem_cons.mpr ⟨lw_p4, List.forall_mem_cons.mpr ⟨lw_p5, List.forall_mem_cons.mpr ⟨lw_p6, List.forall_mem_cons.mpr ⟨lw_p7, List.forall_mem_cons.mpr ⟨lw_p8, List.forall_mem_cons.mpr ⟨lw_p9, List.forall_mem_cons.mpr ⟨lw_p10, List.forall_mem_cons.mpr ⟨lw_p11, List.forall_mem_cons.mpr ⟨lw_p12, List.forall_mem_cons.mpr ⟨lw_p13, List.forall_mem_cons.mpr ⟨lw_p14, List.forall_mem_cons.mpr ⟨lw_p15, fun _ h => absurd h List.not_mem_nil⟩⟩⟩⟩⟩⟩⟩⟩⟩⟩⟩⟩⟩⟩⟩⟩
theorem lw_p16 : lw_okq (⟨"FloatTowns$Survey", "nextParting", "(J)J"⟩, 10) := ⟨⟨by decide +kernel, by decide +kernel⟩, List.mem_of_getElem? (i := 238) (by decide +kernel), List.mem_of_getElem? (i := 865) (by decide +kernel), List.mem_of_getElem? (i := 866) (by decide +kernel)⟩
theorem lw_p17 : lw_okq (⟨"FloatTowns$Grounds", "spread", "(I)Z"⟩, 4) := ⟨⟨by decide +kernel, by decide +kernel⟩, List.mem_of_getElem? (i := 355) (by decide +kernel), List.mem_of_getElem? (i := 938) (by decide +kernel), List.mem_of_getElem? (i := 939) (by decide +kernel)⟩
theorem lw_p18 : lw_okq (⟨"FloatTowns$Grounds", "movedAt", "(III)I"⟩, 4) := ⟨⟨by decide +kernel, by decide +kernel⟩, List.mem_of_getElem? (i := 355) (by decide +kernel), List.mem_of_getElem? (i := 942) (by decide +kernel), List.mem_of_getElem? (i := 943) (by decide +kernel)⟩
theorem lw_p19 : lw_okq (⟨"FloatTowns$Tokens", "lastOf", "(I)I"⟩, 13) := ⟨⟨by decide +kernel, by decide +kernel⟩, List.mem_of_getElem? (i := 34) (by decide +kernel), List.mem_of_getElem? (i := 1062) (by decide +kernel), List.mem_of_getElem? (i := 1063) (by decide +kernel)⟩
theorem lw_p20 : lw_okq (⟨"FloatTowns$Tokens", "kindOf", "(II)I"⟩, 13) := ⟨⟨by decide +kernel, by decide +kernel⟩, List.mem_of_getElem? (i := 34) (by decide +kernel), List.mem_of_getElem? (i := 1073) (by decide +kernel), List.mem_of_getElem? (i := 1074) (by decide +kernel)⟩
theorem lw_p21 : lw_okq (⟨"FloatTowns$Tokens", "kindOfWord", "(II)I"⟩, 13) := ⟨⟨by decide +kernel, by decide +kernel⟩, List.mem_of_getElem? (i := 34) (by decide +kernel), List.mem_of_getElem? (i := 1077) (by decide +kernel), List.mem_of_getElem? (i := 1078) (by decide +kernel)⟩
theorem lw_p22 : lw_okq (⟨"FloatTowns$Tokens", "isSame", "(III)Z"⟩, 13) := ⟨⟨by decide +kernel, by decide +kernel⟩, List.mem_of_getElem? (i := 34) (by decide +kernel), List.mem_of_getElem? (i := 1084) (by decide +kernel), List.mem_of_getElem? (i := 1085) (by decide +kernel)⟩
theorem lw_p23 : lw_okq (⟨"FloatTowns$Tokens", "valueOf", "(III)I"⟩, 13) := ⟨⟨by decide +kernel, by decide +kernel⟩, List.mem_of_getElem? (i := 34) (by decide +kernel), List.mem_of_getElem? (i := 1091) (by decide +kernel), List.mem_of_getElem? (i := 1092) (by decide +kernel)⟩
theorem lw_p24 : lw_okq (⟨"FloatTowns$Reader", "readGood", "()V"⟩, 2) := ⟨⟨by decide +kernel, by decide +kernel⟩, List.mem_of_getElem? (i := 85) (by decide +kernel), List.mem_of_getElem? (i := 1104) (by decide +kernel), List.mem_of_getElem? (i := 1105) (by decide +kernel)⟩
theorem lw_p25 : lw_okq (⟨"FloatTowns$Reader", "newOne", "(II)I"⟩, 2) := ⟨⟨by decide +kernel, by decide +kernel⟩, List.mem_of_getElem? (i := 85) (by decide +kernel), List.mem_of_getElem? (i := 1108) (by decide +kernel), List.mem_of_getElem? (i := 1109) (by decide +kernel)⟩
theorem lw_p26 : lw_okq (⟨"FloatTowns$Reader", "readFloat", "()V"⟩, 2) := ⟨⟨by decide +kernel, by decide +kernel⟩, List.mem_of_getElem? (i := 85) (by decide +kernel), List.mem_of_getElem? (i := 1130) (by decide +kernel), List.mem_of_getElem? (i := 1131) (by decide +kernel)⟩
theorem lw_p27 : lw_okq (⟨"FloatTowns$Reader", "readWant", "(I)V"⟩, 2) := ⟨⟨by decide +kernel, by decide +kernel⟩, List.mem_of_getElem? (i := 85) (by decide +kernel), List.mem_of_getElem? (i := 1140) (by decide +kernel), List.mem_of_getElem? (i := 1141) (by decide +kernel)⟩
theorem lw_p28 : lw_okq (⟨"FloatTowns$Reader", "oldOne", "(I)I"⟩, 2) := ⟨⟨by decide +kernel, by decide +kernel⟩, List.mem_of_getElem? (i := 85) (by decide +kernel), List.mem_of_getElem? (i := 1144) (by decide +kernel), List.mem_of_getElem? (i := 1145) (by decide +kernel)⟩
theorem lw_p29 : lw_okq (⟨"FloatTowns$Reader", "readLiking", "()V"⟩, 2) := ⟨⟨by decide +kernel, by decide +kernel⟩, List.mem_of_getElem? (i := 85) (by decide +kernel), List.mem_of_getElem? (i := 1149) (by decide +kernel), List.mem_of_getElem? (i := 1150) (by decide +kernel)⟩
theorem lw_p30 : lw_okq (⟨"FloatTowns$Reader", "readTown", "()V"⟩, 2) := ⟨⟨by decide +kernel, by decide +kernel⟩, List.mem_of_getElem? (i := 85) (by decide +kernel), List.mem_of_getElem? (i := 1153) (by decide +kernel), List.mem_of_getElem? (i := 1154) (by decide +kernel)⟩
theorem lw_p31 : lw_okq (⟨"FloatTowns$Reader", "readGift", "(I)V"⟩, 2) := ⟨⟨by decide +kernel, by decide +kernel⟩, List.mem_of_getElem? (i := 85) (by decide +kernel), List.mem_of_getElem? (i := 1157) (by decide +kernel), List.mem_of_getElem? (i := 1158) (by decide +kernel)⟩
def lw_privs_2 : List (MethodName × Nat) := [(⟨"FloatTowns$Survey", "nextParting", "(J)J"⟩, 10), (⟨"FloatTowns$Grounds", "spread", "(I)Z"⟩, 4), (⟨"FloatTowns$Grounds", "movedAt", "(III)I"⟩, 4), (⟨"FloatTowns$Tokens", "lastOf", "(I)I"⟩, 13), (⟨"FloatTowns$Tokens", "kindOf", "(II)I"⟩, 13), (⟨"FloatTowns$Tokens", "kindOfWord", "(II)I"⟩, 13), (⟨"FloatTowns$Tokens", "isSame", "(III)Z"⟩, 13), (⟨"FloatTowns$Tokens", "valueOf", "(III)I"⟩, 13), (⟨"FloatTowns$Reader", "readGood", "()V"⟩, 2), (⟨"FloatTowns$Reader", "newOne", "(II)I"⟩, 2), (⟨"FloatTowns$Reader", "readFloat", "()V"⟩, 2), (⟨"FloatTowns$Reader", "readWant", "(I)V"⟩, 2), (⟨"FloatTowns$Reader", "oldOne", "(I)I"⟩, 2), (⟨"FloatTowns$Reader", "readLiking", "()V"⟩, 2), (⟨"FloatTowns$Reader", "readTown", "()V"⟩, 2), (⟨"FloatTowns$Reader", "readGift", "(I)V"⟩, 2)]
theorem lw_r2 : ∀ q ∈ lw_privs_2, lw_okq q := List.forall_mem_cons.mpr ⟨lw_p16, List.forall_mem_cons.mpr ⟨lw_p17, List.forall_mem_cons.mpr ⟨lw_p18, List.forall_mem_cons.mpr ⟨lw_p19, List.forall_mem_cons.mpr ⟨lw_p20, List.forall_mem_cons.mpr ⟨lw_p21, List.forall_mem_cons.mpr ⟨lw_p22, List.forall_mem_cons.mpr ⟨lw_p23, List.forall_mem_cons.mpr ⟨lw_p24, List.forall_mem_cons.mpr ⟨lw_p25, List.forall_mem_cons.mpr ⟨lw_p26, List.forall_mem_cons.mpr ⟨lw_p27, List.forall_mem_cons.mpr ⟨lw_p28, List.forall_mem_cons.mpr ⟨lw_p29, List.forall_mem_cons.mpr ⟨lw_p30, List.forall_mem_cons.mpr ⟨lw_p31, fun _ h => absurd h List.not_mem_nil⟩⟩⟩⟩⟩⟩⟩⟩⟩⟩⟩⟩⟩⟩⟩⟩
theorem lw_p32 : lw_okq (⟨"FloatTowns$Rules", "readOperand", "(LFloatTowns$Tokens;)Z"⟩, 10) := ⟨⟨by decide +kernel, by decide +kernel⟩, List.mem_of_getElem? (i := 317) (by decide +kernel), List.mem_of_getElem? (i := 1170) (by decide +kernel), List.mem_of_getElem? (i := 1171) (by decide +kernel)⟩
theorem lw_p33 : lw_okq (⟨"FloatTowns$Rules", "addKnot", "(LFloatTowns$Tokens;)Z"⟩, 10) := ⟨⟨by decide +kernel, by decide +kernel⟩, List.mem_of_getElem? (i := 317) (by decide +kernel), List.mem_of_getElem? (i := 1174) (by decide +kernel), List.mem_of_getElem? (i := 1175) (by decide +kernel)⟩
theorem lw_p34 : lw_okq (⟨"FloatTowns$Rules", "writeStep", "(I)V"⟩, 10) := ⟨⟨by decide +kernel, by decide +kernel⟩, List.mem_of_getElem? (i := 317) (by decide +kernel), List.mem_of_getElem? (i := 1180) (by decide +kernel), List.mem_of_getElem? (i := 1181) (by decide +kernel)⟩
theorem lw_p35 : lw_okq (⟨"FloatTowns$Rules", "hold", "(I)V"⟩, 10) := ⟨⟨by decide +kernel, by decide +kernel⟩, List.mem_of_getElem? (i := 317) (by decide +kernel), List.mem_of_getElem? (i := 1185) (by decide +kernel), List.mem_of_getElem? (i := 1186) (by decide +kernel)⟩
theorem lw_p36 : lw_okq (⟨"FloatTowns$Rules", "openBracket", "(LFloatTowns$Tokens;)V"⟩, 10) := ⟨⟨by decide +kernel, by decide +kernel⟩, List.mem_of_getElem? (i := 317) (by decide +kernel), List.mem_of_getElem? (i := 1189) (by decide +kernel), List.mem_of_getElem? (i := 1190) (by decide +kernel)⟩
theorem lw_p37 : lw_okq (⟨"FloatTowns$Rules", "writeNegations", "()V"⟩, 10) := ⟨⟨by decide +kernel, by decide +kernel⟩, List.mem_of_getElem? (i := 317) (by decide +kernel), List.mem_of_getElem? (i := 1193) (by decide +kernel), List.mem_of_getElem? (i := 1194) (by decide +kernel)⟩
theorem lw_p38 : lw_okq (⟨"FloatTowns$Rules", "closeBracket", "()V"⟩, 10) := ⟨⟨by decide +kernel, by decide +kernel⟩, List.mem_of_getElem? (i := 317) (by decide +kernel), List.mem_of_getElem? (i := 1197) (by decide +kernel), List.mem_of_getElem? (i := 1198) (by decide +kernel)⟩
theorem lw_p39 : lw_okq (⟨"FloatTowns$Rules", "writeWaiting", "(I)V"⟩, 10) := ⟨⟨by decide +kernel, by decide +kernel⟩, List.mem_of_getElem? (i := 317) (by decide +kernel), List.mem_of_getElem? (i := 1201) (by decide +kernel), List.mem_of_getElem? (i := 1202) (by decide +kernel)⟩
theorem lw_p40 : lw_okq (⟨"FloatTowns$Rules", "readSign", "(LFloatTowns$Tokens;)V"⟩, 10) := ⟨⟨by decide +kernel, by decide +kernel⟩, List.mem_of_getElem? (i := 317) (by decide +kernel), List.mem_of_getElem? (i := 1211) (by decide +kernel), List.mem_of_getElem? (i := 1212) (by decide +kernel)⟩
theorem lw_p41 : lw_okq (⟨"FloatTowns$Reader", "readGround", "()V"⟩, 2) := ⟨⟨by decide +kernel, by decide +kernel⟩, List.mem_of_getElem? (i := 85) (by decide +kernel), List.mem_of_getElem? (i := 1215) (by decide +kernel), List.mem_of_getElem? (i := 1216) (by decide +kernel)⟩
theorem lw_p42 : lw_okq (⟨"FloatTowns$Reader", "readStorm", "()V"⟩, 2) := ⟨⟨by decide +kernel, by decide +kernel⟩, List.mem_of_getElem? (i := 85) (by decide +kernel), List.mem_of_getElem? (i := 1231) (by decide +kernel), List.mem_of_getElem? (i := 1232) (by decide +kernel)⟩
def lw_privs_3 : List (MethodName × Nat) := [(⟨"FloatTowns$Rules", "readOperand", "(LFloatTowns$Tokens;)Z"⟩, 10), (⟨"FloatTowns$Rules", "addKnot", "(LFloatTowns$Tokens;)Z"⟩, 10), (⟨"FloatTowns$Rules", "writeStep", "(I)V"⟩, 10), (⟨"FloatTowns$Rules", "hold", "(I)V"⟩, 10), (⟨"FloatTowns$Rules", "openBracket", "(LFloatTowns$Tokens;)V"⟩, 10), (⟨"FloatTowns$Rules", "writeNegations", "()V"⟩, 10), (⟨"FloatTowns$Rules", "closeBracket", "()V"⟩, 10), (⟨"FloatTowns$Rules", "writeWaiting", "(I)V"⟩, 10), (⟨"FloatTowns$Rules", "readSign", "(LFloatTowns$Tokens;)V"⟩, 10), (⟨"FloatTowns$Reader", "readGround", "()V"⟩, 2), (⟨"FloatTowns$Reader", "readStorm", "()V"⟩, 2)]
theorem lw_r3 : ∀ q ∈ lw_privs_3, lw_okq q := List.forall_mem_cons.mpr ⟨lw_p32, List.forall_mem_cons.mpr ⟨lw_p33, List.forall_mem_cons.mpr ⟨lw_p34, List.forall_mem_cons.mpr ⟨lw_p35, List.forall_mem_cons.mpr ⟨lw_p36, List.forall_mem_cons.mpr ⟨lw_p37, List.forall_mem_cons.mpr ⟨lw_p38, List.forall_mem_cons.mpr ⟨lw_p39, List.forall_mem_cons.mpr ⟨lw_p40, List.forall_mem_cons.mpr ⟨lw_p41, List.forall_mem_cons.mpr ⟨lw_p42, fun _ h => absurd h List.not_mem_nil⟩⟩⟩⟩⟩⟩⟩⟩⟩⟩⟩
def lw_privs : List (MethodName × Nat) := lw_privs_1 ++ (lw_privs_2 ++ (lw_privs_3))
def lw_tbl : List Cond := k2_sels lw_privs ++ tables_1
theorem lw_privs_ok : ∀ q ∈ lw_privs, lw_okq q := by
  show ∀ q ∈ lw_privs_1 ++ (lw_privs_2 ++ (lw_privs_3)), lw_okq q
  exact List.forall_mem_append.mpr ⟨lw_r1, List.forall_mem_append.mpr ⟨lw_r2, lw_r3⟩⟩
def RX0 : String := "FloatTowns$Course"
def TX0 : u_T := fun k => match k with
  | 0 => ("FloatTowns$Course", "end", "I", false)
  | 1 => ("FloatTowns$Course", "behind", "I", false)
  | 2 => ("FloatTowns$Course", "period", "I", false)
  | 3 => ("FloatTowns$Course", "sailing", "LFloatTowns$Sailing;", true)
  | 4 => ("FloatTowns$Course", "seen", "[J", true)
  | 5 => ("FloatTowns$Course", "path", "LFloatTowns$Scene;", true)
  | 6 => ("FloatTowns$Course", "terms", "LFloatTowns$Scene;", true)
  | _ => ("FloatTowns$Course", "chance", "J", false)
def tyX0 : Nat → FieldType := fun k => match k with
  | 0 => .int
  | 1 => .int
  | 2 => .int
  | 3 => .object "FloatTowns$Sailing"
  | 4 => .array .long
  | 5 => .object "FloatTowns$Scene"
  | 6 => .object "FloatTowns$Scene"
  | _ => .long
abbrev wsX00 : List Cond := u_ws RX0 TX0 8
theorem nmX0 : ∀ a, a < 8 → ∀ b, b < 8 → a ≠ b → (TX0 a).2.1 ≠ (TX0 b).2.1 := by decide +kernel
theorem tyX0_ok : ∀ k, k < 8 → parseFieldDescriptor (TX0 k).2.2.1 = some (tyX0 k) := by decide +kernel
abbrev cX0_init : ByteArray := prog_2_method_1_code
def yX0_init : MethodName := ⟨RX0, "<init>", "(LFloatTowns$Sailing;)V"⟩
abbrev cX0_sail : ByteArray := prog_2_method_2_code
def yX0_sail : MethodName := ⟨RX0, "sail", "(LFloatTowns$Scene;I)I"⟩
abbrev cX0_trace : ByteArray := prog_2_method_3_code
def yX0_trace : MethodName := ⟨RX0, "trace", "(LFloatTowns$Scene;)V"⟩
abbrev cX0_seenBefore : ByteArray := prog_2_method_4_code
def yX0_seenBefore : MethodName := ⟨RX0, "seenBefore", "(I)I"⟩
abbrev cX0_leastEmptying : ByteArray := prog_2_method_5_code
def yX0_leastEmptying : MethodName := ⟨RX0, "leastEmptying", "(LFloatTowns$Scene;I)I"⟩
abbrev cX0_sow : ByteArray := prog_2_method_6_code
def yX0_sow : MethodName := ⟨RX0, "sow", "(I)V"⟩
abbrev cX0_pass : ByteArray := prog_2_method_7_code
def yX0_pass : MethodName := ⟨RX0, "pass", "(LFloatTowns$Scene;I)V"⟩
abbrev cX0_nextNumber : ByteArray := prog_2_method_9_code
def yX0_nextNumber : MethodName := ⟨RX0, "nextNumber", "()J"⟩
def RX1 : String := "FloatTowns$Grounds"
def TX1 : u_T := fun k => match k with
  | 0 => ("FloatTowns$Grounds", "wide", "[I", true)
  | 1 => ("FloatTowns$Grounds", "high", "[I", true)
  | 2 => ("FloatTowns$Grounds", "rows", "[I", true)
  | _ => ("FloatTowns$Grounds", "moved", "[I", true)
def tyX1 : Nat → FieldType := fun k => match k with
  | 0 => .array .int
  | 1 => .array .int
  | 2 => .array .int
  | _ => .array .int
abbrev wsX10 : List Cond := u_ws RX1 TX1 4
theorem nmX1 : ∀ a, a < 4 → ∀ b, b < 4 → a ≠ b → (TX1 a).2.1 ≠ (TX1 b).2.1 := by decide +kernel
theorem tyX1_ok : ∀ k, k < 4 → parseFieldDescriptor (TX1 k).2.2.1 = some (tyX1 k) := by decide +kernel
abbrev cX1_init : ByteArray := prog_3_method_1_code
def yX1_init : MethodName := ⟨RX1, "<init>", "()V"⟩
abbrev cX1_wipeGrounds : ByteArray := prog_3_method_2_code
def yX1_wipeGrounds : MethodName := ⟨RX1, "wipeGrounds", "()V"⟩
abbrev cX1_isTold : ByteArray := prog_3_method_3_code
def yX1_isTold : MethodName := ⟨RX1, "isTold", "(I)Z"⟩
abbrev cX1_readRows : ByteArray := prog_3_method_4_code
def yX1_readRows : MethodName := ⟨RX1, "readRows", "(LFloatTowns$Tokens;I)V"⟩
abbrev cX1_hasPlace : ByteArray := prog_3_method_5_code
def yX1_hasPlace : MethodName := ⟨RX1, "hasPlace", "(III)Z"⟩
abbrev cX1_isTaken : ByteArray := prog_3_method_6_code
def yX1_isTaken : MethodName := ⟨RX1, "isTaken", "(III)Z"⟩
abbrev cX1_leastMoved : ByteArray := prog_3_method_7_code
def yX1_leastMoved : MethodName := ⟨RX1, "leastMoved", "(III)I"⟩
abbrev cX1_spread : ByteArray := prog_3_method_8_code
def yX1_spread : MethodName := ⟨RX1, "spread", "(I)Z"⟩
abbrev cX1_movedAt : ByteArray := prog_3_method_9_code
def yX1_movedAt : MethodName := ⟨RX1, "movedAt", "(III)I"⟩
def RX2 : String := "FloatTowns$History"
def TX2 : u_T := fun k => match k with
  | 0 => ("FloatTowns$History", "scenes", "[LFloatTowns$Scene;", true)
  | 1 => ("FloatTowns$History", "image", "LFloatTowns$Scene;", true)
  | 2 => ("FloatTowns$History", "hasImage", "Z", false)
  | 3 => ("FloatTowns$History", "steps", "I", false)
  | _ => ("FloatTowns$History", "next", "I", false)
def tyX2 : Nat → FieldType := fun k => match k with
  | 0 => .array (.object "FloatTowns$Scene")
  | 1 => .object "FloatTowns$Scene"
  | 2 => .boolean
  | 3 => .int
  | _ => .int
abbrev wsX20 : List Cond := u_ws RX2 TX2 5
theorem nmX2 : ∀ a, a < 5 → ∀ b, b < 5 → a ≠ b → (TX2 a).2.1 ≠ (TX2 b).2.1 := by decide +kernel
theorem tyX2_ok : ∀ k, k < 5 → parseFieldDescriptor (TX2 k).2.2.1 = some (tyX2 k) := by decide +kernel
abbrev cX2_init : ByteArray := prog_4_method_1_code
def yX2_init : MethodName := ⟨RX2, "<init>", "()V"⟩
abbrev cX2_forget : ByteArray := prog_4_method_2_code
def yX2_forget : MethodName := ⟨RX2, "forget", "()V"⟩
abbrev cX2_steps : ByteArray := prog_4_method_3_code
def yX2_steps : MethodName := ⟨RX2, "steps", "()I"⟩
abbrev cX2_record : ByteArray := prog_4_method_4_code
def yX2_record : MethodName := ⟨RX2, "record", "(LFloatTowns$Scene;)V"⟩
abbrev cX2_stepBack : ByteArray := prog_4_method_5_code
def yX2_stepBack : MethodName := ⟨RX2, "stepBack", "(LFloatTowns$Scene;)Z"⟩
def RX3 : String := "FloatTowns$Ledger"
def TX3 : u_T := fun k => match k with
  | 0 => ("FloatTowns$Ledger", "given", "[I", true)
  | 1 => ("FloatTowns$Ledger", "crews", "I", false)
  | 2 => ("FloatTowns$Ledger", "liked", "[I", true)
  | 3 => ("FloatTowns$Ledger", "ruled", "[J", true)
  | 4 => ("FloatTowns$Ledger", "weights", "[I", true)
  | _ => ("FloatTowns$Ledger", "plan", "LFloatTowns$Plan;", false)
def tyX3 : Nat → FieldType := fun k => match k with
  | 0 => .array .int
  | 1 => .int
  | 2 => .array .int
  | 3 => .array .long
  | 4 => .array .int
  | _ => .object "FloatTowns$Plan"
abbrev wsX30 : List Cond := u_ws RX3 TX3 6
theorem nmX3 : ∀ a, a < 6 → ∀ b, b < 6 → a ≠ b → (TX3 a).2.1 ≠ (TX3 b).2.1 := by decide +kernel
theorem tyX3_ok : ∀ k, k < 6 → parseFieldDescriptor (TX3 k).2.2.1 = some (tyX3 k) := by decide +kernel
abbrev cX3_init : ByteArray := prog_5_method_1_code
def yX3_init : MethodName := ⟨RX3, "<init>", "()V"⟩
abbrev cX3_workOut : ByteArray := prog_5_method_2_code
def yX3_workOut : MethodName := ⟨RX3, "workOut", "(LFloatTowns$Plan;)V"⟩
abbrev cX3_crewOfNumber : ByteArray := prog_5_method_3_code
def yX3_crewOfNumber : MethodName := ⟨RX3, "crewOfNumber", "(I)I"⟩
abbrev cX3_row : ByteArray := prog_5_method_4_code
def yX3_row : MethodName := ⟨RX3, "row", "(II)I"⟩
abbrev cX3_spareRow : ByteArray := prog_5_method_5_code
def yX3_spareRow : MethodName := ⟨RX3, "spareRow", "(II)I"⟩
abbrev cX3_likedBy : ByteArray := prog_5_method_6_code
def yX3_likedBy : MethodName := ⟨RX3, "likedBy", "(II)J"⟩
abbrev cX3_ruledFor : ByteArray := prog_5_method_7_code
def yX3_ruledFor : MethodName := ⟨RX3, "ruledFor", "(II)J"⟩
abbrev cX3_write : ByteArray := prog_5_method_8_code
def yX3_write : MethodName := ⟨RX3, "write", "(III)V"⟩
abbrev cX3_likedIn : ByteArray := prog_5_method_9_code
def yX3_likedIn : MethodName := ⟨RX3, "likedIn", "(III)I"⟩
def RX4 : String := "FloatTowns$Plan"
def TX4 : u_T := fun k => match k with
  | 0 => ("FloatTowns$Plan", "told", "[I", true)
  | 1 => ("FloatTowns$Plan", "costs", "[I", true)
  | 2 => ("FloatTowns$Plan", "figures", "[I", true)
  | 3 => ("FloatTowns$Plan", "wants", "[I", true)
  | 4 => ("FloatTowns$Plan", "likes", "[I", true)
  | 5 => ("FloatTowns$Plan", "gives", "[I", true)
  | 6 => ("FloatTowns$Plan", "rules", "LFloatTowns$Rules;", true)
  | 7 => ("FloatTowns$Plan", "grounds", "LFloatTowns$Grounds;", true)
  | 8 => ("FloatTowns$Plan", "wantsTold", "I", false)
  | 9 => ("FloatTowns$Plan", "likesTold", "I", false)
  | 10 => ("FloatTowns$Plan", "votingTowns", "I", false)
  | 11 => ("FloatTowns$Plan", "boundTowns", "I", false)
  | 12 => ("FloatTowns$Plan", "storm", "I", false)
  | 13 => ("FloatTowns$Plan", "lines", "I", false)
  | 14 => ("FloatTowns$Plan", "floats", "I", false)
  | 15 => ("FloatTowns$Plan", "whole", "I", false)
  | _ => ("FloatTowns$Plan", "names", "[I", true)
def tyX4 : Nat → FieldType := fun k => match k with
  | 0 => .array .int
  | 1 => .array .int
  | 2 => .array .int
  | 3 => .array .int
  | 4 => .array .int
  | 5 => .array .int
  | 6 => .object "FloatTowns$Rules"
  | 7 => .object "FloatTowns$Grounds"
  | 8 => .int
  | 9 => .int
  | 10 => .int
  | 11 => .int
  | 12 => .int
  | 13 => .int
  | 14 => .int
  | 15 => .int
  | _ => .array .int
abbrev wsX40 : List Cond := u_ws RX4 TX4 17
theorem nmX4 : ∀ a, a < 17 → ∀ b, b < 17 → a ≠ b → (TX4 a).2.1 ≠ (TX4 b).2.1 := by decide +kernel
theorem tyX4_ok : ∀ k, k < 17 → parseFieldDescriptor (TX4 k).2.2.1 = some (tyX4 k) := by decide +kernel
abbrev cX4_init : ByteArray := prog_6_method_1_code
def yX4_init : MethodName := ⟨RX4, "<init>", "()V"⟩
abbrev cX4_wipe : ByteArray := prog_6_method_2_code
def yX4_wipe : MethodName := ⟨RX4, "wipe", "()V"⟩
abbrev cX4_find : ByteArray := prog_6_method_3_code
def yX4_find : MethodName := ⟨RX4, "find", "(II)I"⟩
abbrev cX4_addName : ByteArray := prog_6_method_4_code
def yX4_addName : MethodName := ⟨RX4, "addName", "(II)V"⟩
abbrev cX4_addFloats : ByteArray := prog_6_method_5_code
def yX4_addFloats : MethodName := ⟨RX4, "addFloats", "(II)V"⟩
abbrev cX4_figure : ByteArray := prog_6_method_6_code
def yX4_figure : MethodName := ⟨RX4, "figure", "(II)I"⟩
abbrev cX4_sorts : ByteArray := prog_6_method_7_code
def yX4_sorts : MethodName := ⟨RX4, "sorts", "()I"⟩
abbrev cX4_alone : ByteArray := prog_6_method_8_code
def yX4_alone : MethodName := ⟨RX4, "alone", "()I"⟩
abbrev cX4_crewAt : ByteArray := prog_6_method_9_code
def yX4_crewAt : MethodName := ⟨RX4, "crewAt", "(JI)I"⟩
abbrev cX4_shifted : ByteArray := prog_6_method_10_code
def yX4_shifted : MethodName := ⟨RX4, "shifted", "(JIII)J"⟩
abbrev cX4_crewOf : ByteArray := prog_6_method_11_code
def yX4_crewOf : MethodName := ⟨RX4, "crewOf", "(JI)I"⟩
abbrev cX4_inTown : ByteArray := prog_6_method_12_code
def yX4_inTown : MethodName := ⟨RX4, "inTown", "(II)J"⟩
abbrev cX4_sumOf : ByteArray := prog_6_method_13_code
def yX4_sumOf : MethodName := ⟨RX4, "sumOf", "(II)I"⟩
abbrev cX4_costOf : ByteArray := prog_6_method_14_code
def yX4_costOf : MethodName := ⟨RX4, "costOf", "(I)I"⟩
abbrev cX4_givenTo : ByteArray := prog_6_method_15_code
def yX4_givenTo : MethodName := ⟨RX4, "givenTo", "(II)I"⟩
def RX5 : String := "FloatTowns$Reader"
def TX5 : u_T := fun k => match k with
  | 0 => ("FloatTowns$Reader", "tokens", "LFloatTowns$Tokens;", true)
  | _ => ("FloatTowns$Reader", "plan", "LFloatTowns$Plan;", false)
def tyX5 : Nat → FieldType := fun k => match k with
  | 0 => .object "FloatTowns$Tokens"
  | _ => .object "FloatTowns$Plan"
abbrev wsX50 : List Cond := u_ws RX5 TX5 2
theorem nmX5 : ∀ a, a < 2 → ∀ b, b < 2 → a ≠ b → (TX5 a).2.1 ≠ (TX5 b).2.1 := by decide +kernel
theorem tyX5_ok : ∀ k, k < 2 → parseFieldDescriptor (TX5 k).2.2.1 = some (tyX5 k) := by decide +kernel
abbrev cX5_init : ByteArray := prog_7_method_1_code
def yX5_init : MethodName := ⟨RX5, "<init>", "(LFloatTowns$Tokens;)V"⟩
abbrev cX5_reads : ByteArray := prog_7_method_2_code
def yX5_reads : MethodName := ⟨RX5, "reads", "(ILFloatTowns$Plan;)Z"⟩
abbrev cX5_readGood : ByteArray := prog_7_method_3_code
def yX5_readGood : MethodName := ⟨RX5, "readGood", "()V"⟩
abbrev cX5_readFloat : ByteArray := prog_7_method_4_code
def yX5_readFloat : MethodName := ⟨RX5, "readFloat", "()V"⟩
abbrev cX5_readWant : ByteArray := prog_7_method_5_code
def yX5_readWant : MethodName := ⟨RX5, "readWant", "(I)V"⟩
abbrev cX5_readLiking : ByteArray := prog_7_method_6_code
def yX5_readLiking : MethodName := ⟨RX5, "readLiking", "()V"⟩
abbrev cX5_readTown : ByteArray := prog_7_method_7_code
def yX5_readTown : MethodName := ⟨RX5, "readTown", "()V"⟩
abbrev cX5_readGift : ByteArray := prog_7_method_8_code
def yX5_readGift : MethodName := ⟨RX5, "readGift", "(I)V"⟩
abbrev cX5_readGround : ByteArray := prog_7_method_9_code
def yX5_readGround : MethodName := ⟨RX5, "readGround", "()V"⟩
abbrev cX5_readStorm : ByteArray := prog_7_method_10_code
def yX5_readStorm : MethodName := ⟨RX5, "readStorm", "()V"⟩
abbrev cX5_newOne : ByteArray := prog_7_method_11_code
def yX5_newOne : MethodName := ⟨RX5, "newOne", "(II)I"⟩
abbrev cX5_oldOne : ByteArray := prog_7_method_12_code
def yX5_oldOne : MethodName := ⟨RX5, "oldOne", "(I)I"⟩
def RX6 : String := "FloatTowns$Rules"
def TX6 : u_T := fun k => match k with
  | 0 => ("FloatTowns$Rules", "meanings", "[J", true)
  | 1 => ("FloatTowns$Rules", "knots", "I", false)
  | 2 => ("FloatTowns$Rules", "steps", "[I", true)
  | 3 => ("FloatTowns$Rules", "starts", "[I", true)
  | 4 => ("FloatTowns$Rules", "ends", "[I", true)
  | 5 => ("FloatTowns$Rules", "values", "[J", true)
  | 6 => ("FloatTowns$Rules", "waiting", "[I", true)
  | 7 => ("FloatTowns$Rules", "written", "I", false)
  | 8 => ("FloatTowns$Rules", "waits", "I", false)
  | _ => ("FloatTowns$Rules", "open", "I", false)
def tyX6 : Nat → FieldType := fun k => match k with
  | 0 => .array .long
  | 1 => .int
  | 2 => .array .int
  | 3 => .array .int
  | 4 => .array .int
  | 5 => .array .long
  | 6 => .array .int
  | 7 => .int
  | 8 => .int
  | _ => .int
abbrev wsX60 : List Cond := u_ws RX6 TX6 10
theorem nmX6 : ∀ a, a < 10 → ∀ b, b < 10 → a ≠ b → (TX6 a).2.1 ≠ (TX6 b).2.1 := by decide +kernel
theorem tyX6_ok : ∀ k, k < 10 → parseFieldDescriptor (TX6 k).2.2.1 = some (tyX6 k) := by decide +kernel
abbrev cX6_init : ByteArray := prog_8_method_1_code
def yX6_init : MethodName := ⟨RX6, "<init>", "()V"⟩
abbrev cX6_wipeRules : ByteArray := prog_8_method_2_code
def yX6_wipeRules : MethodName := ⟨RX6, "wipeRules", "()V"⟩
abbrev cX6_readRule : ByteArray := prog_8_method_3_code
def yX6_readRule : MethodName := ⟨RX6, "readRule", "(LFloatTowns$Tokens;I)V"⟩
abbrev cX6_workedOut : ByteArray := prog_8_method_4_code
def yX6_workedOut : MethodName := ⟨RX6, "workedOut", "(I)J"⟩
abbrev cX6_readOperand : ByteArray := prog_8_method_5_code
def yX6_readOperand : MethodName := ⟨RX6, "readOperand", "(LFloatTowns$Tokens;)Z"⟩
abbrev cX6_readSign : ByteArray := prog_8_method_6_code
def yX6_readSign : MethodName := ⟨RX6, "readSign", "(LFloatTowns$Tokens;)V"⟩
abbrev cX6_openBracket : ByteArray := prog_8_method_7_code
def yX6_openBracket : MethodName := ⟨RX6, "openBracket", "(LFloatTowns$Tokens;)V"⟩
abbrev cX6_closeBracket : ByteArray := prog_8_method_8_code
def yX6_closeBracket : MethodName := ⟨RX6, "closeBracket", "()V"⟩
abbrev cX6_addKnot : ByteArray := prog_8_method_9_code
def yX6_addKnot : MethodName := ⟨RX6, "addKnot", "(LFloatTowns$Tokens;)Z"⟩
abbrev cX6_hold : ByteArray := prog_8_method_10_code
def yX6_hold : MethodName := ⟨RX6, "hold", "(I)V"⟩
abbrev cX6_writeStep : ByteArray := prog_8_method_11_code
def yX6_writeStep : MethodName := ⟨RX6, "writeStep", "(I)V"⟩
abbrev cX6_writeNegations : ByteArray := prog_8_method_12_code
def yX6_writeNegations : MethodName := ⟨RX6, "writeNegations", "()V"⟩
abbrev cX6_writeWaiting : ByteArray := prog_8_method_13_code
def yX6_writeWaiting : MethodName := ⟨RX6, "writeWaiting", "(I)V"⟩
abbrev cX6_strengthOf : ByteArray := prog_8_method_14_code
def yX6_strengthOf : MethodName := ⟨RX6, "strengthOf", "(I)I"⟩
abbrev cX6_isSign : ByteArray := prog_8_method_15_code
def yX6_isSign : MethodName := ⟨RX6, "isSign", "(I)Z"⟩
abbrev cX6_joined : ByteArray := prog_8_method_16_code
def yX6_joined : MethodName := ⟨RX6, "joined", "(IJJ)J"⟩
abbrev cX6_product : ByteArray := prog_8_method_17_code
def yX6_product : MethodName := ⟨RX6, "product", "(JJ)J"⟩
abbrev cX6_checked : ByteArray := prog_8_method_18_code
def yX6_checked : MethodName := ⟨RX6, "checked", "(J)J"⟩
def RX7 : String := "FloatTowns$Sailing"
def TX7 : u_T := fun k => match k with
  | 0 => ("FloatTowns$Sailing", "plan", "LFloatTowns$Plan;", false)
  | 1 => ("FloatTowns$Sailing", "foundSort", "I", false)
  | 2 => ("FloatTowns$Sailing", "foundCrew", "I", false)
  | 3 => ("FloatTowns$Sailing", "foundFrom", "I", false)
  | 4 => ("FloatTowns$Sailing", "foundTo", "I", false)
  | 5 => ("FloatTowns$Sailing", "foundFlat", "I", false)
  | 6 => ("FloatTowns$Sailing", "foundTimes", "I", false)
  | 7 => ("FloatTowns$Sailing", "foundBetter", "J", false)
  | 8 => ("FloatTowns$Sailing", "ledger", "LFloatTowns$Ledger;", true)
  | _ => ("FloatTowns$Sailing", "reformed", "I", false)
def tyX7 : Nat → FieldType := fun k => match k with
  | 0 => .object "FloatTowns$Plan"
  | 1 => .int
  | 2 => .int
  | 3 => .int
  | 4 => .int
  | 5 => .int
  | 6 => .int
  | 7 => .long
  | 8 => .object "FloatTowns$Ledger"
  | _ => .int
abbrev wsX70 : List Cond := u_ws RX7 TX7 10
theorem nmX7 : ∀ a, a < 10 → ∀ b, b < 10 → a ≠ b → (TX7 a).2.1 ≠ (TX7 b).2.1 := by decide +kernel
theorem tyX7_ok : ∀ k, k < 10 → parseFieldDescriptor (TX7 k).2.2.1 = some (tyX7 k) := by decide +kernel
abbrev cX7_init : ByteArray := prog_9_method_1_code
def yX7_init : MethodName := ⟨RX7, "<init>", "()V"⟩
abbrev cX7_board : ByteArray := prog_9_method_2_code
def yX7_board : MethodName := ⟨RX7, "board", "(LFloatTowns$Plan;)V"⟩
abbrev cX7_givenIn : ByteArray := prog_9_method_3_code
def yX7_givenIn : MethodName := ⟨RX7, "givenIn", "(II)I"⟩
abbrev cX7_askedIn : ByteArray := prog_9_method_4_code
def yX7_askedIn : MethodName := ⟨RX7, "askedIn", "(LFloatTowns$Scene;III)J"⟩
abbrev cX7_askedByRow : ByteArray := prog_9_method_5_code
def yX7_askedByRow : MethodName := ⟨RX7, "askedByRow", "(LFloatTowns$Scene;III)J"⟩
abbrev cX7_worthIn : ByteArray := prog_9_method_6_code
def yX7_worthIn : MethodName := ⟨RX7, "worthIn", "(LFloatTowns$Scene;III)J"⟩
abbrev cX7_worthOfOneMore : ByteArray := prog_9_method_7_code
def yX7_worthOfOneMore : MethodName := ⟨RX7, "worthOfOneMore", "(LFloatTowns$Scene;III)J"⟩
abbrev cX7_sumIn : ByteArray := prog_9_method_8_code
def yX7_sumIn : MethodName := ⟨RX7, "sumIn", "(LFloatTowns$Scene;II)J"⟩
abbrev cX7_totalOf : ByteArray := prog_9_method_9_code
def yX7_totalOf : MethodName := ⟨RX7, "totalOf", "(LFloatTowns$Scene;)J"⟩
abbrev cX7_isMet : ByteArray := prog_9_method_10_code
def yX7_isMet : MethodName := ⟨RX7, "isMet", "(LFloatTowns$Scene;I)Z"⟩
abbrev cX7_gainOf : ByteArray := prog_9_method_11_code
def yX7_gainOf : MethodName := ⟨RX7, "gainOf", "(LFloatTowns$Scene;III)J"⟩
abbrev cX7_stayOf : ByteArray := prog_9_method_12_code
def yX7_stayOf : MethodName := ⟨RX7, "stayOf", "(LFloatTowns$Scene;II)J"⟩
abbrev cX7_seekFirst : ByteArray := prog_9_method_13_code
def yX7_seekFirst : MethodName := ⟨RX7, "seekFirst", "(LFloatTowns$Scene;)Z"⟩
abbrev cX7_canLeave : ByteArray := prog_9_method_14_code
def yX7_canLeave : MethodName := ⟨RX7, "canLeave", "(LFloatTowns$Scene;II)Z"⟩
abbrev cX7_sailFound : ByteArray := prog_9_method_15_code
def yX7_sailFound : MethodName := ⟨RX7, "sailFound", "(LFloatTowns$Scene;)V"⟩
abbrev cX7_partyWould : ByteArray := prog_9_method_16_code
def yX7_partyWould : MethodName := ⟨RX7, "partyWould", "(LFloatTowns$Scene;III)Z"⟩
abbrev cX7_seekParty : ByteArray := prog_9_method_17_code
def yX7_seekParty : MethodName := ⟨RX7, "seekParty", "(LFloatTowns$Scene;I)Z"⟩
abbrev cX7_seekPlaces : ByteArray := prog_9_method_18_code
def yX7_seekPlaces : MethodName := ⟨RX7, "seekPlaces", "(LFloatTowns$Scene;I)Z"⟩
abbrev cX7_edgeOf : ByteArray := prog_9_method_19_code
def yX7_edgeOf : MethodName := ⟨RX7, "edgeOf", "(LFloatTowns$Scene;II)I"⟩
abbrev cX7_seekSplit : ByteArray := prog_9_method_21_code
def yX7_seekSplit : MethodName := ⟨RX7, "seekSplit", "(LFloatTowns$Scene;II)V"⟩
def RX8 : String := "FloatTowns$Scene"
def TX8 : u_T := fun k => match k with
  | 0 => ("FloatTowns$Scene", "extras", "[I", true)
  | 1 => ("FloatTowns$Scene", "parting", "J", false)
  | 2 => ("FloatTowns$Scene", "bound", "I", false)
  | 3 => ("FloatTowns$Scene", "tied", "I", false)
  | _ => ("FloatTowns$Scene", "months", "I", false)
def tyX8 : Nat → FieldType := fun k => match k with
  | 0 => .array .int
  | 1 => .long
  | 2 => .int
  | 3 => .int
  | _ => .int
abbrev wsX80 : List Cond := u_ws RX8 TX8 5
theorem nmX8 : ∀ a, a < 5 → ∀ b, b < 5 → a ≠ b → (TX8 a).2.1 ≠ (TX8 b).2.1 := by decide +kernel
theorem tyX8_ok : ∀ k, k < 5 → parseFieldDescriptor (TX8 k).2.2.1 = some (tyX8 k) := by decide +kernel
abbrev cX8_init : ByteArray := prog_10_method_1_code
def yX8_init : MethodName := ⟨RX8, "<init>", "()V"⟩
abbrev cX8_begin : ByteArray := prog_10_method_2_code
def yX8_begin : MethodName := ⟨RX8, "begin", "(I)V"⟩
abbrev cX8_copyOf : ByteArray := prog_10_method_3_code
def yX8_copyOf : MethodName := ⟨RX8, "copyOf", "(LFloatTowns$Scene;)V"⟩
abbrev cX8_hasTermsOf : ByteArray := prog_10_method_4_code
def yX8_hasTermsOf : MethodName := ⟨RX8, "hasTermsOf", "(LFloatTowns$Scene;)Z"⟩
abbrev cX8_isBound : ByteArray := prog_10_method_5_code
def yX8_isBound : MethodName := ⟨RX8, "isBound", "(I)Z"⟩
def RX9 : String := "FloatTowns$Survey"
def TX9 : u_T := fun k => match k with
  | 0 => ("FloatTowns$Survey", "partings", "I", false)
  | 1 => ("FloatTowns$Survey", "holding", "I", false)
  | 2 => ("FloatTowns$Survey", "bestParting", "J", false)
  | 3 => ("FloatTowns$Survey", "bestTotal", "J", false)
  | 4 => ("FloatTowns$Survey", "greatestHeld", "J", false)
  | 5 => ("FloatTowns$Survey", "leastHeld", "J", false)
  | 6 => ("FloatTowns$Survey", "held", "[J", true)
  | 7 => ("FloatTowns$Survey", "sailing", "LFloatTowns$Sailing;", true)
  | 8 => ("FloatTowns$Survey", "scene", "LFloatTowns$Scene;", true)
  | _ => ("FloatTowns$Survey", "made", "Z", false)
def tyX9 : Nat → FieldType := fun k => match k with
  | 0 => .int
  | 1 => .int
  | 2 => .long
  | 3 => .long
  | 4 => .long
  | 5 => .long
  | 6 => .array .long
  | 7 => .object "FloatTowns$Sailing"
  | 8 => .object "FloatTowns$Scene"
  | _ => .boolean
abbrev wsX90 : List Cond := u_ws RX9 TX9 10
theorem nmX9 : ∀ a, a < 10 → ∀ b, b < 10 → a ≠ b → (TX9 a).2.1 ≠ (TX9 b).2.1 := by decide +kernel
theorem tyX9_ok : ∀ k, k < 10 → parseFieldDescriptor (TX9 k).2.2.1 = some (tyX9 k) := by decide +kernel
abbrev cX9_init : ByteArray := prog_11_method_1_code
def yX9_init : MethodName := ⟨RX9, "<init>", "(LFloatTowns$Sailing;)V"⟩
abbrev cX9_forget : ByteArray := prog_11_method_2_code
def yX9_forget : MethodName := ⟨RX9, "forget", "()V"⟩
abbrev cX9_make : ByteArray := prog_11_method_3_code
def yX9_make : MethodName := ⟨RX9, "make", "(LFloatTowns$Scene;)Z"⟩
abbrev cX9_weigh : ByteArray := prog_11_method_4_code
def yX9_weigh : MethodName := ⟨RX9, "weigh", "(Z)V"⟩
abbrev cX9_countPartings : ByteArray := prog_11_method_5_code
def yX9_countPartings : MethodName := ⟨RX9, "countPartings", "()V"⟩
abbrev cX9_nextParting : ByteArray := prog_11_method_6_code
def yX9_nextParting : MethodName := ⟨RX9, "nextParting", "(J)J"⟩
def RX10 : String := "FloatTowns$Tokens"
def TX10 : u_T := fun k => match k with
  | 0 => ("FloatTowns$Tokens", "tape", "[I", true)
  | 1 => ("FloatTowns$Tokens", "kinds", "[I", true)
  | 2 => ("FloatTowns$Tokens", "values", "[I", true)
  | 3 => ("FloatTowns$Tokens", "starts", "[I", true)
  | 4 => ("FloatTowns$Tokens", "fed", "I", false)
  | 5 => ("FloatTowns$Tokens", "size", "I", false)
  | 6 => ("FloatTowns$Tokens", "many", "I", false)
  | 7 => ("FloatTowns$Tokens", "next", "I", false)
  | 8 => ("FloatTowns$Tokens", "start", "I", false)
  | 9 => ("FloatTowns$Tokens", "fault", "I", false)
  | 10 => ("FloatTowns$Tokens", "faultPlace", "I", false)
  | 11 => ("FloatTowns$Tokens", "kind", "I", false)
  | _ => ("FloatTowns$Tokens", "value", "I", false)
def tyX10 : Nat → FieldType := fun k => match k with
  | 0 => .array .int
  | 1 => .array .int
  | 2 => .array .int
  | 3 => .array .int
  | 4 => .int
  | 5 => .int
  | 6 => .int
  | 7 => .int
  | 8 => .int
  | 9 => .int
  | 10 => .int
  | 11 => .int
  | _ => .int
abbrev wsX100 : List Cond := u_ws RX10 TX10 13
theorem nmX10 : ∀ a, a < 13 → ∀ b, b < 13 → a ≠ b → (TX10 a).2.1 ≠ (TX10 b).2.1 := by decide +kernel
theorem tyX10_ok : ∀ k, k < 13 → parseFieldDescriptor (TX10 k).2.2.1 = some (tyX10 k) := by decide +kernel
abbrev cX10_init : ByteArray := prog_12_method_1_code
def yX10_init : MethodName := ⟨RX10, "<init>", "()V"⟩
abbrev cX10_hasRoom : ByteArray := prog_12_method_2_code
def yX10_hasRoom : MethodName := ⟨RX10, "hasRoom", "(I)Z"⟩
abbrev cX10_tapeLength : ByteArray := prog_12_method_3_code
def yX10_tapeLength : MethodName := ⟨RX10, "tapeLength", "()I"⟩
abbrev cX10_putFour : ByteArray := prog_12_method_4_code
def yX10_putFour : MethodName := ⟨RX10, "putFour", "(I)V"⟩
abbrev cX10_open : ByteArray := prog_12_method_5_code
def yX10_open : MethodName := ⟨RX10, "open", "(I)V"⟩
abbrev cX10_faultFound : ByteArray := prog_12_method_6_code
def yX10_faultFound : MethodName := ⟨RX10, "faultFound", "()I"⟩
abbrev cX10_placeOfFault : ByteArray := prog_12_method_7_code
def yX10_placeOfFault : MethodName := ⟨RX10, "placeOfFault", "()I"⟩
abbrev cX10_isSound : ByteArray := prog_12_method_8_code
def yX10_isSound : MethodName := ⟨RX10, "isSound", "()Z"⟩
abbrev cX10_refuse : ByteArray := prog_12_method_9_code
def yX10_refuse : MethodName := ⟨RX10, "refuse", "(I)V"⟩
abbrev cX10_step : ByteArray := prog_12_method_10_code
def yX10_step : MethodName := ⟨RX10, "step", "()V"⟩
abbrev cX10_take : ByteArray := prog_12_method_11_code
def yX10_take : MethodName := ⟨RX10, "take", "(I)Z"⟩
abbrev cX10_takeNumber : ByteArray := prog_12_method_12_code
def yX10_takeNumber : MethodName := ⟨RX10, "takeNumber", "(II)I"⟩
abbrev cX10_lastOf : ByteArray := prog_12_method_13_code
def yX10_lastOf : MethodName := ⟨RX10, "lastOf", "(I)I"⟩
abbrev cX10_kindOf : ByteArray := prog_12_method_14_code
def yX10_kindOf : MethodName := ⟨RX10, "kindOf", "(II)I"⟩
abbrev cX10_valueOf : ByteArray := prog_12_method_15_code
def yX10_valueOf : MethodName := ⟨RX10, "valueOf", "(III)I"⟩
abbrev cX10_kindOfWord : ByteArray := prog_12_method_16_code
def yX10_kindOfWord : MethodName := ⟨RX10, "kindOfWord", "(II)I"⟩
abbrev cX10_isSame : ByteArray := prog_12_method_17_code
def yX10_isSame : MethodName := ⟨RX10, "isSame", "(III)Z"⟩
abbrev cX10_signKind : ByteArray := prog_12_method_18_code
def yX10_signKind : MethodName := ⟨RX10, "signKind", "(I)I"⟩
abbrev cX10_isLetter : ByteArray := prog_12_method_19_code
def yX10_isLetter : MethodName := ⟨RX10, "isLetter", "(I)Z"⟩
abbrev cX10_isDigit : ByteArray := prog_12_method_20_code
def yX10_isDigit : MethodName := ⟨RX10, "isDigit", "(I)Z"⟩
def RX11 : String := "FloatTowns"
def TX11 : u_T := fun k => match k with
  | 0 => ("FloatTowns", "tokens", "LFloatTowns$Tokens;", true)
  | 1 => ("FloatTowns", "reader", "LFloatTowns$Reader;", true)
  | 2 => ("FloatTowns", "sailing", "LFloatTowns$Sailing;", true)
  | 3 => ("FloatTowns", "course", "LFloatTowns$Course;", true)
  | 4 => ("FloatTowns", "survey", "LFloatTowns$Survey;", true)
  | 5 => ("FloatTowns", "history", "LFloatTowns$History;", true)
  | 6 => ("FloatTowns", "now", "LFloatTowns$Scene;", true)
  | 7 => ("FloatTowns", "plan", "LFloatTowns$Plan;", false)
  | 8 => ("FloatTowns", "spare", "LFloatTowns$Plan;", false)
  | 9 => ("FloatTowns", "fault", "I", false)
  | _ => ("FloatTowns", "faultPlace", "I", false)
def tyX11 : Nat → FieldType := fun k => match k with
  | 0 => .object "FloatTowns$Tokens"
  | 1 => .object "FloatTowns$Reader"
  | 2 => .object "FloatTowns$Sailing"
  | 3 => .object "FloatTowns$Course"
  | 4 => .object "FloatTowns$Survey"
  | 5 => .object "FloatTowns$History"
  | 6 => .object "FloatTowns$Scene"
  | 7 => .object "FloatTowns$Plan"
  | 8 => .object "FloatTowns$Plan"
  | 9 => .int
  | _ => .int
abbrev wsX110 : List Cond := u_ws RX11 TX11 11
theorem nmX11 : ∀ a, a < 11 → ∀ b, b < 11 → a ≠ b → (TX11 a).2.1 ≠ (TX11 b).2.1 := by decide +kernel
theorem tyX11_ok : ∀ k, k < 11 → parseFieldDescriptor (TX11 k).2.2.1 = some (tyX11 k) := by decide +kernel
abbrev cX11_init : ByteArray := prog_1_method_1_code
def yX11_init : MethodName := ⟨RX11, "<init>", "()V"⟩
abbrev cX11_feed : ByteArray := prog_1_method_2_code
def yX11_feed : MethodName := ⟨RX11, "feed", "(IIIII)I"⟩
abbrev cX11_text : ByteArray := prog_1_method_3_code
def yX11_text : MethodName := ⟨RX11, "text", "(I)I"⟩
abbrev cX11_fault : ByteArray := prog_1_method_4_code
def yX11_fault : MethodName := ⟨RX11, "fault", "(I)I"⟩
abbrev cX11_town : ByteArray := prog_1_method_9_code
def yX11_town : MethodName := ⟨RX11, "town", "(II)I"⟩
abbrev cX11_at : ByteArray := prog_1_method_11_code
def yX11_at : MethodName := ⟨RX11, "at", "(II)I"⟩
abbrev cX11_worth : ByteArray := prog_1_method_12_code
def yX11_worth : MethodName := ⟨RX11, "worth", "(IIZ)J"⟩
abbrev cX11_asked : ByteArray := prog_1_method_13_code
def yX11_asked : MethodName := ⟨RX11, "asked", "(II)J"⟩
abbrev cX11_gain : ByteArray := prog_1_method_14_code
def yX11_gain : MethodName := ⟨RX11, "gain", "(III)J"⟩
abbrev cX11_total : ByteArray := prog_1_method_15_code
def yX11_total : MethodName := ⟨RX11, "total", "()J"⟩
abbrev cX11_met : ByteArray := prog_1_method_16_code
def yX11_met : MethodName := ⟨RX11, "met", "(I)I"⟩
abbrev cX11_go : ByteArray := prog_1_method_17_code
def yX11_go : MethodName := ⟨RX11, "go", "(III)Z"⟩
abbrev cX11_first : ByteArray := prog_1_method_18_code
def yX11_first : MethodName := ⟨RX11, "first", "(I)I"⟩
abbrev cX11_would : ByteArray := prog_1_method_19_code
def yX11_would : MethodName := ⟨RX11, "would", "(III)I"⟩
abbrev cX11_party : ByteArray := prog_1_method_20_code
def yX11_party : MethodName := ⟨RX11, "party", "(II)I"⟩
abbrev cX11_goings : ByteArray := prog_1_method_21_code
def yX11_goings : MethodName := ⟨RX11, "goings", "(I)I"⟩
abbrev cX11_ring : ByteArray := prog_1_method_22_code
def yX11_ring : MethodName := ⟨RX11, "ring", "(I)I"⟩
abbrev cX11_empties : ByteArray := prog_1_method_23_code
def yX11_empties : MethodName := ⟨RX11, "empties", "(I)I"⟩
abbrev cX11_months : ByteArray := prog_1_method_24_code
def yX11_months : MethodName := ⟨RX11, "months", "(II)I"⟩
abbrev cX11_tied : ByteArray := prog_1_method_25_code
def yX11_tied : MethodName := ⟨RX11, "tied", "()I"⟩
abbrev cX11_all : ByteArray := prog_1_method_27_code
def yX11_all : MethodName := ⟨RX11, "all", "(I)I"⟩
abbrev cX11_held : ByteArray := prog_1_method_28_code
def yX11_held : MethodName := ⟨RX11, "held", "(III)I"⟩
abbrev cX11_lost : ByteArray := prog_1_method_29_code
def yX11_lost : MethodName := ⟨RX11, "lost", "(I)J"⟩
abbrev cX11_best : ByteArray := prog_1_method_30_code
def yX11_best : MethodName := ⟨RX11, "best", "()Z"⟩
abbrev cX11_extra : ByteArray := prog_1_method_31_code
def yX11_extra : MethodName := ⟨RX11, "extra", "(II)Z"⟩
abbrev cX11_bind : ByteArray := prog_1_method_32_code
def yX11_bind : MethodName := ⟨RX11, "bind", "(IZ)Z"⟩
abbrev cX11_edge : ByteArray := prog_1_method_33_code
def yX11_edge : MethodName := ⟨RX11, "edge", "(II)I"⟩
abbrev cX11_split : ByteArray := prog_1_method_35_code
def yX11_split : MethodName := ⟨RX11, "split", "(III)J"⟩
abbrev cX11_out : ByteArray := prog_1_method_36_code
def yX11_out : MethodName := ⟨RX11, "out", "(III)I"⟩
abbrev cX11_undo : ByteArray := prog_1_method_37_code
def yX11_undo : MethodName := ⟨RX11, "undo", "()I"⟩
abbrev cX11_isSort : ByteArray := prog_1_method_40_code
def yX11_isSort : MethodName := ⟨RX11, "isSort", "(I)Z"⟩
abbrev cX11_isTown : ByteArray := prog_1_method_41_code
def yX11_isTown : MethodName := ⟨RX11, "isTown", "(I)Z"⟩
abbrev cX11_isPlace : ByteArray := prog_1_method_42_code
def yX11_isPlace : MethodName := ⟨RX11, "isPlace", "(I)Z"⟩
abbrev cX11_canGo : ByteArray := prog_1_method_43_code
def yX11_canGo : MethodName := ⟨RX11, "canGo", "(III)Z"⟩
abbrev cX11_foundPlace : ByteArray := prog_1_method_44_code
def yX11_foundPlace : MethodName := ⟨RX11, "foundPlace", "(I)I"⟩
abbrev cX11_crewOfParty : ByteArray := prog_1_method_45_code
def yX11_crewOfParty : MethodName := ⟨RX11, "crewOfParty", "(I)I"⟩
abbrev cX11_partyOfCrew : ByteArray := prog_1_method_46_code
def yX11_partyOfCrew : MethodName := ⟨RX11, "partyOfCrew", "(I)I"⟩
abbrev cX11_asBit : ByteArray := prog_1_method_48_code
def yX11_asBit : MethodName := ⟨RX11, "asBit", "(Z)I"⟩
abbrev cX11_one : ByteArray := prog_1_method_49_code
def yX11_one : MethodName := ⟨RX11, "one", "(I)I"⟩
abbrev cX11_part : ByteArray := prog_1_method_50_code
def yX11_part : MethodName := ⟨RX11, "part", "(II)I"⟩
abbrev cX11_sizeOf : ByteArray := prog_1_method_51_code
def yX11_sizeOf : MethodName := ⟨RX11, "sizeOf", "(I)I"⟩
abbrev cX11_covers : ByteArray := prog_1_method_52_code
def yX11_covers : MethodName := ⟨RX11, "covers", "(II)Z"⟩
def RX12 : String := "FloatTownsModel"
def TX12 : u_T := fun k => match k with
  | _ => ("", "", "", false)
def tyX12 : Nat → FieldType := fun k => match k with
  | _ => .int
abbrev wsX120 : List Cond := u_ws RX12 TX12 0
theorem nmX12 : ∀ a, a < 0 → ∀ b, b < 0 → a ≠ b → (TX12 a).2.1 ≠ (TX12 b).2.1 := by decide +kernel
theorem tyX12_ok : ∀ k, k < 0 → parseFieldDescriptor (TX12 k).2.2.1 = some (tyX12 k) := by decide +kernel
def RJ5 : String := "java/lang/AbstractStringBuilder"
def TJ5 : u_T := fun k => match k with
  | _ => ("", "", "", false)
def tyJ5 : Nat → FieldType := fun k => match k with
  | _ => .int
abbrev wsJ50 : List Cond := u_ws RJ5 TJ5 0
theorem nmJ5 : ∀ a, a < 0 → ∀ b, b < 0 → a ≠ b → (TJ5 a).2.1 ≠ (TJ5 b).2.1 := by decide +kernel
theorem tyJ5_ok : ∀ k, k < 0 → parseFieldDescriptor (TJ5 k).2.2.1 = some (tyJ5 k) := by decide +kernel
abbrev cJ5_init_d00df : ByteArray := prog_15_method_2_code
def yJ5_init_d00df : MethodName := ⟨RJ5, "<init>", "(I)V"⟩
abbrev cJ5_length_8abf5 : ByteArray := prog_15_method_6_code
def yJ5_length_8abf5 : MethodName := ⟨RJ5, "length", "()I"⟩
abbrev cJ5_ensureCapacityInternal_d00df : ByteArray := prog_15_method_9_code
def yJ5_ensureCapacityInternal_d00df : MethodName := ⟨RJ5, "ensureCapacityInternal", "(I)V"⟩
abbrev cJ5_newCapacity_0f7a4 : ByteArray := prog_15_method_10_code
def yJ5_newCapacity_0f7a4 : MethodName := ⟨RJ5, "newCapacity", "(I)I"⟩
abbrev cJ5_inflate_da8c8 : ByteArray := prog_15_method_11_code
def yJ5_inflate_da8c8 : MethodName := ⟨RJ5, "inflate", "()V"⟩
abbrev cJ5_append_cf1ce : ByteArray := prog_15_method_22_code
def yJ5_append_cf1ce : MethodName := ⟨RJ5, "append", "(Ljava/lang/String;)Ljava/lang/AbstractStringBuilder;"⟩
abbrev cJ5_appendNull_278bc : ByteArray := prog_15_method_26_code
def yJ5_appendNull_278bc : MethodName := ⟨RJ5, "appendNull", "()Ljava/lang/AbstractStringBuilder;"⟩
abbrev cJ5_append_c97b9 : ByteArray := prog_15_method_32_code
def yJ5_append_c97b9 : MethodName := ⟨RJ5, "append", "(I)Ljava/lang/AbstractStringBuilder;"⟩
abbrev cJ5_getValue_6d5f1 : ByteArray := prog_15_method_64_code
def yJ5_getValue_6d5f1 : MethodName := ⟨RJ5, "getValue", "()[B"⟩
abbrev cJ5_isLatin1_aae02 : ByteArray := prog_15_method_68_code
def yJ5_isLatin1_aae02 : MethodName := ⟨RJ5, "isLatin1", "()Z"⟩
abbrev cJ5_inflateIfNeededFor_a7421 : ByteArray := prog_15_method_71_code
def yJ5_inflateIfNeededFor_a7421 : MethodName := ⟨RJ5, "inflateIfNeededFor", "(Ljava/lang/String;)V"⟩
abbrev cJ5_putStringAt_47b60 : ByteArray := prog_15_method_73_code
def yJ5_putStringAt_47b60 : MethodName := ⟨RJ5, "putStringAt", "(ILjava/lang/String;)V"⟩
def RJ6 : String := "java/lang/Integer"
def TJ6 : u_T := fun k => match k with
  | _ => ("", "", "", false)
def tyJ6 : Nat → FieldType := fun k => match k with
  | _ => .int
abbrev wsJ60 : List Cond := u_ws RJ6 TJ6 0
theorem nmJ6 : ∀ a, a < 0 → ∀ b, b < 0 → a ≠ b → (TJ6 a).2.1 ≠ (TJ6 b).2.1 := by decide +kernel
theorem tyJ6_ok : ∀ k, k < 0 → parseFieldDescriptor (TJ6 k).2.2.1 = some (tyJ6 k) := by decide +kernel
abbrev cJ6_getChars_ba4f3 : ByteArray := prog_17_method_12_code
def yJ6_getChars_ba4f3 : MethodName := ⟨RJ6, "getChars", "(II[B)I"⟩
abbrev cJ6_stringSize_0f7a4 : ByteArray := prog_17_method_13_code
def yJ6_stringSize_0f7a4 : MethodName := ⟨RJ6, "stringSize", "(I)I"⟩
def RJ9 : String := "java/lang/Math"
def TJ9 : u_T := fun k => match k with
  | _ => ("", "", "", false)
def tyJ9 : Nat → FieldType := fun k => match k with
  | _ => .int
abbrev wsJ90 : List Cond := u_ws RJ9 TJ9 0
theorem nmJ9 : ∀ a, a < 0 → ∀ b, b < 0 → a ≠ b → (TJ9 a).2.1 ≠ (TJ9 b).2.1 := by decide +kernel
theorem tyJ9_ok : ∀ k, k < 0 → parseFieldDescriptor (TJ9 k).2.2.1 = some (tyJ9 k) := by decide +kernel
abbrev cJ9_abs_067f4 : ByteArray := prog_18_method_61_code
def yJ9_abs_067f4 : MethodName := ⟨RJ9, "abs", "(J)J"⟩
abbrev cJ9_max_7cf53 : ByteArray := prog_18_method_65_code
def yJ9_max_7cf53 : MethodName := ⟨RJ9, "max", "(II)I"⟩
abbrev cJ9_max_f86c9 : ByteArray := prog_18_method_66_code
def yJ9_max_f86c9 : MethodName := ⟨RJ9, "max", "(JJ)J"⟩
abbrev cJ9_min_7cf53 : ByteArray := prog_18_method_69_code
def yJ9_min_7cf53 : MethodName := ⟨RJ9, "min", "(II)I"⟩
abbrev cJ9_min_f86c9 : ByteArray := prog_18_method_70_code
def yJ9_min_f86c9 : MethodName := ⟨RJ9, "min", "(JJ)J"⟩
def RJ0 : String := "java/lang/String"
def TJ0 : u_T := fun k => match k with
  | 0 => ("java/lang/String", "value", "[B", true)
  | 1 => ("java/lang/String", "coder", "B", true)
  | 2 => ("java/lang/String", "hash", "I", false)
  | _ => ("java/lang/String", "hashIsZero", "Z", false)
def tyJ0 : Nat → FieldType := fun k => match k with
  | 0 => .array .byte
  | 1 => .byte
  | 2 => .int
  | _ => .boolean
abbrev wsJ00 : List Cond := u_ws RJ0 TJ0 4
theorem nmJ0 : ∀ a, a < 4 → ∀ b, b < 4 → a ≠ b → (TJ0 a).2.1 ≠ (TJ0 b).2.1 := by decide +kernel
theorem tyJ0_ok : ∀ k, k < 4 → parseFieldDescriptor (TJ0 k).2.2.1 = some (tyJ0 k) := by decide +kernel
abbrev cJ0_init_81219 : ByteArray := prog_20_method_53_code
def yJ0_init_81219 : MethodName := ⟨RJ0, "<init>", "(Ljava/lang/StringBuilder;)V"⟩
abbrev cJ0_length_8abf5 : ByteArray := prog_20_method_54_code
def yJ0_length_8abf5 : MethodName := ⟨RJ0, "length", "()I"⟩
abbrev cJ0_charAt_5068e : ByteArray := prog_20_method_56_code
def yJ0_charAt_5068e : MethodName := ⟨RJ0, "charAt", "(I)C"⟩
abbrev cJ0_getBytes_840e7 : ByteArray := prog_20_method_147_code
def yJ0_getBytes_840e7 : MethodName := ⟨RJ0, "getBytes", "([BIB)V"⟩
abbrev cJ0_init_db425 : ByteArray := prog_20_method_150_code
def yJ0_init_db425 : MethodName := ⟨RJ0, "<init>", "(Ljava/lang/AbstractStringBuilder;Ljava/lang/Void;)V"⟩
abbrev cJ0_coder_7d493 : ByteArray := prog_20_method_152_code
def yJ0_coder_7d493 : MethodName := ⟨RJ0, "coder", "()B"⟩
abbrev cJ0_isLatin1_aae02 : ByteArray := prog_20_method_154_code
def yJ0_isLatin1_aae02 : MethodName := ⟨RJ0, "isLatin1", "()Z"⟩
abbrev cJ0_checkIndex_df160 : ByteArray := prog_20_method_155_code
def yJ0_checkIndex_df160 : MethodName := ⟨RJ0, "checkIndex", "(II)V"⟩
abbrev cJ0_checkBoundsOffCount_cabcc : ByteArray := prog_20_method_157_code
def yJ0_checkBoundsOffCount_cabcc : MethodName := ⟨RJ0, "checkBoundsOffCount", "(III)I"⟩
abbrev cJ0_checkBoundsBeginEnd_23922 : ByteArray := prog_20_method_158_code
def yJ0_checkBoundsBeginEnd_23922 : MethodName := ⟨RJ0, "checkBoundsBeginEnd", "(III)V"⟩
def RJ4 : String := "java/lang/StringBuilder"
def TJ4 : u_T := fun k => match k with
  | 0 => ("java/lang/AbstractStringBuilder", "value", "[B", false)
  | 1 => ("java/lang/AbstractStringBuilder", "coder", "B", false)
  | 2 => ("java/lang/AbstractStringBuilder", "maybeLatin1", "Z", false)
  | _ => ("java/lang/AbstractStringBuilder", "count", "I", false)
def tyJ4 : Nat → FieldType := fun k => match k with
  | 0 => .array .byte
  | 1 => .byte
  | 2 => .boolean
  | _ => .int
abbrev wsJ40 : List Cond := u_ws RJ4 TJ4 4
theorem nmJ4 : ∀ a, a < 4 → ∀ b, b < 4 → a ≠ b → (TJ4 a).2.1 ≠ (TJ4 b).2.1 := by decide +kernel
theorem tyJ4_ok : ∀ k, k < 4 → parseFieldDescriptor (TJ4 k).2.2.1 = some (tyJ4 k) := by decide +kernel
abbrev cJ4_init_da8c8 : ByteArray := prog_21_method_1_code
def yJ4_init_da8c8 : MethodName := ⟨RJ4, "<init>", "()V"⟩
abbrev cJ4_append_15ec4 : ByteArray := prog_21_method_7_code
def yJ4_append_15ec4 : MethodName := ⟨RJ4, "append", "(Ljava/lang/String;)Ljava/lang/StringBuilder;"⟩
abbrev cJ4_append_bf812 : ByteArray := prog_21_method_15_code
def yJ4_append_bf812 : MethodName := ⟨RJ4, "append", "(I)Ljava/lang/StringBuilder;"⟩
abbrev cJ4_toString_0e30d : ByteArray := prog_21_method_42_code
def yJ4_toString_0e30d : MethodName := ⟨RJ4, "toString", "()Ljava/lang/String;"⟩
abbrev cJ4_length_8abf5 : ByteArray := prog_21_method_93_code
def yJ4_length_8abf5 : MethodName := ⟨RJ4, "length", "()I"⟩
def RJ1 : String := "java/lang/StringLatin1"
def TJ1 : u_T := fun k => match k with
  | _ => ("", "", "", false)
def tyJ1 : Nat → FieldType := fun k => match k with
  | _ => .int
abbrev wsJ10 : List Cond := u_ws RJ1 TJ1 0
theorem nmJ1 : ∀ a, a < 0 → ∀ b, b < 0 → a ≠ b → (TJ1 a).2.1 ≠ (TJ1 b).2.1 := by decide +kernel
theorem tyJ1_ok : ∀ k, k < 0 → parseFieldDescriptor (TJ1 k).2.2.1 = some (tyJ1 k) := by decide +kernel
abbrev cJ1_charAt_3b067 : ByteArray := prog_22_method_2_code
def yJ1_charAt_3b067 : MethodName := ⟨RJ1, "charAt", "([BI)C"⟩
abbrev cJ1_inflate_0e8fd : ByteArray := prog_22_method_50_code
def yJ1_inflate_0e8fd : MethodName := ⟨RJ1, "inflate", "([BI[BII)V"⟩
def RJ2 : String := "java/lang/StringUTF16"
def TJ2 : u_T := fun k => match k with
  | _ => ("", "", "", false)
def tyJ2 : Nat → FieldType := fun k => match k with
  | _ => .int
abbrev wsJ20 : List Cond := u_ws RJ2 TJ2 0
theorem nmJ2 : ∀ a, a < 0 → ∀ b, b < 0 → a ≠ b → (TJ2 a).2.1 ≠ (TJ2 b).2.1 := by decide +kernel
theorem tyJ2_ok : ∀ k, k < 0 → parseFieldDescriptor (TJ2 k).2.2.1 = some (tyJ2 k) := by decide +kernel
abbrev cJ2_newBytesFor_77867 : ByteArray := prog_23_method_2_code
def yJ2_newBytesFor_77867 : MethodName := ⟨RJ2, "newBytesFor", "(I)[B"⟩
abbrev cJ2_newBytesLength_0f7a4 : ByteArray := prog_23_method_3_code
def yJ2_newBytesLength_0f7a4 : MethodName := ⟨RJ2, "newBytesLength", "(I)I"⟩
abbrev cJ2_putChar_b72d1 : ByteArray := prog_23_method_4_code
def yJ2_putChar_b72d1 : MethodName := ⟨RJ2, "putChar", "([BII)V"⟩
abbrev cJ2_getChar_3b067 : ByteArray := prog_23_method_5_code
def yJ2_getChar_3b067 : MethodName := ⟨RJ2, "getChar", "([BI)C"⟩
abbrev cJ2_length_9d52b : ByteArray := prog_23_method_6_code
def yJ2_length_9d52b : MethodName := ⟨RJ2, "length", "([B)I"⟩
abbrev cJ2_coderFromArrayLen_85cad : ByteArray := prog_23_method_15_code
def yJ2_coderFromArrayLen_85cad : MethodName := ⟨RJ2, "coderFromArrayLen", "([BI)B"⟩
abbrev cJ2_compress_39247 : ByteArray := prog_23_method_17_code
def yJ2_compress_39247 : MethodName := ⟨RJ2, "compress", "([BII)[B"⟩
abbrev cJ2_compress_5af95 : ByteArray := prog_23_method_22_code
def yJ2_compress_5af95 : MethodName := ⟨RJ2, "compress", "([BI[BII)I"⟩
abbrev cJ2_getChars_46870 : ByteArray := prog_23_method_77_code
def yJ2_getChars_46870 : MethodName := ⟨RJ2, "getChars", "(III[B)I"⟩
abbrev cJ2_putCharsAt_cd4e5 : ByteArray := prog_23_method_81_code
def yJ2_putCharsAt_cd4e5 : MethodName := ⟨RJ2, "putCharsAt", "([BICCCC)I"⟩
abbrev cJ2_charAt_3b067 : ByteArray := prog_23_method_83_code
def yJ2_charAt_3b067 : MethodName := ⟨RJ2, "charAt", "([BI)C"⟩
abbrev cJ2_inflate_0e8fd : ByteArray := prog_23_method_86_code
def yJ2_inflate_0e8fd : MethodName := ⟨RJ2, "inflate", "([BI[BII)V"⟩
abbrev cJ2_getChars_ba4f3 : ByteArray := prog_23_method_89_code
def yJ2_getChars_ba4f3 : MethodName := ⟨RJ2, "getChars", "(II[B)I"⟩
abbrev cJ2_checkIndex_2214a : ByteArray := prog_23_method_91_code
def yJ2_checkIndex_2214a : MethodName := ⟨RJ2, "checkIndex", "(I[B)V"⟩
abbrev cJ2_checkBoundsBeginEnd_d044e : ByteArray := prog_23_method_93_code
def yJ2_checkBoundsBeginEnd_d044e : MethodName := ⟨RJ2, "checkBoundsBeginEnd", "(II[B)V"⟩
abbrev cJ2_checkBoundsOffCount_d044e : ByteArray := prog_23_method_94_code
def yJ2_checkBoundsOffCount_d044e : MethodName := ⟨RJ2, "checkBoundsOffCount", "(II[B)V"⟩
def RJ10 : String := "java/lang/System"
def TJ10 : u_T := fun k => match k with
  | _ => ("", "", "", false)
def tyJ10 : Nat → FieldType := fun k => match k with
  | _ => .int
abbrev wsJ100 : List Cond := u_ws RJ10 TJ10 0
theorem nmJ10 : ∀ a, a < 0 → ∀ b, b < 0 → a ≠ b → (TJ10 a).2.1 ≠ (TJ10 b).2.1 := by decide +kernel
theorem tyJ10_ok : ∀ k, k < 0 → parseFieldDescriptor (TJ10 k).2.2.1 = some (tyJ10 k) := by decide +kernel
def RJ7 : String := "java/util/Arrays"
def TJ7 : u_T := fun k => match k with
  | _ => ("", "", "", false)
def tyJ7 : Nat → FieldType := fun k => match k with
  | _ => .int
abbrev wsJ70 : List Cond := u_ws RJ7 TJ7 0
theorem nmJ7 : ∀ a, a < 0 → ∀ b, b < 0 → a ≠ b → (TJ7 a).2.1 ≠ (TJ7 b).2.1 := by decide +kernel
theorem tyJ7_ok : ∀ k, k < 0 → parseFieldDescriptor (TJ7 k).2.2.1 = some (tyJ7 k) := by decide +kernel
abbrev cJ7_fill_53178 : ByteArray := prog_25_method_103_code
def yJ7_fill_53178 : MethodName := ⟨RJ7, "fill", "([II)V"⟩
abbrev cJ7_copyOf_9075b : ByteArray := prog_25_method_121_code
def yJ7_copyOf_9075b : MethodName := ⟨RJ7, "copyOf", "([BI)[B"⟩
abbrev cJ7_checkLength_df160 : ByteArray := prog_25_method_131_code
def yJ7_checkLength_df160 : MethodName := ⟨RJ7, "checkLength", "(II)V"⟩
abbrev cJ7_copyOfRange_39247 : ByteArray := prog_25_method_132_code
def yJ7_copyOfRange_39247 : MethodName := ⟨RJ7, "copyOfRange", "([BII)[B"⟩
abbrev cJ7_copyOfRangeByte_39247 : ByteArray := prog_25_method_133_code
def yJ7_copyOfRangeByte_39247 : MethodName := ⟨RJ7, "copyOfRangeByte", "([BII)[B"⟩
def RJ8 : String := "jdk/internal/util/ArraysSupport"
def TJ8 : u_T := fun k => match k with
  | _ => ("", "", "", false)
def tyJ8 : Nat → FieldType := fun k => match k with
  | _ => .int
abbrev wsJ80 : List Cond := u_ws RJ8 TJ8 0
theorem nmJ8 : ∀ a, a < 0 → ∀ b, b < 0 → a ≠ b → (TJ8 a).2.1 ≠ (TJ8 b).2.1 := by decide +kernel
theorem tyJ8_ok : ∀ k, k < 0 → parseFieldDescriptor (TJ8 k).2.2.1 = some (tyJ8 k) := by decide +kernel
abbrev cJ8_newLength_cabcc : ByteArray := prog_26_method_27_code
def yJ8_newLength_cabcc : MethodName := ⟨RJ8, "newLength", "(III)I"⟩
abbrev cJ8_hugeLength_7cf53 : ByteArray := prog_26_method_28_code
def yJ8_hugeLength_7cf53 : MethodName := ⟨RJ8, "hugeLength", "(II)I"⟩
def RJ3 : String := "jdk/internal/util/Preconditions"
def TJ3 : u_T := fun k => match k with
  | _ => ("", "", "", false)
def tyJ3 : Nat → FieldType := fun k => match k with
  | _ => .int
abbrev wsJ30 : List Cond := u_ws RJ3 TJ3 0
theorem nmJ3 : ∀ a, a < 0 → ∀ b, b < 0 → a ≠ b → (TJ3 a).2.1 ≠ (TJ3 b).2.1 := by decide +kernel
theorem tyJ3_ok : ∀ k, k < 0 → parseFieldDescriptor (TJ3 k).2.2.1 = some (tyJ3 k) := by decide +kernel
abbrev cJ3_checkIndex_8e157 : ByteArray := prog_27_method_11_code
def yJ3_checkIndex_8e157 : MethodName := ⟨RJ3, "checkIndex", "(IILjava/util/function/BiFunction;)I"⟩
abbrev cJ3_checkFromToIndex_8c36e : ByteArray := prog_27_method_12_code
def yJ3_checkFromToIndex_8c36e : MethodName := ⟨RJ3, "checkFromToIndex", "(IIILjava/util/function/BiFunction;)I"⟩
abbrev cJ3_checkFromIndexSize_8c36e : ByteArray := prog_27_method_13_code
def yJ3_checkFromIndexSize_8c36e : MethodName := ⟨RJ3, "checkFromIndexSize", "(IIILjava/util/function/BiFunction;)I"⟩
def RL : String := "FloatTownsLaw"
abbrev cL_cell : ByteArray := method_2_code
def yL_cell : MethodName := ⟨RL, "cell", "([II)I"⟩
abbrev cL_in : ByteArray := method_3_code
def yL_in : MethodName := ⟨RL, "in", "(II)I"⟩
abbrev cL_text : ByteArray := method_4_code
def yL_text : MethodName := ⟨RL, "text", "(LFloatTowns;Ljava/lang/String;)I"⟩
abbrev cL_law : ByteArray := code
def yL_law : MethodName := ⟨RL, "law", "([I)Z"⟩
abbrev vwCl : List vw_C := [(RX0, TX0, 8), (RX1, TX1, 4), (RX2, TX2, 5), (RX3, TX3, 6), (RX4, TX4, 17), (RX5, TX5, 2), (RX6, TX6, 10), (RX7, TX7, 10), (RX8, TX8, 5), (RX9, TX9, 10), (RX10, TX10, 13), (RX11, TX11, 11), (RJ0, TJ0, 4), (RJ4, TJ4, 4)]
set_option maxRecDepth 100000 in
theorem inX0 : ∀ w ∈ wsX00, w ∈ lw_tbl := by decide +kernel
set_option maxRecDepth 100000 in
theorem inX1 : ∀ w ∈ wsX10, w ∈ lw_tbl := by decide +kernel
set_option maxRecDepth 100000 in
theorem inX2 : ∀ w ∈ wsX20, w ∈ lw_tbl := by decide +kernel
set_option maxRecDepth 100000 in
theorem inX3 : ∀ w ∈ wsX30, w ∈ lw_tbl := by decide +kernel
set_option maxRecDepth 100000 in
theorem inX4 : ∀ w ∈ wsX40, w ∈ lw_tbl := by decide +kernel
set_option maxRecDepth 100000 in
theorem inX5 : ∀ w ∈ wsX50, w ∈ lw_tbl := by decide +kernel
set_option maxRecDepth 100000 in
theorem inX6 : ∀ w ∈ wsX60, w ∈ lw_tbl := by decide +kernel
set_option maxRecDepth 100000 in
theorem inX7 : ∀ w ∈ wsX70, w ∈ lw_tbl := by decide +kernel
set_option maxRecDepth 100000 in
theorem inX8 : ∀ w ∈ wsX80, w ∈ lw_tbl := by decide +kernel
set_option maxRecDepth 100000 in
theorem inX9 : ∀ w ∈ wsX90, w ∈ lw_tbl := by decide +kernel
set_option maxRecDepth 100000 in
theorem inX10 : ∀ w ∈ wsX100, w ∈ lw_tbl := by decide +kernel
set_option maxRecDepth 100000 in
theorem inX11 : ∀ w ∈ wsX110, w ∈ lw_tbl := by decide +kernel
set_option maxRecDepth 100000 in
theorem inX12 : ∀ w ∈ wsX120, w ∈ lw_tbl := by decide +kernel
set_option maxRecDepth 100000 in
theorem inJ5 : ∀ w ∈ wsJ50, w ∈ lw_tbl := by decide +kernel
set_option maxRecDepth 100000 in
theorem inJ6 : ∀ w ∈ wsJ60, w ∈ lw_tbl := by decide +kernel
set_option maxRecDepth 100000 in
theorem inJ9 : ∀ w ∈ wsJ90, w ∈ lw_tbl := by decide +kernel
set_option maxRecDepth 100000 in
theorem inJ0 : ∀ w ∈ wsJ00, w ∈ lw_tbl := by decide +kernel
set_option maxRecDepth 100000 in
theorem inJ4 : ∀ w ∈ wsJ40, w ∈ lw_tbl := by decide +kernel
set_option maxRecDepth 100000 in
theorem inJ1 : ∀ w ∈ wsJ10, w ∈ lw_tbl := by decide +kernel
set_option maxRecDepth 100000 in
theorem inJ2 : ∀ w ∈ wsJ20, w ∈ lw_tbl := by decide +kernel
set_option maxRecDepth 100000 in
theorem inJ10 : ∀ w ∈ wsJ100, w ∈ lw_tbl := by decide +kernel
set_option maxRecDepth 100000 in
theorem inJ7 : ∀ w ∈ wsJ70, w ∈ lw_tbl := by decide +kernel
set_option maxRecDepth 100000 in
theorem inJ8 : ∀ w ∈ wsJ80, w ∈ lw_tbl := by decide +kernel
set_option maxRecDepth 100000 in
theorem inJ3 : ∀ w ∈ wsJ30, w ∈ lw_tbl := by decide +kernel
