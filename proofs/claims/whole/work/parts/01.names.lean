/-- a private method of a class that the tables say can be made, by its rows of tables_1 -/
def lw_okq (q : MethodName × Nat) : Prop := (q.1.cls ≠ "java/lang/invoke/MethodHandle" ∧ q.1.cls ≠ "java/lang/invoke/VarHandle") ∧ Cond.instantiable q.1.cls q.2 ∈ tables_1 ∧ Cond.privateMethod q.1 ∈ tables_1 ∧ Cond.instanceMethod q.1 ∈ tables_1
theorem lw_p0 : lw_okq (⟨"FloatTowns$Ledger", "write", "(III)V"⟩, 6) := ⟨⟨by decide +kernel, by decide +kernel⟩, List.mem_of_getElem? (i := 105) (by decide +kernel), List.mem_of_getElem? (i := 494) (by decide +kernel), List.mem_of_getElem? (i := 495) (by decide +kernel)⟩
theorem lw_p1 : lw_okq (⟨"FloatTowns$Ledger", "likedIn", "(III)I"⟩, 6) := ⟨⟨by decide +kernel, by decide +kernel⟩, List.mem_of_getElem? (i := 105) (by decide +kernel), List.mem_of_getElem? (i := 538) (by decide +kernel), List.mem_of_getElem? (i := 539) (by decide +kernel)⟩
theorem lw_p2 : lw_okq (⟨"FloatTowns$Tokens", "lastOf", "(I)I"⟩, 13) := ⟨⟨by decide +kernel, by decide +kernel⟩, List.mem_of_getElem? (i := 35) (by decide +kernel), List.mem_of_getElem? (i := 622) (by decide +kernel), List.mem_of_getElem? (i := 623) (by decide +kernel)⟩
theorem lw_p3 : lw_okq (⟨"FloatTowns$Tokens", "kindOf", "(II)I"⟩, 13) := ⟨⟨by decide +kernel, by decide +kernel⟩, List.mem_of_getElem? (i := 35) (by decide +kernel), List.mem_of_getElem? (i := 633) (by decide +kernel), List.mem_of_getElem? (i := 634) (by decide +kernel)⟩
theorem lw_p4 : lw_okq (⟨"FloatTowns$Tokens", "kindOfWord", "(II)I"⟩, 13) := ⟨⟨by decide +kernel, by decide +kernel⟩, List.mem_of_getElem? (i := 35) (by decide +kernel), List.mem_of_getElem? (i := 637) (by decide +kernel), List.mem_of_getElem? (i := 638) (by decide +kernel)⟩
theorem lw_p5 : lw_okq (⟨"FloatTowns$Tokens", "isSame", "(III)Z"⟩, 13) := ⟨⟨by decide +kernel, by decide +kernel⟩, List.mem_of_getElem? (i := 35) (by decide +kernel), List.mem_of_getElem? (i := 690) (by decide +kernel), List.mem_of_getElem? (i := 691) (by decide +kernel)⟩
theorem lw_p6 : lw_okq (⟨"FloatTowns$Tokens", "valueOf", "(III)I"⟩, 13) := ⟨⟨by decide +kernel, by decide +kernel⟩, List.mem_of_getElem? (i := 35) (by decide +kernel), List.mem_of_getElem? (i := 697) (by decide +kernel), List.mem_of_getElem? (i := 698) (by decide +kernel)⟩
theorem lw_p7 : lw_okq (⟨"FloatTowns$Reader", "readGood", "()V"⟩, 2) := ⟨⟨by decide +kernel, by decide +kernel⟩, List.mem_of_getElem? (i := 86) (by decide +kernel), List.mem_of_getElem? (i := 710) (by decide +kernel), List.mem_of_getElem? (i := 711) (by decide +kernel)⟩
theorem lw_p8 : lw_okq (⟨"FloatTowns$Reader", "newOne", "(II)I"⟩, 2) := ⟨⟨by decide +kernel, by decide +kernel⟩, List.mem_of_getElem? (i := 86) (by decide +kernel), List.mem_of_getElem? (i := 714) (by decide +kernel), List.mem_of_getElem? (i := 715) (by decide +kernel)⟩
theorem lw_p9 : lw_okq (⟨"FloatTowns$Reader", "readFloat", "()V"⟩, 2) := ⟨⟨by decide +kernel, by decide +kernel⟩, List.mem_of_getElem? (i := 86) (by decide +kernel), List.mem_of_getElem? (i := 736) (by decide +kernel), List.mem_of_getElem? (i := 737) (by decide +kernel)⟩
theorem lw_p10 : lw_okq (⟨"FloatTowns$Reader", "readWant", "(I)V"⟩, 2) := ⟨⟨by decide +kernel, by decide +kernel⟩, List.mem_of_getElem? (i := 86) (by decide +kernel), List.mem_of_getElem? (i := 746) (by decide +kernel), List.mem_of_getElem? (i := 747) (by decide +kernel)⟩
theorem lw_p11 : lw_okq (⟨"FloatTowns$Reader", "oldOne", "(I)I"⟩, 2) := ⟨⟨by decide +kernel, by decide +kernel⟩, List.mem_of_getElem? (i := 86) (by decide +kernel), List.mem_of_getElem? (i := 750) (by decide +kernel), List.mem_of_getElem? (i := 751) (by decide +kernel)⟩
theorem lw_p12 : lw_okq (⟨"FloatTowns$Reader", "readLiking", "()V"⟩, 2) := ⟨⟨by decide +kernel, by decide +kernel⟩, List.mem_of_getElem? (i := 86) (by decide +kernel), List.mem_of_getElem? (i := 755) (by decide +kernel), List.mem_of_getElem? (i := 756) (by decide +kernel)⟩
theorem lw_p13 : lw_okq (⟨"FloatTowns$Reader", "readTown", "()V"⟩, 2) := ⟨⟨by decide +kernel, by decide +kernel⟩, List.mem_of_getElem? (i := 86) (by decide +kernel), List.mem_of_getElem? (i := 759) (by decide +kernel), List.mem_of_getElem? (i := 760) (by decide +kernel)⟩
theorem lw_p14 : lw_okq (⟨"FloatTowns$Reader", "readGift", "(I)V"⟩, 2) := ⟨⟨by decide +kernel, by decide +kernel⟩, List.mem_of_getElem? (i := 86) (by decide +kernel), List.mem_of_getElem? (i := 763) (by decide +kernel), List.mem_of_getElem? (i := 764) (by decide +kernel)⟩
theorem lw_p15 : lw_okq (⟨"FloatTowns$Rules", "readOperand", "(LFloatTowns$Tokens;)Z"⟩, 10) := ⟨⟨by decide +kernel, by decide +kernel⟩, List.mem_of_getElem? (i := 320) (by decide +kernel), List.mem_of_getElem? (i := 776) (by decide +kernel), List.mem_of_getElem? (i := 777) (by decide +kernel)⟩
def lw_privs_1 : List (MethodName × Nat) := [(⟨"FloatTowns$Ledger", "write", "(III)V"⟩, 6), (⟨"FloatTowns$Ledger", "likedIn", "(III)I"⟩, 6), (⟨"FloatTowns$Tokens", "lastOf", "(I)I"⟩, 13), (⟨"FloatTowns$Tokens", "kindOf", "(II)I"⟩, 13), (⟨"FloatTowns$Tokens", "kindOfWord", "(II)I"⟩, 13), (⟨"FloatTowns$Tokens", "isSame", "(III)Z"⟩, 13), (⟨"FloatTowns$Tokens", "valueOf", "(III)I"⟩, 13), (⟨"FloatTowns$Reader", "readGood", "()V"⟩, 2), (⟨"FloatTowns$Reader", "newOne", "(II)I"⟩, 2), (⟨"FloatTowns$Reader", "readFloat", "()V"⟩, 2), (⟨"FloatTowns$Reader", "readWant", "(I)V"⟩, 2), (⟨"FloatTowns$Reader", "oldOne", "(I)I"⟩, 2), (⟨"FloatTowns$Reader", "readLiking", "()V"⟩, 2), (⟨"FloatTowns$Reader", "readTown", "()V"⟩, 2), (⟨"FloatTowns$Reader", "readGift", "(I)V"⟩, 2), (⟨"FloatTowns$Rules", "readOperand", "(LFloatTowns$Tokens;)Z"⟩, 10)]
theorem lw_r1 : ∀ q ∈ lw_privs_1, lw_okq q := List.forall_mem_cons.mpr ⟨lw_p0, List.forall_mem_cons.mpr ⟨lw_p1, List.forall_mem_cons.mpr ⟨lw_p2, List.forall_mem_cons.mpr ⟨lw_p3, List.forall_mem_cons.mpr ⟨lw_p4, List.forall_mem_cons.mpr ⟨lw_p5, List.forall_mem_cons.mpr ⟨lw_p6, List.forall_mem_cons.mpr ⟨lw_p7, List.forall_mem_cons.mpr ⟨lw_p8, List.forall_mem_cons.mpr ⟨lw_p9, List.forall_mem_cons.mpr ⟨lw_p10, List.forall_mem_cons.mpr ⟨lw_p11, List.forall_mem_cons.mpr ⟨lw_p12, List.forall_mem_cons.mpr ⟨lw_p13, List.forall_mem_cons.mpr ⟨lw_p14, List.forall_mem_cons.mpr ⟨lw_p15, fun _ h => absurd h List.not_mem_nil⟩⟩⟩⟩⟩⟩⟩⟩⟩⟩⟩⟩⟩⟩⟩⟩
theorem lw_p16 : lw_okq (⟨"FloatTowns$Rules", "addKnot", "(LFloatTowns$Tokens;)Z"⟩, 10) := ⟨⟨by decide +kernel, by decide +kernel⟩, List.mem_of_getElem? (i := 320) (by decide +kernel), List.mem_of_getElem? (i := 780) (by decide +kernel), List.mem_of_getElem? (i := 781) (by decide +kernel)⟩
theorem lw_p17 : lw_okq (⟨"FloatTowns$Rules", "writeStep", "(I)V"⟩, 10) := ⟨⟨by decide +kernel, by decide +kernel⟩, List.mem_of_getElem? (i := 320) (by decide +kernel), List.mem_of_getElem? (i := 786) (by decide +kernel), List.mem_of_getElem? (i := 787) (by decide +kernel)⟩
theorem lw_p18 : lw_okq (⟨"FloatTowns$Rules", "hold", "(I)V"⟩, 10) := ⟨⟨by decide +kernel, by decide +kernel⟩, List.mem_of_getElem? (i := 320) (by decide +kernel), List.mem_of_getElem? (i := 791) (by decide +kernel), List.mem_of_getElem? (i := 792) (by decide +kernel)⟩
theorem lw_p19 : lw_okq (⟨"FloatTowns$Rules", "openBracket", "(LFloatTowns$Tokens;)V"⟩, 10) := ⟨⟨by decide +kernel, by decide +kernel⟩, List.mem_of_getElem? (i := 320) (by decide +kernel), List.mem_of_getElem? (i := 795) (by decide +kernel), List.mem_of_getElem? (i := 796) (by decide +kernel)⟩
theorem lw_p20 : lw_okq (⟨"FloatTowns$Rules", "writeNegations", "()V"⟩, 10) := ⟨⟨by decide +kernel, by decide +kernel⟩, List.mem_of_getElem? (i := 320) (by decide +kernel), List.mem_of_getElem? (i := 799) (by decide +kernel), List.mem_of_getElem? (i := 800) (by decide +kernel)⟩
theorem lw_p21 : lw_okq (⟨"FloatTowns$Rules", "closeBracket", "()V"⟩, 10) := ⟨⟨by decide +kernel, by decide +kernel⟩, List.mem_of_getElem? (i := 320) (by decide +kernel), List.mem_of_getElem? (i := 803) (by decide +kernel), List.mem_of_getElem? (i := 804) (by decide +kernel)⟩
theorem lw_p22 : lw_okq (⟨"FloatTowns$Rules", "writeWaiting", "(I)V"⟩, 10) := ⟨⟨by decide +kernel, by decide +kernel⟩, List.mem_of_getElem? (i := 320) (by decide +kernel), List.mem_of_getElem? (i := 807) (by decide +kernel), List.mem_of_getElem? (i := 808) (by decide +kernel)⟩
theorem lw_p23 : lw_okq (⟨"FloatTowns$Rules", "readSign", "(LFloatTowns$Tokens;)V"⟩, 10) := ⟨⟨by decide +kernel, by decide +kernel⟩, List.mem_of_getElem? (i := 320) (by decide +kernel), List.mem_of_getElem? (i := 817) (by decide +kernel), List.mem_of_getElem? (i := 818) (by decide +kernel)⟩
theorem lw_p24 : lw_okq (⟨"FloatTowns$Reader", "readGround", "()V"⟩, 2) := ⟨⟨by decide +kernel, by decide +kernel⟩, List.mem_of_getElem? (i := 86) (by decide +kernel), List.mem_of_getElem? (i := 821) (by decide +kernel), List.mem_of_getElem? (i := 822) (by decide +kernel)⟩
theorem lw_p25 : lw_okq (⟨"FloatTowns$Reader", "readStorm", "()V"⟩, 2) := ⟨⟨by decide +kernel, by decide +kernel⟩, List.mem_of_getElem? (i := 86) (by decide +kernel), List.mem_of_getElem? (i := 837) (by decide +kernel), List.mem_of_getElem? (i := 838) (by decide +kernel)⟩
theorem lw_p26 : lw_okq (⟨"FloatTowns", "isSort", "(I)Z"⟩, 11) := ⟨⟨by decide +kernel, by decide +kernel⟩, List.mem_of_getElem? (i := 27) (by decide +kernel), List.mem_of_getElem? (i := 876) (by decide +kernel), List.mem_of_getElem? (i := 877) (by decide +kernel)⟩
theorem lw_p27 : lw_okq (⟨"FloatTowns", "isTown", "(I)Z"⟩, 11) := ⟨⟨by decide +kernel, by decide +kernel⟩, List.mem_of_getElem? (i := 27) (by decide +kernel), List.mem_of_getElem? (i := 888) (by decide +kernel), List.mem_of_getElem? (i := 889) (by decide +kernel)⟩
theorem lw_p28 : lw_okq (⟨"FloatTowns", "isPlace", "(I)Z"⟩, 11) := ⟨⟨by decide +kernel, by decide +kernel⟩, List.mem_of_getElem? (i := 27) (by decide +kernel), List.mem_of_getElem? (i := 921) (by decide +kernel), List.mem_of_getElem? (i := 922) (by decide +kernel)⟩
theorem lw_p29 : lw_okq (⟨"FloatTowns$Sailing", "askedByRow", "(LFloatTowns$Scene;III)J"⟩, 10) := ⟨⟨by decide +kernel, by decide +kernel⟩, List.mem_of_getElem? (i := 99) (by decide +kernel), List.mem_of_getElem? (i := 946) (by decide +kernel), List.mem_of_getElem? (i := 947) (by decide +kernel)⟩
theorem lw_p30 : lw_okq (⟨"FloatTowns", "canGo", "(III)Z"⟩, 11) := ⟨⟨by decide +kernel, by decide +kernel⟩, List.mem_of_getElem? (i := 27) (by decide +kernel), List.mem_of_getElem? (i := 970) (by decide +kernel), List.mem_of_getElem? (i := 971) (by decide +kernel)⟩
theorem lw_p31 : lw_okq (⟨"FloatTowns$Sailing", "stayOf", "(LFloatTowns$Scene;II)J"⟩, 10) := ⟨⟨by decide +kernel, by decide +kernel⟩, List.mem_of_getElem? (i := 99) (by decide +kernel), List.mem_of_getElem? (i := 980) (by decide +kernel), List.mem_of_getElem? (i := 981) (by decide +kernel)⟩
def lw_privs_2 : List (MethodName × Nat) := [(⟨"FloatTowns$Rules", "addKnot", "(LFloatTowns$Tokens;)Z"⟩, 10), (⟨"FloatTowns$Rules", "writeStep", "(I)V"⟩, 10), (⟨"FloatTowns$Rules", "hold", "(I)V"⟩, 10), (⟨"FloatTowns$Rules", "openBracket", "(LFloatTowns$Tokens;)V"⟩, 10), (⟨"FloatTowns$Rules", "writeNegations", "()V"⟩, 10), (⟨"FloatTowns$Rules", "closeBracket", "()V"⟩, 10), (⟨"FloatTowns$Rules", "writeWaiting", "(I)V"⟩, 10), (⟨"FloatTowns$Rules", "readSign", "(LFloatTowns$Tokens;)V"⟩, 10), (⟨"FloatTowns$Reader", "readGround", "()V"⟩, 2), (⟨"FloatTowns$Reader", "readStorm", "()V"⟩, 2), (⟨"FloatTowns", "isSort", "(I)Z"⟩, 11), (⟨"FloatTowns", "isTown", "(I)Z"⟩, 11), (⟨"FloatTowns", "isPlace", "(I)Z"⟩, 11), (⟨"FloatTowns$Sailing", "askedByRow", "(LFloatTowns$Scene;III)J"⟩, 10), (⟨"FloatTowns", "canGo", "(III)Z"⟩, 11), (⟨"FloatTowns$Sailing", "stayOf", "(LFloatTowns$Scene;II)J"⟩, 10)]
theorem lw_r2 : ∀ q ∈ lw_privs_2, lw_okq q := List.forall_mem_cons.mpr ⟨lw_p16, List.forall_mem_cons.mpr ⟨lw_p17, List.forall_mem_cons.mpr ⟨lw_p18, List.forall_mem_cons.mpr ⟨lw_p19, List.forall_mem_cons.mpr ⟨lw_p20, List.forall_mem_cons.mpr ⟨lw_p21, List.forall_mem_cons.mpr ⟨lw_p22, List.forall_mem_cons.mpr ⟨lw_p23, List.forall_mem_cons.mpr ⟨lw_p24, List.forall_mem_cons.mpr ⟨lw_p25, List.forall_mem_cons.mpr ⟨lw_p26, List.forall_mem_cons.mpr ⟨lw_p27, List.forall_mem_cons.mpr ⟨lw_p28, List.forall_mem_cons.mpr ⟨lw_p29, List.forall_mem_cons.mpr ⟨lw_p30, List.forall_mem_cons.mpr ⟨lw_p31, fun _ h => absurd h List.not_mem_nil⟩⟩⟩⟩⟩⟩⟩⟩⟩⟩⟩⟩⟩⟩⟩⟩
theorem lw_p32 : lw_okq (⟨"FloatTowns$Sailing", "canLeave", "(LFloatTowns$Scene;II)Z"⟩, 10) := ⟨⟨by decide +kernel, by decide +kernel⟩, List.mem_of_getElem? (i := 99) (by decide +kernel), List.mem_of_getElem? (i := 1042) (by decide +kernel), List.mem_of_getElem? (i := 1043) (by decide +kernel)⟩
theorem lw_p33 : lw_okq (⟨"FloatTowns", "foundPlace", "(I)I"⟩, 11) := ⟨⟨by decide +kernel, by decide +kernel⟩, List.mem_of_getElem? (i := 27) (by decide +kernel), List.mem_of_getElem? (i := 1053) (by decide +kernel), List.mem_of_getElem? (i := 1054) (by decide +kernel)⟩
theorem lw_p34 : lw_okq (⟨"FloatTowns", "crewOfParty", "(I)I"⟩, 11) := ⟨⟨by decide +kernel, by decide +kernel⟩, List.mem_of_getElem? (i := 27) (by decide +kernel), List.mem_of_getElem? (i := 1061) (by decide +kernel), List.mem_of_getElem? (i := 1062) (by decide +kernel)⟩
theorem lw_p35 : lw_okq (⟨"FloatTowns$Sailing", "seekPlaces", "(LFloatTowns$Scene;I)Z"⟩, 10) := ⟨⟨by decide +kernel, by decide +kernel⟩, List.mem_of_getElem? (i := 99) (by decide +kernel), List.mem_of_getElem? (i := 1080) (by decide +kernel), List.mem_of_getElem? (i := 1081) (by decide +kernel)⟩
theorem lw_p36 : lw_okq (⟨"FloatTowns$Course", "seenBefore", "(I)I"⟩, 8) := ⟨⟨by decide +kernel, by decide +kernel⟩, List.mem_of_getElem? (i := 173) (by decide +kernel), List.mem_of_getElem? (i := 1111) (by decide +kernel), List.mem_of_getElem? (i := 1112) (by decide +kernel)⟩
theorem lw_p37 : lw_okq (⟨"FloatTowns$Course", "nextNumber", "()J"⟩, 8) := ⟨⟨by decide +kernel, by decide +kernel⟩, List.mem_of_getElem? (i := 173) (by decide +kernel), List.mem_of_getElem? (i := 1137) (by decide +kernel), List.mem_of_getElem? (i := 1138) (by decide +kernel)⟩
theorem lw_p38 : lw_okq (⟨"FloatTowns$Survey", "countPartings", "()V"⟩, 10) := ⟨⟨by decide +kernel, by decide +kernel⟩, List.mem_of_getElem? (i := 241) (by decide +kernel), List.mem_of_getElem? (i := 1171) (by decide +kernel), List.mem_of_getElem? (i := 1172) (by decide +kernel)⟩
theorem lw_p39 : lw_okq (⟨"FloatTowns$Survey", "weigh", "(Z)V"⟩, 10) := ⟨⟨by decide +kernel, by decide +kernel⟩, List.mem_of_getElem? (i := 241) (by decide +kernel), List.mem_of_getElem? (i := 1179) (by decide +kernel), List.mem_of_getElem? (i := 1180) (by decide +kernel)⟩
theorem lw_p40 : lw_okq (⟨"FloatTowns$Survey", "nextParting", "(J)J"⟩, 10) := ⟨⟨by decide +kernel, by decide +kernel⟩, List.mem_of_getElem? (i := 241) (by decide +kernel), List.mem_of_getElem? (i := 1191) (by decide +kernel), List.mem_of_getElem? (i := 1192) (by decide +kernel)⟩
theorem lw_p41 : lw_okq (⟨"FloatTowns$Grounds", "spread", "(I)Z"⟩, 4) := ⟨⟨by decide +kernel, by decide +kernel⟩, List.mem_of_getElem? (i := 359) (by decide +kernel), List.mem_of_getElem? (i := 1274) (by decide +kernel), List.mem_of_getElem? (i := 1275) (by decide +kernel)⟩
theorem lw_p42 : lw_okq (⟨"FloatTowns$Grounds", "movedAt", "(III)I"⟩, 4) := ⟨⟨by decide +kernel, by decide +kernel⟩, List.mem_of_getElem? (i := 359) (by decide +kernel), List.mem_of_getElem? (i := 1278) (by decide +kernel), List.mem_of_getElem? (i := 1279) (by decide +kernel)⟩
theorem lw_p43 : lw_okq (⟨"java/lang/Throwable", "fillInStackTrace", "(I)Ljava/lang/Throwable;"⟩, 6) := ⟨⟨by decide +kernel, by decide +kernel⟩, List.mem_of_getElem? (i := 1355) (by decide +kernel), List.mem_of_getElem? (i := 1353) (by decide +kernel), List.mem_of_getElem? (i := 1354) (by decide +kernel)⟩
theorem lw_p44 : lw_okq (⟨"FloatTownsModel", "plain", "()V"⟩, 87) := ⟨⟨by decide +kernel, by decide +kernel⟩, List.mem_of_getElem? (i := 1401) (by decide +kernel), List.mem_of_getElem? (i := 1407) (by decide +kernel), List.mem_of_getElem? (i := 1408) (by decide +kernel)⟩
theorem lw_p45 : lw_okq (⟨"FloatTownsModel", "keepText", "()V"⟩, 87) := ⟨⟨by decide +kernel, by decide +kernel⟩, List.mem_of_getElem? (i := 1401) (by decide +kernel), List.mem_of_getElem? (i := 1411) (by decide +kernel), List.mem_of_getElem? (i := 1412) (by decide +kernel)⟩
theorem lw_p46 : lw_okq (⟨"FloatTownsModel", "token", "()V"⟩, 87) := ⟨⟨by decide +kernel, by decide +kernel⟩, List.mem_of_getElem? (i := 1401) (by decide +kernel), List.mem_of_getElem? (i := 1692) (by decide +kernel), List.mem_of_getElem? (i := 1693) (by decide +kernel)⟩
theorem lw_p47 : lw_okq (⟨"FloatTownsModel", "isSmall", "(I)Z"⟩, 87) := ⟨⟨by decide +kernel, by decide +kernel⟩, List.mem_of_getElem? (i := 1401) (by decide +kernel), List.mem_of_getElem? (i := 1696) (by decide +kernel), List.mem_of_getElem? (i := 1697) (by decide +kernel)⟩
def lw_privs_3 : List (MethodName × Nat) := [(⟨"FloatTowns$Sailing", "canLeave", "(LFloatTowns$Scene;II)Z"⟩, 10), (⟨"FloatTowns", "foundPlace", "(I)I"⟩, 11), (⟨"FloatTowns", "crewOfParty", "(I)I"⟩, 11), (⟨"FloatTowns$Sailing", "seekPlaces", "(LFloatTowns$Scene;I)Z"⟩, 10), (⟨"FloatTowns$Course", "seenBefore", "(I)I"⟩, 8), (⟨"FloatTowns$Course", "nextNumber", "()J"⟩, 8), (⟨"FloatTowns$Survey", "countPartings", "()V"⟩, 10), (⟨"FloatTowns$Survey", "weigh", "(Z)V"⟩, 10), (⟨"FloatTowns$Survey", "nextParting", "(J)J"⟩, 10), (⟨"FloatTowns$Grounds", "spread", "(I)Z"⟩, 4), (⟨"FloatTowns$Grounds", "movedAt", "(III)I"⟩, 4), (⟨"java/lang/Throwable", "fillInStackTrace", "(I)Ljava/lang/Throwable;"⟩, 6), (⟨"FloatTownsModel", "plain", "()V"⟩, 87), (⟨"FloatTownsModel", "keepText", "()V"⟩, 87), (⟨"FloatTownsModel", "token", "()V"⟩, 87), (⟨"FloatTownsModel", "isSmall", "(I)Z"⟩, 87)]
theorem lw_r3 : ∀ q ∈ lw_privs_3, lw_okq q := List.forall_mem_cons.mpr ⟨lw_p32, List.forall_mem_cons.mpr ⟨lw_p33, List.forall_mem_cons.mpr ⟨lw_p34, List.forall_mem_cons.mpr ⟨lw_p35, List.forall_mem_cons.mpr ⟨lw_p36, List.forall_mem_cons.mpr ⟨lw_p37, List.forall_mem_cons.mpr ⟨lw_p38, List.forall_mem_cons.mpr ⟨lw_p39, List.forall_mem_cons.mpr ⟨lw_p40, List.forall_mem_cons.mpr ⟨lw_p41, List.forall_mem_cons.mpr ⟨lw_p42, List.forall_mem_cons.mpr ⟨lw_p43, List.forall_mem_cons.mpr ⟨lw_p44, List.forall_mem_cons.mpr ⟨lw_p45, List.forall_mem_cons.mpr ⟨lw_p46, List.forall_mem_cons.mpr ⟨lw_p47, fun _ h => absurd h List.not_mem_nil⟩⟩⟩⟩⟩⟩⟩⟩⟩⟩⟩⟩⟩⟩⟩⟩
theorem lw_p48 : lw_okq (⟨"FloatTownsModel", "wordAt", "(II)I"⟩, 87) := ⟨⟨by decide +kernel, by decide +kernel⟩, List.mem_of_getElem? (i := 1401) (by decide +kernel), List.mem_of_getElem? (i := 1700) (by decide +kernel), List.mem_of_getElem? (i := 1701) (by decide +kernel)⟩
theorem lw_p49 : lw_okq (⟨"FloatTownsModel", "packed", "(II)I"⟩, 87) := ⟨⟨by decide +kernel, by decide +kernel⟩, List.mem_of_getElem? (i := 1401) (by decide +kernel), List.mem_of_getElem? (i := 1704) (by decide +kernel), List.mem_of_getElem? (i := 1705) (by decide +kernel)⟩
theorem lw_p50 : lw_okq (⟨"FloatTownsModel", "isDigit", "(I)Z"⟩, 87) := ⟨⟨by decide +kernel, by decide +kernel⟩, List.mem_of_getElem? (i := 1401) (by decide +kernel), List.mem_of_getElem? (i := 1708) (by decide +kernel), List.mem_of_getElem? (i := 1709) (by decide +kernel)⟩
theorem lw_p51 : lw_okq (⟨"FloatTownsModel", "lineRead", "()Z"⟩, 87) := ⟨⟨by decide +kernel, by decide +kernel⟩, List.mem_of_getElem? (i := 1401) (by decide +kernel), List.mem_of_getElem? (i := 1712) (by decide +kernel), List.mem_of_getElem? (i := 1713) (by decide +kernel)⟩
theorem lw_p52 : lw_okq (⟨"FloatTownsModel", "wrong", "(I)Z"⟩, 87) := ⟨⟨by decide +kernel, by decide +kernel⟩, List.mem_of_getElem? (i := 1401) (by decide +kernel), List.mem_of_getElem? (i := 1716) (by decide +kernel), List.mem_of_getElem? (i := 1717) (by decide +kernel)⟩
theorem lw_p53 : lw_okq (⟨"FloatTownsModel", "goodLine", "()Z"⟩, 87) := ⟨⟨by decide +kernel, by decide +kernel⟩, List.mem_of_getElem? (i := 1401) (by decide +kernel), List.mem_of_getElem? (i := 1720) (by decide +kernel), List.mem_of_getElem? (i := 1721) (by decide +kernel)⟩
theorem lw_p54 : lw_okq (⟨"FloatTownsModel", "newName", "([III)Z"⟩, 87) := ⟨⟨by decide +kernel, by decide +kernel⟩, List.mem_of_getElem? (i := 1401) (by decide +kernel), List.mem_of_getElem? (i := 1724) (by decide +kernel), List.mem_of_getElem? (i := 1725) (by decide +kernel)⟩
theorem lw_p55 : lw_okq (⟨"FloatTownsModel", "number", "(II)Z"⟩, 87) := ⟨⟨by decide +kernel, by decide +kernel⟩, List.mem_of_getElem? (i := 1401) (by decide +kernel), List.mem_of_getElem? (i := 1731) (by decide +kernel), List.mem_of_getElem? (i := 1732) (by decide +kernel)⟩
theorem lw_p56 : lw_okq (⟨"FloatTownsModel", "floatLine", "()Z"⟩, 87) := ⟨⟨by decide +kernel, by decide +kernel⟩, List.mem_of_getElem? (i := 1401) (by decide +kernel), List.mem_of_getElem? (i := 1738) (by decide +kernel), List.mem_of_getElem? (i := 1739) (by decide +kernel)⟩
theorem lw_p57 : lw_okq (⟨"FloatTownsModel", "isKey", "(I)Z"⟩, 87) := ⟨⟨by decide +kernel, by decide +kernel⟩, List.mem_of_getElem? (i := 1401) (by decide +kernel), List.mem_of_getElem? (i := 1742) (by decide +kernel), List.mem_of_getElem? (i := 1743) (by decide +kernel)⟩
theorem lw_p58 : lw_okq (⟨"FloatTownsModel", "oldName", "([III)Z"⟩, 87) := ⟨⟨by decide +kernel, by decide +kernel⟩, List.mem_of_getElem? (i := 1401) (by decide +kernel), List.mem_of_getElem? (i := 1746) (by decide +kernel), List.mem_of_getElem? (i := 1747) (by decide +kernel)⟩
theorem lw_p59 : lw_okq (⟨"FloatTownsModel", "likeLine", "()Z"⟩, 87) := ⟨⟨by decide +kernel, by decide +kernel⟩, List.mem_of_getElem? (i := 1401) (by decide +kernel), List.mem_of_getElem? (i := 1753) (by decide +kernel), List.mem_of_getElem? (i := 1754) (by decide +kernel)⟩
theorem lw_p60 : lw_okq (⟨"FloatTownsModel", "isSign", "(I)Z"⟩, 87) := ⟨⟨by decide +kernel, by decide +kernel⟩, List.mem_of_getElem? (i := 1401) (by decide +kernel), List.mem_of_getElem? (i := 1757) (by decide +kernel), List.mem_of_getElem? (i := 1758) (by decide +kernel)⟩
theorem lw_p61 : lw_okq (⟨"FloatTownsModel", "townLine", "()Z"⟩, 87) := ⟨⟨by decide +kernel, by decide +kernel⟩, List.mem_of_getElem? (i := 1401) (by decide +kernel), List.mem_of_getElem? (i := 1761) (by decide +kernel), List.mem_of_getElem? (i := 1762) (by decide +kernel)⟩
theorem lw_p62 : lw_okq (⟨"FloatTownsModel", "sumRead", "()Z"⟩, 87) := ⟨⟨by decide +kernel, by decide +kernel⟩, List.mem_of_getElem? (i := 1401) (by decide +kernel), List.mem_of_getElem? (i := 1765) (by decide +kernel), List.mem_of_getElem? (i := 1766) (by decide +kernel)⟩
theorem lw_p63 : lw_okq (⟨"FloatTownsModel", "leafRead", "()Z"⟩, 87) := ⟨⟨by decide +kernel, by decide +kernel⟩, List.mem_of_getElem? (i := 1401) (by decide +kernel), List.mem_of_getElem? (i := 1769) (by decide +kernel), List.mem_of_getElem? (i := 1770) (by decide +kernel)⟩
def lw_privs_4 : List (MethodName × Nat) := [(⟨"FloatTownsModel", "wordAt", "(II)I"⟩, 87), (⟨"FloatTownsModel", "packed", "(II)I"⟩, 87), (⟨"FloatTownsModel", "isDigit", "(I)Z"⟩, 87), (⟨"FloatTownsModel", "lineRead", "()Z"⟩, 87), (⟨"FloatTownsModel", "wrong", "(I)Z"⟩, 87), (⟨"FloatTownsModel", "goodLine", "()Z"⟩, 87), (⟨"FloatTownsModel", "newName", "([III)Z"⟩, 87), (⟨"FloatTownsModel", "number", "(II)Z"⟩, 87), (⟨"FloatTownsModel", "floatLine", "()Z"⟩, 87), (⟨"FloatTownsModel", "isKey", "(I)Z"⟩, 87), (⟨"FloatTownsModel", "oldName", "([III)Z"⟩, 87), (⟨"FloatTownsModel", "likeLine", "()Z"⟩, 87), (⟨"FloatTownsModel", "isSign", "(I)Z"⟩, 87), (⟨"FloatTownsModel", "townLine", "()Z"⟩, 87), (⟨"FloatTownsModel", "sumRead", "()Z"⟩, 87), (⟨"FloatTownsModel", "leafRead", "()Z"⟩, 87)]
theorem lw_r4 : ∀ q ∈ lw_privs_4, lw_okq q := List.forall_mem_cons.mpr ⟨lw_p48, List.forall_mem_cons.mpr ⟨lw_p49, List.forall_mem_cons.mpr ⟨lw_p50, List.forall_mem_cons.mpr ⟨lw_p51, List.forall_mem_cons.mpr ⟨lw_p52, List.forall_mem_cons.mpr ⟨lw_p53, List.forall_mem_cons.mpr ⟨lw_p54, List.forall_mem_cons.mpr ⟨lw_p55, List.forall_mem_cons.mpr ⟨lw_p56, List.forall_mem_cons.mpr ⟨lw_p57, List.forall_mem_cons.mpr ⟨lw_p58, List.forall_mem_cons.mpr ⟨lw_p59, List.forall_mem_cons.mpr ⟨lw_p60, List.forall_mem_cons.mpr ⟨lw_p61, List.forall_mem_cons.mpr ⟨lw_p62, List.forall_mem_cons.mpr ⟨lw_p63, fun _ h => absurd h List.not_mem_nil⟩⟩⟩⟩⟩⟩⟩⟩⟩⟩⟩⟩⟩⟩⟩⟩
theorem lw_p64 : lw_okq (⟨"FloatTownsModel", "waitsFor", "(I)V"⟩, 87) := ⟨⟨by decide +kernel, by decide +kernel⟩, List.mem_of_getElem? (i := 1401) (by decide +kernel), List.mem_of_getElem? (i := 1773) (by decide +kernel), List.mem_of_getElem? (i := 1774) (by decide +kernel)⟩
theorem lw_p65 : lw_okq (⟨"FloatTownsModel", "isCounted", "()Z"⟩, 87) := ⟨⟨by decide +kernel, by decide +kernel⟩, List.mem_of_getElem? (i := 1401) (by decide +kernel), List.mem_of_getElem? (i := 1777) (by decide +kernel), List.mem_of_getElem? (i := 1778) (by decide +kernel)⟩
theorem lw_p66 : lw_okq (⟨"FloatTownsModel", "grown", "(III)V"⟩, 87) := ⟨⟨by decide +kernel, by decide +kernel⟩, List.mem_of_getElem? (i := 1401) (by decide +kernel), List.mem_of_getElem? (i := 1781) (by decide +kernel), List.mem_of_getElem? (i := 1782) (by decide +kernel)⟩
theorem lw_p67 : lw_okq (⟨"FloatTownsModel", "signs", "()Z"⟩, 87) := ⟨⟨by decide +kernel, by decide +kernel⟩, List.mem_of_getElem? (i := 1401) (by decide +kernel), List.mem_of_getElem? (i := 1785) (by decide +kernel), List.mem_of_getElem? (i := 1786) (by decide +kernel)⟩
theorem lw_p68 : lw_okq (⟨"FloatTownsModel", "bindSigns", "(I)V"⟩, 87) := ⟨⟨by decide +kernel, by decide +kernel⟩, List.mem_of_getElem? (i := 1401) (by decide +kernel), List.mem_of_getElem? (i := 1789) (by decide +kernel), List.mem_of_getElem? (i := 1790) (by decide +kernel)⟩
theorem lw_p69 : lw_okq (⟨"FloatTownsModel", "dropHeld", "()I"⟩, 87) := ⟨⟨by decide +kernel, by decide +kernel⟩, List.mem_of_getElem? (i := 1401) (by decide +kernel), List.mem_of_getElem? (i := 1796) (by decide +kernel), List.mem_of_getElem? (i := 1797) (by decide +kernel)⟩
theorem lw_p70 : lw_okq (⟨"FloatTownsModel", "groundLine", "()Z"⟩, 87) := ⟨⟨by decide +kernel, by decide +kernel⟩, List.mem_of_getElem? (i := 1401) (by decide +kernel), List.mem_of_getElem? (i := 1800) (by decide +kernel), List.mem_of_getElem? (i := 1801) (by decide +kernel)⟩
theorem lw_p71 : lw_okq (⟨"FloatTownsModel", "stormLine", "()Z"⟩, 87) := ⟨⟨by decide +kernel, by decide +kernel⟩, List.mem_of_getElem? (i := 1401) (by decide +kernel), List.mem_of_getElem? (i := 1804) (by decide +kernel), List.mem_of_getElem? (i := 1805) (by decide +kernel)⟩
theorem lw_p72 : lw_okq (⟨"FloatTownsModel", "isSort", "(I)Z"⟩, 87) := ⟨⟨by decide +kernel, by decide +kernel⟩, List.mem_of_getElem? (i := 1401) (by decide +kernel), List.mem_of_getElem? (i := 1820) (by decide +kernel), List.mem_of_getElem? (i := 1821) (by decide +kernel)⟩
theorem lw_p73 : lw_okq (⟨"FloatTownsModel", "fails", "(I)I"⟩, 87) := ⟨⟨by decide +kernel, by decide +kernel⟩, List.mem_of_getElem? (i := 1401) (by decide +kernel), List.mem_of_getElem? (i := 1824) (by decide +kernel), List.mem_of_getElem? (i := 1825) (by decide +kernel)⟩
theorem lw_p74 : lw_okq (⟨"FloatTownsModel", "isTown", "(I)Z"⟩, 87) := ⟨⟨by decide +kernel, by decide +kernel⟩, List.mem_of_getElem? (i := 1401) (by decide +kernel), List.mem_of_getElem? (i := 1840) (by decide +kernel), List.mem_of_getElem? (i := 1841) (by decide +kernel)⟩
theorem lw_p75 : lw_okq (⟨"FloatTownsModel", "layCrew", "(I)V"⟩, 87) := ⟨⟨by decide +kernel, by decide +kernel⟩, List.mem_of_getElem? (i := 1401) (by decide +kernel), List.mem_of_getElem? (i := 1844) (by decide +kernel), List.mem_of_getElem? (i := 1845) (by decide +kernel)⟩
theorem lw_p76 : lw_okq (⟨"FloatTownsModel", "layGiven", "(I)V"⟩, 87) := ⟨⟨by decide +kernel, by decide +kernel⟩, List.mem_of_getElem? (i := 1401) (by decide +kernel), List.mem_of_getElem? (i := 1848) (by decide +kernel), List.mem_of_getElem? (i := 1849) (by decide +kernel)⟩
theorem lw_p77 : lw_okq (⟨"FloatTownsModel", "isVoted", "(I)Z"⟩, 87) := ⟨⟨by decide +kernel, by decide +kernel⟩, List.mem_of_getElem? (i := 1401) (by decide +kernel), List.mem_of_getElem? (i := 1852) (by decide +kernel), List.mem_of_getElem? (i := 1853) (by decide +kernel)⟩
theorem lw_p78 : lw_okq (⟨"FloatTownsModel", "isPlace", "(I)Z"⟩, 87) := ⟨⟨by decide +kernel, by decide +kernel⟩, List.mem_of_getElem? (i := 1401) (by decide +kernel), List.mem_of_getElem? (i := 1860) (by decide +kernel), List.mem_of_getElem? (i := 1861) (by decide +kernel)⟩
theorem lw_p79 : lw_okq (⟨"FloatTownsModel", "worthAt", "(IIZ)J"⟩, 87) := ⟨⟨by decide +kernel, by decide +kernel⟩, List.mem_of_getElem? (i := 1401) (by decide +kernel), List.mem_of_getElem? (i := 1869) (by decide +kernel), List.mem_of_getElem? (i := 1870) (by decide +kernel)⟩
def lw_privs_5 : List (MethodName × Nat) := [(⟨"FloatTownsModel", "waitsFor", "(I)V"⟩, 87), (⟨"FloatTownsModel", "isCounted", "()Z"⟩, 87), (⟨"FloatTownsModel", "grown", "(III)V"⟩, 87), (⟨"FloatTownsModel", "signs", "()Z"⟩, 87), (⟨"FloatTownsModel", "bindSigns", "(I)V"⟩, 87), (⟨"FloatTownsModel", "dropHeld", "()I"⟩, 87), (⟨"FloatTownsModel", "groundLine", "()Z"⟩, 87), (⟨"FloatTownsModel", "stormLine", "()Z"⟩, 87), (⟨"FloatTownsModel", "isSort", "(I)Z"⟩, 87), (⟨"FloatTownsModel", "fails", "(I)I"⟩, 87), (⟨"FloatTownsModel", "isTown", "(I)Z"⟩, 87), (⟨"FloatTownsModel", "layCrew", "(I)V"⟩, 87), (⟨"FloatTownsModel", "layGiven", "(I)V"⟩, 87), (⟨"FloatTownsModel", "isVoted", "(I)Z"⟩, 87), (⟨"FloatTownsModel", "isPlace", "(I)Z"⟩, 87), (⟨"FloatTownsModel", "worthAt", "(IIZ)J"⟩, 87)]
theorem lw_r5 : ∀ q ∈ lw_privs_5, lw_okq q := List.forall_mem_cons.mpr ⟨lw_p64, List.forall_mem_cons.mpr ⟨lw_p65, List.forall_mem_cons.mpr ⟨lw_p66, List.forall_mem_cons.mpr ⟨lw_p67, List.forall_mem_cons.mpr ⟨lw_p68, List.forall_mem_cons.mpr ⟨lw_p69, List.forall_mem_cons.mpr ⟨lw_p70, List.forall_mem_cons.mpr ⟨lw_p71, List.forall_mem_cons.mpr ⟨lw_p72, List.forall_mem_cons.mpr ⟨lw_p73, List.forall_mem_cons.mpr ⟨lw_p74, List.forall_mem_cons.mpr ⟨lw_p75, List.forall_mem_cons.mpr ⟨lw_p76, List.forall_mem_cons.mpr ⟨lw_p77, List.forall_mem_cons.mpr ⟨lw_p78, List.forall_mem_cons.mpr ⟨lw_p79, fun _ h => absurd h List.not_mem_nil⟩⟩⟩⟩⟩⟩⟩⟩⟩⟩⟩⟩⟩⟩⟩⟩
theorem lw_p80 : lw_okq (⟨"FloatTownsModel", "aloneOf", "(I)J"⟩, 87) := ⟨⟨by decide +kernel, by decide +kernel⟩, List.mem_of_getElem? (i := 1401) (by decide +kernel), List.mem_of_getElem? (i := 1873) (by decide +kernel), List.mem_of_getElem? (i := 1874) (by decide +kernel)⟩
theorem lw_p81 : lw_okq (⟨"FloatTownsModel", "worthOf", "(II)J"⟩, 87) := ⟨⟨by decide +kernel, by decide +kernel⟩, List.mem_of_getElem? (i := 1401) (by decide +kernel), List.mem_of_getElem? (i := 1878) (by decide +kernel), List.mem_of_getElem? (i := 1879) (by decide +kernel)⟩
theorem lw_p82 : lw_okq (⟨"FloatTownsModel", "askedOf", "(II)J"⟩, 87) := ⟨⟨by decide +kernel, by decide +kernel⟩, List.mem_of_getElem? (i := 1401) (by decide +kernel), List.mem_of_getElem? (i := 1882) (by decide +kernel), List.mem_of_getElem? (i := 1883) (by decide +kernel)⟩
theorem lw_p83 : lw_okq (⟨"FloatTownsModel", "valueOf", "(II)J"⟩, 87) := ⟨⟨by decide +kernel, by decide +kernel⟩, List.mem_of_getElem? (i := 1401) (by decide +kernel), List.mem_of_getElem? (i := 1886) (by decide +kernel), List.mem_of_getElem? (i := 1887) (by decide +kernel)⟩
theorem lw_p84 : lw_okq (⟨"FloatTownsModel", "nameOf", "(II)J"⟩, 87) := ⟨⟨by decide +kernel, by decide +kernel⟩, List.mem_of_getElem? (i := 1401) (by decide +kernel), List.mem_of_getElem? (i := 1890) (by decide +kernel), List.mem_of_getElem? (i := 1891) (by decide +kernel)⟩
theorem lw_p85 : lw_okq (⟨"FloatTownsModel", "bounded", "(J)J"⟩, 87) := ⟨⟨by decide +kernel, by decide +kernel⟩, List.mem_of_getElem? (i := 1401) (by decide +kernel), List.mem_of_getElem? (i := 1894) (by decide +kernel), List.mem_of_getElem? (i := 1895) (by decide +kernel)⟩
theorem lw_p86 : lw_okq (⟨"FloatTownsModel", "times", "(JJ)J"⟩, 87) := ⟨⟨by decide +kernel, by decide +kernel⟩, List.mem_of_getElem? (i := 1401) (by decide +kernel), List.mem_of_getElem? (i := 1900) (by decide +kernel), List.mem_of_getElem? (i := 1901) (by decide +kernel)⟩
theorem lw_p87 : lw_okq (⟨"FloatTownsModel", "divided", "(JJ)J"⟩, 87) := ⟨⟨by decide +kernel, by decide +kernel⟩, List.mem_of_getElem? (i := 1401) (by decide +kernel), List.mem_of_getElem? (i := 1908) (by decide +kernel), List.mem_of_getElem? (i := 1909) (by decide +kernel)⟩
theorem lw_p88 : lw_okq (⟨"FloatTownsModel", "mayGo", "(III)Z"⟩, 87) := ⟨⟨by decide +kernel, by decide +kernel⟩, List.mem_of_getElem? (i := 1401) (by decide +kernel), List.mem_of_getElem? (i := 1920) (by decide +kernel), List.mem_of_getElem? (i := 1921) (by decide +kernel)⟩
theorem lw_p89 : lw_okq (⟨"FloatTownsModel", "gainOf", "(III)J"⟩, 87) := ⟨⟨by decide +kernel, by decide +kernel⟩, List.mem_of_getElem? (i := 1401) (by decide +kernel), List.mem_of_getElem? (i := 1924) (by decide +kernel), List.mem_of_getElem? (i := 1925) (by decide +kernel)⟩
theorem lw_p90 : lw_okq (⟨"FloatTownsModel", "remembers", "()V"⟩, 87) := ⟨⟨by decide +kernel, by decide +kernel⟩, List.mem_of_getElem? (i := 1401) (by decide +kernel), List.mem_of_getElem? (i := 1932) (by decide +kernel), List.mem_of_getElem? (i := 1933) (by decide +kernel)⟩
theorem lw_p91 : lw_okq (⟨"FloatTownsModel", "lays", "([II)V"⟩, 87) := ⟨⟨by decide +kernel, by decide +kernel⟩, List.mem_of_getElem? (i := 1401) (by decide +kernel), List.mem_of_getElem? (i := 1936) (by decide +kernel), List.mem_of_getElem? (i := 1937) (by decide +kernel)⟩
theorem lw_p92 : lw_okq (⟨"FloatTownsModel", "goes", "(III)V"⟩, 87) := ⟨⟨by decide +kernel, by decide +kernel⟩, List.mem_of_getElem? (i := 1401) (by decide +kernel), List.mem_of_getElem? (i := 1940) (by decide +kernel), List.mem_of_getElem? (i := 1941) (by decide +kernel)⟩
theorem lw_p93 : lw_okq (⟨"FloatTownsModel", "findFirst", "()Z"⟩, 87) := ⟨⟨by decide +kernel, by decide +kernel⟩, List.mem_of_getElem? (i := 1401) (by decide +kernel), List.mem_of_getElem? (i := 1948) (by decide +kernel), List.mem_of_getElem? (i := 1949) (by decide +kernel)⟩
theorem lw_p94 : lw_okq (⟨"FloatTownsModel", "isFast", "(I)Z"⟩, 87) := ⟨⟨by decide +kernel, by decide +kernel⟩, List.mem_of_getElem? (i := 1401) (by decide +kernel), List.mem_of_getElem? (i := 1952) (by decide +kernel), List.mem_of_getElem? (i := 1953) (by decide +kernel)⟩
theorem lw_p95 : lw_okq (⟨"FloatTownsModel", "layGroup", "(II)Z"⟩, 87) := ⟨⟨by decide +kernel, by decide +kernel⟩, List.mem_of_getElem? (i := 1401) (by decide +kernel), List.mem_of_getElem? (i := 1960) (by decide +kernel), List.mem_of_getElem? (i := 1961) (by decide +kernel)⟩
def lw_privs_6 : List (MethodName × Nat) := [(⟨"FloatTownsModel", "aloneOf", "(I)J"⟩, 87), (⟨"FloatTownsModel", "worthOf", "(II)J"⟩, 87), (⟨"FloatTownsModel", "askedOf", "(II)J"⟩, 87), (⟨"FloatTownsModel", "valueOf", "(II)J"⟩, 87), (⟨"FloatTownsModel", "nameOf", "(II)J"⟩, 87), (⟨"FloatTownsModel", "bounded", "(J)J"⟩, 87), (⟨"FloatTownsModel", "times", "(JJ)J"⟩, 87), (⟨"FloatTownsModel", "divided", "(JJ)J"⟩, 87), (⟨"FloatTownsModel", "mayGo", "(III)Z"⟩, 87), (⟨"FloatTownsModel", "gainOf", "(III)J"⟩, 87), (⟨"FloatTownsModel", "remembers", "()V"⟩, 87), (⟨"FloatTownsModel", "lays", "([II)V"⟩, 87), (⟨"FloatTownsModel", "goes", "(III)V"⟩, 87), (⟨"FloatTownsModel", "findFirst", "()Z"⟩, 87), (⟨"FloatTownsModel", "isFast", "(I)Z"⟩, 87), (⟨"FloatTownsModel", "layGroup", "(II)Z"⟩, 87)]
theorem lw_r6 : ∀ q ∈ lw_privs_6, lw_okq q := List.forall_mem_cons.mpr ⟨lw_p80, List.forall_mem_cons.mpr ⟨lw_p81, List.forall_mem_cons.mpr ⟨lw_p82, List.forall_mem_cons.mpr ⟨lw_p83, List.forall_mem_cons.mpr ⟨lw_p84, List.forall_mem_cons.mpr ⟨lw_p85, List.forall_mem_cons.mpr ⟨lw_p86, List.forall_mem_cons.mpr ⟨lw_p87, List.forall_mem_cons.mpr ⟨lw_p88, List.forall_mem_cons.mpr ⟨lw_p89, List.forall_mem_cons.mpr ⟨lw_p90, List.forall_mem_cons.mpr ⟨lw_p91, List.forall_mem_cons.mpr ⟨lw_p92, List.forall_mem_cons.mpr ⟨lw_p93, List.forall_mem_cons.mpr ⟨lw_p94, List.forall_mem_cons.mpr ⟨lw_p95, fun _ h => absurd h List.not_mem_nil⟩⟩⟩⟩⟩⟩⟩⟩⟩⟩⟩⟩⟩⟩⟩⟩
theorem lw_p96 : lw_okq (⟨"FloatTownsModel", "groupWould", "(II)Z"⟩, 87) := ⟨⟨by decide +kernel, by decide +kernel⟩, List.mem_of_getElem? (i := 1401) (by decide +kernel), List.mem_of_getElem? (i := 1964) (by decide +kernel), List.mem_of_getElem? (i := 1965) (by decide +kernel)⟩
theorem lw_p97 : lw_okq (⟨"FloatTownsModel", "moves", "(III)V"⟩, 87) := ⟨⟨by decide +kernel, by decide +kernel⟩, List.mem_of_getElem? (i := 1401) (by decide +kernel), List.mem_of_getElem? (i := 1968) (by decide +kernel), List.mem_of_getElem? (i := 1969) (by decide +kernel)⟩
theorem lw_p98 : lw_okq (⟨"FloatTownsModel", "findParty", "(I)Z"⟩, 87) := ⟨⟨by decide +kernel, by decide +kernel⟩, List.mem_of_getElem? (i := 1401) (by decide +kernel), List.mem_of_getElem? (i := 1976) (by decide +kernel), List.mem_of_getElem? (i := 1977) (by decide +kernel)⟩
theorem lw_p99 : lw_okq (⟨"FloatTownsModel", "groupAnywhere", "()Z"⟩, 87) := ⟨⟨by decide +kernel, by decide +kernel⟩, List.mem_of_getElem? (i := 1401) (by decide +kernel), List.mem_of_getElem? (i := 1980) (by decide +kernel), List.mem_of_getElem? (i := 1981) (by decide +kernel)⟩
theorem lw_p100 : lw_okq (⟨"FloatTownsModel", "nextGroup", "()Z"⟩, 87) := ⟨⟨by decide +kernel, by decide +kernel⟩, List.mem_of_getElem? (i := 1401) (by decide +kernel), List.mem_of_getElem? (i := 1984) (by decide +kernel), List.mem_of_getElem? (i := 1985) (by decide +kernel)⟩
theorem lw_p101 : lw_okq (⟨"FloatTownsModel", "groupNumber", "()I"⟩, 87) := ⟨⟨by decide +kernel, by decide +kernel⟩, List.mem_of_getElem? (i := 1401) (by decide +kernel), List.mem_of_getElem? (i := 1988) (by decide +kernel), List.mem_of_getElem? (i := 1989) (by decide +kernel)⟩
theorem lw_p102 : lw_okq (⟨"FloatTownsModel", "goingsNow", "(I)I"⟩, 87) := ⟨⟨by decide +kernel, by decide +kernel⟩, List.mem_of_getElem? (i := 1401) (by decide +kernel), List.mem_of_getElem? (i := 1996) (by decide +kernel), List.mem_of_getElem? (i := 1997) (by decide +kernel)⟩
theorem lw_p103 : lw_okq (⟨"FloatTownsModel", "keepNow", "()V"⟩, 87) := ⟨⟨by decide +kernel, by decide +kernel⟩, List.mem_of_getElem? (i := 1401) (by decide +kernel), List.mem_of_getElem? (i := 2004) (by decide +kernel), List.mem_of_getElem? (i := 2005) (by decide +kernel)⟩
theorem lw_p104 : lw_okq (⟨"FloatTownsModel", "findEnd", "()V"⟩, 87) := ⟨⟨by decide +kernel, by decide +kernel⟩, List.mem_of_getElem? (i := 1401) (by decide +kernel), List.mem_of_getElem? (i := 2008) (by decide +kernel), List.mem_of_getElem? (i := 2009) (by decide +kernel)⟩
theorem lw_p105 : lw_okq (⟨"FloatTownsModel", "isBeen", "(I)Z"⟩, 87) := ⟨⟨by decide +kernel, by decide +kernel⟩, List.mem_of_getElem? (i := 1401) (by decide +kernel), List.mem_of_getElem? (i := 2012) (by decide +kernel), List.mem_of_getElem? (i := 2013) (by decide +kernel)⟩
theorem lw_p106 : lw_okq (⟨"FloatTownsModel", "takeKept", "()V"⟩, 87) := ⟨⟨by decide +kernel, by decide +kernel⟩, List.mem_of_getElem? (i := 1401) (by decide +kernel), List.mem_of_getElem? (i := 2016) (by decide +kernel), List.mem_of_getElem? (i := 2017) (by decide +kernel)⟩
theorem lw_p107 : lw_okq (⟨"FloatTownsModel", "partings", "()I"⟩, 87) := ⟨⟨by decide +kernel, by decide +kernel⟩, List.mem_of_getElem? (i := 1401) (by decide +kernel), List.mem_of_getElem? (i := 2024) (by decide +kernel), List.mem_of_getElem? (i := 2025) (by decide +kernel)⟩
theorem lw_p108 : lw_okq (⟨"FloatTownsModel", "firstParting", "()V"⟩, 87) := ⟨⟨by decide +kernel, by decide +kernel⟩, List.mem_of_getElem? (i := 1401) (by decide +kernel), List.mem_of_getElem? (i := 2032) (by decide +kernel), List.mem_of_getElem? (i := 2033) (by decide +kernel)⟩
theorem lw_p109 : lw_okq (⟨"FloatTownsModel", "aloneAll", "(I)V"⟩, 87) := ⟨⟨by decide +kernel, by decide +kernel⟩, List.mem_of_getElem? (i := 1401) (by decide +kernel), List.mem_of_getElem? (i := 2036) (by decide +kernel), List.mem_of_getElem? (i := 2037) (by decide +kernel)⟩
theorem lw_p110 : lw_okq (⟨"FloatTownsModel", "nextParting", "()Z"⟩, 87) := ⟨⟨by decide +kernel, by decide +kernel⟩, List.mem_of_getElem? (i := 1401) (by decide +kernel), List.mem_of_getElem? (i := 2040) (by decide +kernel), List.mem_of_getElem? (i := 2041) (by decide +kernel)⟩
theorem lw_p111 : lw_okq (⟨"FloatTownsModel", "nextWay", "(I)Z"⟩, 87) := ⟨⟨by decide +kernel, by decide +kernel⟩, List.mem_of_getElem? (i := 1401) (by decide +kernel), List.mem_of_getElem? (i := 2044) (by decide +kernel), List.mem_of_getElem? (i := 2045) (by decide +kernel)⟩
def lw_privs_7 : List (MethodName × Nat) := [(⟨"FloatTownsModel", "groupWould", "(II)Z"⟩, 87), (⟨"FloatTownsModel", "moves", "(III)V"⟩, 87), (⟨"FloatTownsModel", "findParty", "(I)Z"⟩, 87), (⟨"FloatTownsModel", "groupAnywhere", "()Z"⟩, 87), (⟨"FloatTownsModel", "nextGroup", "()Z"⟩, 87), (⟨"FloatTownsModel", "groupNumber", "()I"⟩, 87), (⟨"FloatTownsModel", "goingsNow", "(I)I"⟩, 87), (⟨"FloatTownsModel", "keepNow", "()V"⟩, 87), (⟨"FloatTownsModel", "findEnd", "()V"⟩, 87), (⟨"FloatTownsModel", "isBeen", "(I)Z"⟩, 87), (⟨"FloatTownsModel", "takeKept", "()V"⟩, 87), (⟨"FloatTownsModel", "partings", "()I"⟩, 87), (⟨"FloatTownsModel", "firstParting", "()V"⟩, 87), (⟨"FloatTownsModel", "aloneAll", "(I)V"⟩, 87), (⟨"FloatTownsModel", "nextParting", "()Z"⟩, 87), (⟨"FloatTownsModel", "nextWay", "(I)Z"⟩, 87)]
theorem lw_r7 : ∀ q ∈ lw_privs_7, lw_okq q := List.forall_mem_cons.mpr ⟨lw_p96, List.forall_mem_cons.mpr ⟨lw_p97, List.forall_mem_cons.mpr ⟨lw_p98, List.forall_mem_cons.mpr ⟨lw_p99, List.forall_mem_cons.mpr ⟨lw_p100, List.forall_mem_cons.mpr ⟨lw_p101, List.forall_mem_cons.mpr ⟨lw_p102, List.forall_mem_cons.mpr ⟨lw_p103, List.forall_mem_cons.mpr ⟨lw_p104, List.forall_mem_cons.mpr ⟨lw_p105, List.forall_mem_cons.mpr ⟨lw_p106, List.forall_mem_cons.mpr ⟨lw_p107, List.forall_mem_cons.mpr ⟨lw_p108, List.forall_mem_cons.mpr ⟨lw_p109, List.forall_mem_cons.mpr ⟨lw_p110, List.forall_mem_cons.mpr ⟨lw_p111, fun _ h => absurd h List.not_mem_nil⟩⟩⟩⟩⟩⟩⟩⟩⟩⟩⟩⟩⟩⟩⟩⟩
theorem lw_p112 : lw_okq (⟨"FloatTownsModel", "totalNow", "()J"⟩, 87) := ⟨⟨by decide +kernel, by decide +kernel⟩, List.mem_of_getElem? (i := 1401) (by decide +kernel), List.mem_of_getElem? (i := 2056) (by decide +kernel), List.mem_of_getElem? (i := 2057) (by decide +kernel)⟩
theorem lw_p113 : lw_okq (⟨"FloatTownsModel", "findBest", "(I)V"⟩, 87) := ⟨⟨by decide +kernel, by decide +kernel⟩, List.mem_of_getElem? (i := 1401) (by decide +kernel), List.mem_of_getElem? (i := 2065) (by decide +kernel), List.mem_of_getElem? (i := 2066) (by decide +kernel)⟩
theorem lw_p114 : lw_okq (⟨"FloatTownsModel", "crewOf", "(I)I"⟩, 87) := ⟨⟨by decide +kernel, by decide +kernel⟩, List.mem_of_getElem? (i := 1401) (by decide +kernel), List.mem_of_getElem? (i := 2089) (by decide +kernel), List.mem_of_getElem? (i := 2090) (by decide +kernel)⟩
theorem lw_p115 : lw_okq (⟨"FloatTownsModel", "isMet", "(I)Z"⟩, 87) := ⟨⟨by decide +kernel, by decide +kernel⟩, List.mem_of_getElem? (i := 1401) (by decide +kernel), List.mem_of_getElem? (i := 2097) (by decide +kernel), List.mem_of_getElem? (i := 2098) (by decide +kernel)⟩
theorem lw_p116 : lw_okq (⟨"FloatTownsModel", "sumOf", "(I)J"⟩, 87) := ⟨⟨by decide +kernel, by decide +kernel⟩, List.mem_of_getElem? (i := 1401) (by decide +kernel), List.mem_of_getElem? (i := 2109) (by decide +kernel), List.mem_of_getElem? (i := 2110) (by decide +kernel)⟩
theorem lw_p117 : lw_okq (⟨"FloatTownsModel", "nextOf", "(I)Z"⟩, 87) := ⟨⟨by decide +kernel, by decide +kernel⟩, List.mem_of_getElem? (i := 1401) (by decide +kernel), List.mem_of_getElem? (i := 2113) (by decide +kernel), List.mem_of_getElem? (i := 2114) (by decide +kernel)⟩
theorem lw_p118 : lw_okq (⟨"FloatTownsModel", "lies", "(III)Z"⟩, 87) := ⟨⟨by decide +kernel, by decide +kernel⟩, List.mem_of_getElem? (i := 1401) (by decide +kernel), List.mem_of_getElem? (i := 2121) (by decide +kernel), List.mem_of_getElem? (i := 2122) (by decide +kernel)⟩
theorem lw_p119 : lw_okq (⟨"FloatTownsModel", "steps", "(IIII)Z"⟩, 87) := ⟨⟨by decide +kernel, by decide +kernel⟩, List.mem_of_getElem? (i := 1401) (by decide +kernel), List.mem_of_getElem? (i := 2125) (by decide +kernel), List.mem_of_getElem? (i := 2126) (by decide +kernel)⟩
theorem lw_p120 : lw_okq (⟨"FloatTownsModel", "month", "()V"⟩, 87) := ⟨⟨by decide +kernel, by decide +kernel⟩, List.mem_of_getElem? (i := 1401) (by decide +kernel), List.mem_of_getElem? (i := 2133) (by decide +kernel), List.mem_of_getElem? (i := 2134) (by decide +kernel)⟩
theorem lw_p121 : lw_okq (⟨"FloatTownsModel", "takes", "([II)V"⟩, 87) := ⟨⟨by decide +kernel, by decide +kernel⟩, List.mem_of_getElem? (i := 1401) (by decide +kernel), List.mem_of_getElem? (i := 2153) (by decide +kernel), List.mem_of_getElem? (i := 2154) (by decide +kernel)⟩
def lw_privs_8 : List (MethodName × Nat) := [(⟨"FloatTownsModel", "totalNow", "()J"⟩, 87), (⟨"FloatTownsModel", "findBest", "(I)V"⟩, 87), (⟨"FloatTownsModel", "crewOf", "(I)I"⟩, 87), (⟨"FloatTownsModel", "isMet", "(I)Z"⟩, 87), (⟨"FloatTownsModel", "sumOf", "(I)J"⟩, 87), (⟨"FloatTownsModel", "nextOf", "(I)Z"⟩, 87), (⟨"FloatTownsModel", "lies", "(III)Z"⟩, 87), (⟨"FloatTownsModel", "steps", "(IIII)Z"⟩, 87), (⟨"FloatTownsModel", "month", "()V"⟩, 87), (⟨"FloatTownsModel", "takes", "([II)V"⟩, 87)]
theorem lw_r8 : ∀ q ∈ lw_privs_8, lw_okq q := List.forall_mem_cons.mpr ⟨lw_p112, List.forall_mem_cons.mpr ⟨lw_p113, List.forall_mem_cons.mpr ⟨lw_p114, List.forall_mem_cons.mpr ⟨lw_p115, List.forall_mem_cons.mpr ⟨lw_p116, List.forall_mem_cons.mpr ⟨lw_p117, List.forall_mem_cons.mpr ⟨lw_p118, List.forall_mem_cons.mpr ⟨lw_p119, List.forall_mem_cons.mpr ⟨lw_p120, List.forall_mem_cons.mpr ⟨lw_p121, fun _ h => absurd h List.not_mem_nil⟩⟩⟩⟩⟩⟩⟩⟩⟩⟩
def lw_privs : List (MethodName × Nat) := lw_privs_1 ++ (lw_privs_2 ++ (lw_privs_3 ++ (lw_privs_4 ++ (lw_privs_5 ++ (lw_privs_6 ++ (lw_privs_7 ++ (lw_privs_8)))))))
def lw_tbl : List Cond := k2_sels lw_privs ++ tables_1
theorem lw_privs_ok : ∀ q ∈ lw_privs, lw_okq q := by
  show ∀ q ∈ lw_privs_1 ++ (lw_privs_2 ++ (lw_privs_3 ++ (lw_privs_4 ++ (lw_privs_5 ++ (lw_privs_6 ++ (lw_privs_7 ++ (lw_privs_8))))))), lw_okq q
  exact List.forall_mem_append.mpr ⟨lw_r1, List.forall_mem_append.mpr ⟨lw_r2, List.forall_mem_append.mpr ⟨lw_r3, List.forall_mem_append.mpr ⟨lw_r4, List.forall_mem_append.mpr ⟨lw_r5, List.forall_mem_append.mpr ⟨lw_r6, List.forall_mem_append.mpr ⟨lw_r7, lw_r8⟩⟩⟩⟩⟩⟩⟩
def RX0 : String := "FloatTowns$Course"
def TX0 : u_T := fun k => match k with
  | 0 => ("FloatTowns$Course", "end", "I", false)
  | 1 => ("FloatTowns$Course", "behind", "I", false)
  | 2 => ("FloatTowns$Course", "period", "I", false)
  | 3 => ("FloatTowns$Course", "sailing", "LFloatTowns$Sailing;", true)
  | 4 => ("FloatTowns$Course", "seen", "[J", true)
  | 5 => ("FloatTowns$Course", "path", "LFloatTowns$Scene;", true)
  | 6 => ("FloatTowns$Course", "terms", "LFloatTowns$Scene;", true)
  | _ => ("FloatTowns$Course", "chance", "J", false)
def tyX0 : Nat → FieldType := fun k => match k with
  | 0 => .int
  | 1 => .int
  | 2 => .int
  | 3 => .object "FloatTowns$Sailing"
  | 4 => .array .long
  | 5 => .object "FloatTowns$Scene"
  | 6 => .object "FloatTowns$Scene"
  | _ => .long
abbrev wsX00 : List Cond := u_ws RX0 TX0 8
theorem nmX0 : ∀ a, a < 8 → ∀ b, b < 8 → a ≠ b → (TX0 a).2.1 ≠ (TX0 b).2.1 := by decide +kernel
theorem tyX0_ok : ∀ k, k < 8 → parseFieldDescriptor (TX0 k).2.2.1 = some (tyX0 k) := by decide +kernel
abbrev cX0_init : ByteArray := prog_2_method_1_code
def yX0_init : MethodName := ⟨RX0, "<init>", "(LFloatTowns$Sailing;)V"⟩
abbrev cX0_sail : ByteArray := prog_2_method_2_code
def yX0_sail : MethodName := ⟨RX0, "sail", "(LFloatTowns$Scene;I)I"⟩
abbrev cX0_trace : ByteArray := prog_2_method_3_code
def yX0_trace : MethodName := ⟨RX0, "trace", "(LFloatTowns$Scene;)V"⟩
abbrev cX0_seenBefore : ByteArray := prog_2_method_4_code
def yX0_seenBefore : MethodName := ⟨RX0, "seenBefore", "(I)I"⟩
abbrev cX0_leastEmptying : ByteArray := prog_2_method_5_code
def yX0_leastEmptying : MethodName := ⟨RX0, "leastEmptying", "(LFloatTowns$Scene;I)I"⟩
abbrev cX0_sow : ByteArray := prog_2_method_6_code
def yX0_sow : MethodName := ⟨RX0, "sow", "(I)V"⟩
abbrev cX0_pass : ByteArray := prog_2_method_7_code
def yX0_pass : MethodName := ⟨RX0, "pass", "(LFloatTowns$Scene;I)V"⟩
abbrev cX0_emptyDraws : ByteArray := prog_2_method_8_code
def yX0_emptyDraws : MethodName := ⟨RX0, "emptyDraws", "(LFloatTowns$Scene;III)I"⟩
abbrev cX0_nextNumber : ByteArray := prog_2_method_9_code
def yX0_nextNumber : MethodName := ⟨RX0, "nextNumber", "()J"⟩
def RX1 : String := "FloatTowns$Grounds"
def TX1 : u_T := fun k => match k with
  | 0 => ("FloatTowns$Grounds", "wide", "[I", true)
  | 1 => ("FloatTowns$Grounds", "high", "[I", true)
  | 2 => ("FloatTowns$Grounds", "rows", "[I", true)
  | _ => ("FloatTowns$Grounds", "moved", "[I", true)
def tyX1 : Nat → FieldType := fun k => match k with
  | 0 => .array .int
  | 1 => .array .int
  | 2 => .array .int
  | _ => .array .int
abbrev wsX10 : List Cond := u_ws RX1 TX1 4
theorem nmX1 : ∀ a, a < 4 → ∀ b, b < 4 → a ≠ b → (TX1 a).2.1 ≠ (TX1 b).2.1 := by decide +kernel
theorem tyX1_ok : ∀ k, k < 4 → parseFieldDescriptor (TX1 k).2.2.1 = some (tyX1 k) := by decide +kernel
abbrev cX1_init : ByteArray := prog_3_method_1_code
def yX1_init : MethodName := ⟨RX1, "<init>", "()V"⟩
abbrev cX1_wipeGrounds : ByteArray := prog_3_method_2_code
def yX1_wipeGrounds : MethodName := ⟨RX1, "wipeGrounds", "()V"⟩
abbrev cX1_isTold : ByteArray := prog_3_method_3_code
def yX1_isTold : MethodName := ⟨RX1, "isTold", "(I)Z"⟩
abbrev cX1_readRows : ByteArray := prog_3_method_4_code
def yX1_readRows : MethodName := ⟨RX1, "readRows", "(LFloatTowns$Tokens;I)V"⟩
abbrev cX1_hasPlace : ByteArray := prog_3_method_5_code
def yX1_hasPlace : MethodName := ⟨RX1, "hasPlace", "(III)Z"⟩
abbrev cX1_isTaken : ByteArray := prog_3_method_6_code
def yX1_isTaken : MethodName := ⟨RX1, "isTaken", "(III)Z"⟩
abbrev cX1_leastMoved : ByteArray := prog_3_method_7_code
def yX1_leastMoved : MethodName := ⟨RX1, "leastMoved", "(III)I"⟩
abbrev cX1_spread : ByteArray := prog_3_method_8_code
def yX1_spread : MethodName := ⟨RX1, "spread", "(I)Z"⟩
abbrev cX1_movedAt : ByteArray := prog_3_method_9_code
def yX1_movedAt : MethodName := ⟨RX1, "movedAt", "(III)I"⟩
def RX2 : String := "FloatTowns$History"
def TX2 : u_T := fun k => match k with
  | 0 => ("FloatTowns$History", "scenes", "[LFloatTowns$Scene;", true)
  | 1 => ("FloatTowns$History", "image", "LFloatTowns$Scene;", true)
  | 2 => ("FloatTowns$History", "hasImage", "Z", false)
  | 3 => ("FloatTowns$History", "steps", "I", false)
  | _ => ("FloatTowns$History", "next", "I", false)
def tyX2 : Nat → FieldType := fun k => match k with
  | 0 => .array (.object "FloatTowns$Scene")
  | 1 => .object "FloatTowns$Scene"
  | 2 => .boolean
  | 3 => .int
  | _ => .int
abbrev wsX20 : List Cond := u_ws RX2 TX2 5
theorem nmX2 : ∀ a, a < 5 → ∀ b, b < 5 → a ≠ b → (TX2 a).2.1 ≠ (TX2 b).2.1 := by decide +kernel
theorem tyX2_ok : ∀ k, k < 5 → parseFieldDescriptor (TX2 k).2.2.1 = some (tyX2 k) := by decide +kernel
abbrev cX2_init : ByteArray := prog_4_method_1_code
def yX2_init : MethodName := ⟨RX2, "<init>", "()V"⟩
abbrev cX2_forget : ByteArray := prog_4_method_2_code
def yX2_forget : MethodName := ⟨RX2, "forget", "()V"⟩
abbrev cX2_steps : ByteArray := prog_4_method_3_code
def yX2_steps : MethodName := ⟨RX2, "steps", "()I"⟩
abbrev cX2_record : ByteArray := prog_4_method_4_code
def yX2_record : MethodName := ⟨RX2, "record", "(LFloatTowns$Scene;)V"⟩
abbrev cX2_stepBack : ByteArray := prog_4_method_5_code
def yX2_stepBack : MethodName := ⟨RX2, "stepBack", "(LFloatTowns$Scene;)Z"⟩
abbrev cX2_keepImage : ByteArray := prog_4_method_6_code
def yX2_keepImage : MethodName := ⟨RX2, "keepImage", "(LFloatTowns$Scene;)V"⟩
abbrev cX2_showImage : ByteArray := prog_4_method_7_code
def yX2_showImage : MethodName := ⟨RX2, "showImage", "(LFloatTowns$Scene;)Z"⟩
def RX3 : String := "FloatTowns$Ledger"
def TX3 : u_T := fun k => match k with
  | 0 => ("FloatTowns$Ledger", "given", "[I", true)
  | 1 => ("FloatTowns$Ledger", "crews", "I", false)
  | 2 => ("FloatTowns$Ledger", "liked", "[I", true)
  | 3 => ("FloatTowns$Ledger", "ruled", "[J", true)
  | 4 => ("FloatTowns$Ledger", "weights", "[I", true)
  | _ => ("FloatTowns$Ledger", "plan", "LFloatTowns$Plan;", false)
def tyX3 : Nat → FieldType := fun k => match k with
  | 0 => .array .int
  | 1 => .int
  | 2 => .array .int
  | 3 => .array .long
  | 4 => .array .int
  | _ => .object "FloatTowns$Plan"
abbrev wsX30 : List Cond := u_ws RX3 TX3 6
theorem nmX3 : ∀ a, a < 6 → ∀ b, b < 6 → a ≠ b → (TX3 a).2.1 ≠ (TX3 b).2.1 := by decide +kernel
theorem tyX3_ok : ∀ k, k < 6 → parseFieldDescriptor (TX3 k).2.2.1 = some (tyX3 k) := by decide +kernel
abbrev cX3_init : ByteArray := prog_5_method_1_code
def yX3_init : MethodName := ⟨RX3, "<init>", "()V"⟩
abbrev cX3_workOut : ByteArray := prog_5_method_2_code
def yX3_workOut : MethodName := ⟨RX3, "workOut", "(LFloatTowns$Plan;)V"⟩
abbrev cX3_crewOfNumber : ByteArray := prog_5_method_3_code
def yX3_crewOfNumber : MethodName := ⟨RX3, "crewOfNumber", "(I)I"⟩
abbrev cX3_row : ByteArray := prog_5_method_4_code
def yX3_row : MethodName := ⟨RX3, "row", "(II)I"⟩
abbrev cX3_spareRow : ByteArray := prog_5_method_5_code
def yX3_spareRow : MethodName := ⟨RX3, "spareRow", "(II)I"⟩
abbrev cX3_likedBy : ByteArray := prog_5_method_6_code
def yX3_likedBy : MethodName := ⟨RX3, "likedBy", "(II)J"⟩
abbrev cX3_ruledFor : ByteArray := prog_5_method_7_code
def yX3_ruledFor : MethodName := ⟨RX3, "ruledFor", "(II)J"⟩
abbrev cX3_write : ByteArray := prog_5_method_8_code
def yX3_write : MethodName := ⟨RX3, "write", "(III)V"⟩
abbrev cX3_likedIn : ByteArray := prog_5_method_9_code
def yX3_likedIn : MethodName := ⟨RX3, "likedIn", "(III)I"⟩
def RX4 : String := "FloatTowns$Plan"
def TX4 : u_T := fun k => match k with
  | 0 => ("FloatTowns$Plan", "told", "[I", true)
  | 1 => ("FloatTowns$Plan", "costs", "[I", true)
  | 2 => ("FloatTowns$Plan", "figures", "[I", true)
  | 3 => ("FloatTowns$Plan", "wants", "[I", true)
  | 4 => ("FloatTowns$Plan", "likes", "[I", true)
  | 5 => ("FloatTowns$Plan", "gives", "[I", true)
  | 6 => ("FloatTowns$Plan", "rules", "LFloatTowns$Rules;", true)
  | 7 => ("FloatTowns$Plan", "grounds", "LFloatTowns$Grounds;", true)
  | 8 => ("FloatTowns$Plan", "wantsTold", "I", false)
  | 9 => ("FloatTowns$Plan", "likesTold", "I", false)
  | 10 => ("FloatTowns$Plan", "votingTowns", "I", false)
  | 11 => ("FloatTowns$Plan", "boundTowns", "I", false)
  | 12 => ("FloatTowns$Plan", "storm", "I", false)
  | 13 => ("FloatTowns$Plan", "lines", "I", false)
  | 14 => ("FloatTowns$Plan", "floats", "I", false)
  | 15 => ("FloatTowns$Plan", "whole", "I", false)
  | _ => ("FloatTowns$Plan", "names", "[I", true)
def tyX4 : Nat → FieldType := fun k => match k with
  | 0 => .array .int
  | 1 => .array .int
  | 2 => .array .int
  | 3 => .array .int
  | 4 => .array .int
  | 5 => .array .int
  | 6 => .object "FloatTowns$Rules"
  | 7 => .object "FloatTowns$Grounds"
  | 8 => .int
  | 9 => .int
  | 10 => .int
  | 11 => .int
  | 12 => .int
  | 13 => .int
  | 14 => .int
  | 15 => .int
  | _ => .array .int
abbrev wsX40 : List Cond := u_ws RX4 TX4 17
theorem nmX4 : ∀ a, a < 17 → ∀ b, b < 17 → a ≠ b → (TX4 a).2.1 ≠ (TX4 b).2.1 := by decide +kernel
theorem tyX4_ok : ∀ k, k < 17 → parseFieldDescriptor (TX4 k).2.2.1 = some (tyX4 k) := by decide +kernel
abbrev cX4_init : ByteArray := prog_6_method_1_code
def yX4_init : MethodName := ⟨RX4, "<init>", "()V"⟩
abbrev cX4_wipe : ByteArray := prog_6_method_2_code
def yX4_wipe : MethodName := ⟨RX4, "wipe", "()V"⟩
abbrev cX4_find : ByteArray := prog_6_method_3_code
def yX4_find : MethodName := ⟨RX4, "find", "(II)I"⟩
abbrev cX4_addName : ByteArray := prog_6_method_4_code
def yX4_addName : MethodName := ⟨RX4, "addName", "(II)V"⟩
abbrev cX4_addFloats : ByteArray := prog_6_method_5_code
def yX4_addFloats : MethodName := ⟨RX4, "addFloats", "(II)V"⟩
abbrev cX4_figure : ByteArray := prog_6_method_6_code
def yX4_figure : MethodName := ⟨RX4, "figure", "(II)I"⟩
abbrev cX4_sorts : ByteArray := prog_6_method_7_code
def yX4_sorts : MethodName := ⟨RX4, "sorts", "()I"⟩
abbrev cX4_alone : ByteArray := prog_6_method_8_code
def yX4_alone : MethodName := ⟨RX4, "alone", "()I"⟩
abbrev cX4_crewAt : ByteArray := prog_6_method_9_code
def yX4_crewAt : MethodName := ⟨RX4, "crewAt", "(JI)I"⟩
abbrev cX4_shifted : ByteArray := prog_6_method_10_code
def yX4_shifted : MethodName := ⟨RX4, "shifted", "(JIII)J"⟩
abbrev cX4_crewOf : ByteArray := prog_6_method_11_code
def yX4_crewOf : MethodName := ⟨RX4, "crewOf", "(JI)I"⟩
abbrev cX4_inTown : ByteArray := prog_6_method_12_code
def yX4_inTown : MethodName := ⟨RX4, "inTown", "(II)J"⟩
abbrev cX4_sumOf : ByteArray := prog_6_method_13_code
def yX4_sumOf : MethodName := ⟨RX4, "sumOf", "(II)I"⟩
abbrev cX4_costOf : ByteArray := prog_6_method_14_code
def yX4_costOf : MethodName := ⟨RX4, "costOf", "(I)I"⟩
abbrev cX4_givenTo : ByteArray := prog_6_method_15_code
def yX4_givenTo : MethodName := ⟨RX4, "givenTo", "(II)I"⟩
def RX5 : String := "FloatTowns$Reader"
def TX5 : u_T := fun k => match k with
  | 0 => ("FloatTowns$Reader", "tokens", "LFloatTowns$Tokens;", true)
  | _ => ("FloatTowns$Reader", "plan", "LFloatTowns$Plan;", false)
def tyX5 : Nat → FieldType := fun k => match k with
  | 0 => .object "FloatTowns$Tokens"
  | _ => .object "FloatTowns$Plan"
abbrev wsX50 : List Cond := u_ws RX5 TX5 2
theorem nmX5 : ∀ a, a < 2 → ∀ b, b < 2 → a ≠ b → (TX5 a).2.1 ≠ (TX5 b).2.1 := by decide +kernel
theorem tyX5_ok : ∀ k, k < 2 → parseFieldDescriptor (TX5 k).2.2.1 = some (tyX5 k) := by decide +kernel
abbrev cX5_init : ByteArray := prog_7_method_1_code
def yX5_init : MethodName := ⟨RX5, "<init>", "(LFloatTowns$Tokens;)V"⟩
abbrev cX5_reads : ByteArray := prog_7_method_2_code
def yX5_reads : MethodName := ⟨RX5, "reads", "(ILFloatTowns$Plan;)Z"⟩
abbrev cX5_readGood : ByteArray := prog_7_method_3_code
def yX5_readGood : MethodName := ⟨RX5, "readGood", "()V"⟩
abbrev cX5_readFloat : ByteArray := prog_7_method_4_code
def yX5_readFloat : MethodName := ⟨RX5, "readFloat", "()V"⟩
abbrev cX5_readWant : ByteArray := prog_7_method_5_code
def yX5_readWant : MethodName := ⟨RX5, "readWant", "(I)V"⟩
abbrev cX5_readLiking : ByteArray := prog_7_method_6_code
def yX5_readLiking : MethodName := ⟨RX5, "readLiking", "()V"⟩
abbrev cX5_readTown : ByteArray := prog_7_method_7_code
def yX5_readTown : MethodName := ⟨RX5, "readTown", "()V"⟩
abbrev cX5_readGift : ByteArray := prog_7_method_8_code
def yX5_readGift : MethodName := ⟨RX5, "readGift", "(I)V"⟩
abbrev cX5_readGround : ByteArray := prog_7_method_9_code
def yX5_readGround : MethodName := ⟨RX5, "readGround", "()V"⟩
abbrev cX5_readStorm : ByteArray := prog_7_method_10_code
def yX5_readStorm : MethodName := ⟨RX5, "readStorm", "()V"⟩
abbrev cX5_newOne : ByteArray := prog_7_method_11_code
def yX5_newOne : MethodName := ⟨RX5, "newOne", "(II)I"⟩
abbrev cX5_oldOne : ByteArray := prog_7_method_12_code
def yX5_oldOne : MethodName := ⟨RX5, "oldOne", "(I)I"⟩
def RX6 : String := "FloatTowns$Rules"
def TX6 : u_T := fun k => match k with
  | 0 => ("FloatTowns$Rules", "meanings", "[J", true)
  | 1 => ("FloatTowns$Rules", "knots", "I", false)
  | 2 => ("FloatTowns$Rules", "steps", "[I", true)
  | 3 => ("FloatTowns$Rules", "starts", "[I", true)
  | 4 => ("FloatTowns$Rules", "ends", "[I", true)
  | 5 => ("FloatTowns$Rules", "values", "[J", true)
  | 6 => ("FloatTowns$Rules", "waiting", "[I", true)
  | 7 => ("FloatTowns$Rules", "written", "I", false)
  | 8 => ("FloatTowns$Rules", "waits", "I", false)
  | _ => ("FloatTowns$Rules", "open", "I", false)
def tyX6 : Nat → FieldType := fun k => match k with
  | 0 => .array .long
  | 1 => .int
  | 2 => .array .int
  | 3 => .array .int
  | 4 => .array .int
  | 5 => .array .long
  | 6 => .array .int
  | 7 => .int
  | 8 => .int
  | _ => .int
abbrev wsX60 : List Cond := u_ws RX6 TX6 10
theorem nmX6 : ∀ a, a < 10 → ∀ b, b < 10 → a ≠ b → (TX6 a).2.1 ≠ (TX6 b).2.1 := by decide +kernel
theorem tyX6_ok : ∀ k, k < 10 → parseFieldDescriptor (TX6 k).2.2.1 = some (tyX6 k) := by decide +kernel
abbrev cX6_init : ByteArray := prog_8_method_1_code
def yX6_init : MethodName := ⟨RX6, "<init>", "()V"⟩
abbrev cX6_wipeRules : ByteArray := prog_8_method_2_code
def yX6_wipeRules : MethodName := ⟨RX6, "wipeRules", "()V"⟩
abbrev cX6_readRule : ByteArray := prog_8_method_3_code
def yX6_readRule : MethodName := ⟨RX6, "readRule", "(LFloatTowns$Tokens;I)V"⟩
abbrev cX6_workedOut : ByteArray := prog_8_method_4_code
def yX6_workedOut : MethodName := ⟨RX6, "workedOut", "(I)J"⟩
abbrev cX6_readOperand : ByteArray := prog_8_method_5_code
def yX6_readOperand : MethodName := ⟨RX6, "readOperand", "(LFloatTowns$Tokens;)Z"⟩
abbrev cX6_readSign : ByteArray := prog_8_method_6_code
def yX6_readSign : MethodName := ⟨RX6, "readSign", "(LFloatTowns$Tokens;)V"⟩
abbrev cX6_openBracket : ByteArray := prog_8_method_7_code
def yX6_openBracket : MethodName := ⟨RX6, "openBracket", "(LFloatTowns$Tokens;)V"⟩
abbrev cX6_closeBracket : ByteArray := prog_8_method_8_code
def yX6_closeBracket : MethodName := ⟨RX6, "closeBracket", "()V"⟩
abbrev cX6_addKnot : ByteArray := prog_8_method_9_code
def yX6_addKnot : MethodName := ⟨RX6, "addKnot", "(LFloatTowns$Tokens;)Z"⟩
abbrev cX6_hold : ByteArray := prog_8_method_10_code
def yX6_hold : MethodName := ⟨RX6, "hold", "(I)V"⟩
abbrev cX6_writeStep : ByteArray := prog_8_method_11_code
def yX6_writeStep : MethodName := ⟨RX6, "writeStep", "(I)V"⟩
abbrev cX6_writeNegations : ByteArray := prog_8_method_12_code
def yX6_writeNegations : MethodName := ⟨RX6, "writeNegations", "()V"⟩
abbrev cX6_writeWaiting : ByteArray := prog_8_method_13_code
def yX6_writeWaiting : MethodName := ⟨RX6, "writeWaiting", "(I)V"⟩
abbrev cX6_strengthOf : ByteArray := prog_8_method_14_code
def yX6_strengthOf : MethodName := ⟨RX6, "strengthOf", "(I)I"⟩
abbrev cX6_isSign : ByteArray := prog_8_method_15_code
def yX6_isSign : MethodName := ⟨RX6, "isSign", "(I)Z"⟩
abbrev cX6_joined : ByteArray := prog_8_method_16_code
def yX6_joined : MethodName := ⟨RX6, "joined", "(IJJ)J"⟩
abbrev cX6_product : ByteArray := prog_8_method_17_code
def yX6_product : MethodName := ⟨RX6, "product", "(JJ)J"⟩
abbrev cX6_checked : ByteArray := prog_8_method_18_code
def yX6_checked : MethodName := ⟨RX6, "checked", "(J)J"⟩
def RX7 : String := "FloatTowns$Sailing"
def TX7 : u_T := fun k => match k with
  | 0 => ("FloatTowns$Sailing", "plan", "LFloatTowns$Plan;", false)
  | 1 => ("FloatTowns$Sailing", "foundSort", "I", false)
  | 2 => ("FloatTowns$Sailing", "foundCrew", "I", false)
  | 3 => ("FloatTowns$Sailing", "foundFrom", "I", false)
  | 4 => ("FloatTowns$Sailing", "foundTo", "I", false)
  | 5 => ("FloatTowns$Sailing", "foundFlat", "I", false)
  | 6 => ("FloatTowns$Sailing", "foundTimes", "I", false)
  | 7 => ("FloatTowns$Sailing", "foundBetter", "J", false)
  | 8 => ("FloatTowns$Sailing", "ledger", "LFloatTowns$Ledger;", true)
  | _ => ("FloatTowns$Sailing", "reformed", "I", false)
def tyX7 : Nat → FieldType := fun k => match k with
  | 0 => .object "FloatTowns$Plan"
  | 1 => .int
  | 2 => .int
  | 3 => .int
  | 4 => .int
  | 5 => .int
  | 6 => .int
  | 7 => .long
  | 8 => .object "FloatTowns$Ledger"
  | _ => .int
abbrev wsX70 : List Cond := u_ws RX7 TX7 10
theorem nmX7 : ∀ a, a < 10 → ∀ b, b < 10 → a ≠ b → (TX7 a).2.1 ≠ (TX7 b).2.1 := by decide +kernel
theorem tyX7_ok : ∀ k, k < 10 → parseFieldDescriptor (TX7 k).2.2.1 = some (tyX7 k) := by decide +kernel
abbrev cX7_init : ByteArray := prog_9_method_1_code
def yX7_init : MethodName := ⟨RX7, "<init>", "()V"⟩
abbrev cX7_board : ByteArray := prog_9_method_2_code
def yX7_board : MethodName := ⟨RX7, "board", "(LFloatTowns$Plan;)V"⟩
abbrev cX7_givenIn : ByteArray := prog_9_method_3_code
def yX7_givenIn : MethodName := ⟨RX7, "givenIn", "(II)I"⟩
abbrev cX7_askedIn : ByteArray := prog_9_method_4_code
def yX7_askedIn : MethodName := ⟨RX7, "askedIn", "(LFloatTowns$Scene;III)J"⟩
abbrev cX7_askedByRow : ByteArray := prog_9_method_5_code
def yX7_askedByRow : MethodName := ⟨RX7, "askedByRow", "(LFloatTowns$Scene;III)J"⟩
abbrev cX7_worthIn : ByteArray := prog_9_method_6_code
def yX7_worthIn : MethodName := ⟨RX7, "worthIn", "(LFloatTowns$Scene;III)J"⟩
abbrev cX7_worthOfOneMore : ByteArray := prog_9_method_7_code
def yX7_worthOfOneMore : MethodName := ⟨RX7, "worthOfOneMore", "(LFloatTowns$Scene;III)J"⟩
abbrev cX7_sumIn : ByteArray := prog_9_method_8_code
def yX7_sumIn : MethodName := ⟨RX7, "sumIn", "(LFloatTowns$Scene;II)J"⟩
abbrev cX7_totalOf : ByteArray := prog_9_method_9_code
def yX7_totalOf : MethodName := ⟨RX7, "totalOf", "(LFloatTowns$Scene;)J"⟩
abbrev cX7_isMet : ByteArray := prog_9_method_10_code
def yX7_isMet : MethodName := ⟨RX7, "isMet", "(LFloatTowns$Scene;I)Z"⟩
abbrev cX7_gainOf : ByteArray := prog_9_method_11_code
def yX7_gainOf : MethodName := ⟨RX7, "gainOf", "(LFloatTowns$Scene;III)J"⟩
abbrev cX7_stayOf : ByteArray := prog_9_method_12_code
def yX7_stayOf : MethodName := ⟨RX7, "stayOf", "(LFloatTowns$Scene;II)J"⟩
abbrev cX7_seekFirst : ByteArray := prog_9_method_13_code
def yX7_seekFirst : MethodName := ⟨RX7, "seekFirst", "(LFloatTowns$Scene;)Z"⟩
abbrev cX7_canLeave : ByteArray := prog_9_method_14_code
def yX7_canLeave : MethodName := ⟨RX7, "canLeave", "(LFloatTowns$Scene;II)Z"⟩
abbrev cX7_sailFound : ByteArray := prog_9_method_15_code
def yX7_sailFound : MethodName := ⟨RX7, "sailFound", "(LFloatTowns$Scene;)V"⟩
abbrev cX7_partyWould : ByteArray := prog_9_method_16_code
def yX7_partyWould : MethodName := ⟨RX7, "partyWould", "(LFloatTowns$Scene;III)Z"⟩
abbrev cX7_seekParty : ByteArray := prog_9_method_17_code
def yX7_seekParty : MethodName := ⟨RX7, "seekParty", "(LFloatTowns$Scene;I)Z"⟩
abbrev cX7_seekPlaces : ByteArray := prog_9_method_18_code
def yX7_seekPlaces : MethodName := ⟨RX7, "seekPlaces", "(LFloatTowns$Scene;I)Z"⟩
abbrev cX7_edgeOf : ByteArray := prog_9_method_19_code
def yX7_edgeOf : MethodName := ⟨RX7, "edgeOf", "(LFloatTowns$Scene;II)I"⟩
abbrev cX7_seekReform : ByteArray := prog_9_method_20_code
def yX7_seekReform : MethodName := ⟨RX7, "seekReform", "(LFloatTowns$Scene;III)Z"⟩
abbrev cX7_seekSplit : ByteArray := prog_9_method_21_code
def yX7_seekSplit : MethodName := ⟨RX7, "seekSplit", "(LFloatTowns$Scene;II)V"⟩
def RX8 : String := "FloatTowns$Scene"
def TX8 : u_T := fun k => match k with
  | 0 => ("FloatTowns$Scene", "extras", "[I", true)
  | 1 => ("FloatTowns$Scene", "parting", "J", false)
  | 2 => ("FloatTowns$Scene", "bound", "I", false)
  | 3 => ("FloatTowns$Scene", "tied", "I", false)
  | _ => ("FloatTowns$Scene", "months", "I", false)
def tyX8 : Nat → FieldType := fun k => match k with
  | 0 => .array .int
  | 1 => .long
  | 2 => .int
  | 3 => .int
  | _ => .int
abbrev wsX80 : List Cond := u_ws RX8 TX8 5
theorem nmX8 : ∀ a, a < 5 → ∀ b, b < 5 → a ≠ b → (TX8 a).2.1 ≠ (TX8 b).2.1 := by decide +kernel
theorem tyX8_ok : ∀ k, k < 5 → parseFieldDescriptor (TX8 k).2.2.1 = some (tyX8 k) := by decide +kernel
abbrev cX8_init : ByteArray := prog_10_method_1_code
def yX8_init : MethodName := ⟨RX8, "<init>", "()V"⟩
abbrev cX8_begin : ByteArray := prog_10_method_2_code
def yX8_begin : MethodName := ⟨RX8, "begin", "(I)V"⟩
abbrev cX8_copyOf : ByteArray := prog_10_method_3_code
def yX8_copyOf : MethodName := ⟨RX8, "copyOf", "(LFloatTowns$Scene;)V"⟩
abbrev cX8_hasTermsOf : ByteArray := prog_10_method_4_code
def yX8_hasTermsOf : MethodName := ⟨RX8, "hasTermsOf", "(LFloatTowns$Scene;)Z"⟩
abbrev cX8_isBound : ByteArray := prog_10_method_5_code
def yX8_isBound : MethodName := ⟨RX8, "isBound", "(I)Z"⟩
def RX9 : String := "FloatTowns$Survey"
def TX9 : u_T := fun k => match k with
  | 0 => ("FloatTowns$Survey", "partings", "I", false)
  | 1 => ("FloatTowns$Survey", "holding", "I", false)
  | 2 => ("FloatTowns$Survey", "bestParting", "J", false)
  | 3 => ("FloatTowns$Survey", "bestTotal", "J", false)
  | 4 => ("FloatTowns$Survey", "greatestHeld", "J", false)
  | 5 => ("FloatTowns$Survey", "leastHeld", "J", false)
  | 6 => ("FloatTowns$Survey", "held", "[J", true)
  | 7 => ("FloatTowns$Survey", "sailing", "LFloatTowns$Sailing;", true)
  | 8 => ("FloatTowns$Survey", "scene", "LFloatTowns$Scene;", true)
  | _ => ("FloatTowns$Survey", "made", "Z", false)
def tyX9 : Nat → FieldType := fun k => match k with
  | 0 => .int
  | 1 => .int
  | 2 => .long
  | 3 => .long
  | 4 => .long
  | 5 => .long
  | 6 => .array .long
  | 7 => .object "FloatTowns$Sailing"
  | 8 => .object "FloatTowns$Scene"
  | _ => .boolean
abbrev wsX90 : List Cond := u_ws RX9 TX9 10
theorem nmX9 : ∀ a, a < 10 → ∀ b, b < 10 → a ≠ b → (TX9 a).2.1 ≠ (TX9 b).2.1 := by decide +kernel
theorem tyX9_ok : ∀ k, k < 10 → parseFieldDescriptor (TX9 k).2.2.1 = some (tyX9 k) := by decide +kernel
abbrev cX9_init : ByteArray := prog_11_method_1_code
def yX9_init : MethodName := ⟨RX9, "<init>", "(LFloatTowns$Sailing;)V"⟩
abbrev cX9_forget : ByteArray := prog_11_method_2_code
def yX9_forget : MethodName := ⟨RX9, "forget", "()V"⟩
abbrev cX9_make : ByteArray := prog_11_method_3_code
def yX9_make : MethodName := ⟨RX9, "make", "(LFloatTowns$Scene;)Z"⟩
abbrev cX9_weigh : ByteArray := prog_11_method_4_code
def yX9_weigh : MethodName := ⟨RX9, "weigh", "(Z)V"⟩
abbrev cX9_countPartings : ByteArray := prog_11_method_5_code
def yX9_countPartings : MethodName := ⟨RX9, "countPartings", "()V"⟩
abbrev cX9_nextParting : ByteArray := prog_11_method_6_code
def yX9_nextParting : MethodName := ⟨RX9, "nextParting", "(J)J"⟩
def RX10 : String := "FloatTowns$Tokens"
def TX10 : u_T := fun k => match k with
  | 0 => ("FloatTowns$Tokens", "tape", "[I", true)
  | 1 => ("FloatTowns$Tokens", "kinds", "[I", true)
  | 2 => ("FloatTowns$Tokens", "values", "[I", true)
  | 3 => ("FloatTowns$Tokens", "starts", "[I", true)
  | 4 => ("FloatTowns$Tokens", "fed", "I", false)
  | 5 => ("FloatTowns$Tokens", "size", "I", false)
  | 6 => ("FloatTowns$Tokens", "many", "I", false)
  | 7 => ("FloatTowns$Tokens", "next", "I", false)
  | 8 => ("FloatTowns$Tokens", "start", "I", false)
  | 9 => ("FloatTowns$Tokens", "fault", "I", false)
  | 10 => ("FloatTowns$Tokens", "faultPlace", "I", false)
  | 11 => ("FloatTowns$Tokens", "kind", "I", false)
  | _ => ("FloatTowns$Tokens", "value", "I", false)
def tyX10 : Nat → FieldType := fun k => match k with
  | 0 => .array .int
  | 1 => .array .int
  | 2 => .array .int
  | 3 => .array .int
  | 4 => .int
  | 5 => .int
  | 6 => .int
  | 7 => .int
  | 8 => .int
  | 9 => .int
  | 10 => .int
  | 11 => .int
  | _ => .int
abbrev wsX100 : List Cond := u_ws RX10 TX10 13
theorem nmX10 : ∀ a, a < 13 → ∀ b, b < 13 → a ≠ b → (TX10 a).2.1 ≠ (TX10 b).2.1 := by decide +kernel
theorem tyX10_ok : ∀ k, k < 13 → parseFieldDescriptor (TX10 k).2.2.1 = some (tyX10 k) := by decide +kernel
abbrev cX10_init : ByteArray := prog_12_method_1_code
def yX10_init : MethodName := ⟨RX10, "<init>", "()V"⟩
abbrev cX10_hasRoom : ByteArray := prog_12_method_2_code
def yX10_hasRoom : MethodName := ⟨RX10, "hasRoom", "(I)Z"⟩
abbrev cX10_tapeLength : ByteArray := prog_12_method_3_code
def yX10_tapeLength : MethodName := ⟨RX10, "tapeLength", "()I"⟩
abbrev cX10_putFour : ByteArray := prog_12_method_4_code
def yX10_putFour : MethodName := ⟨RX10, "putFour", "(I)V"⟩
abbrev cX10_open : ByteArray := prog_12_method_5_code
def yX10_open : MethodName := ⟨RX10, "open", "(I)V"⟩
abbrev cX10_faultFound : ByteArray := prog_12_method_6_code
def yX10_faultFound : MethodName := ⟨RX10, "faultFound", "()I"⟩
abbrev cX10_placeOfFault : ByteArray := prog_12_method_7_code
def yX10_placeOfFault : MethodName := ⟨RX10, "placeOfFault", "()I"⟩
abbrev cX10_isSound : ByteArray := prog_12_method_8_code
def yX10_isSound : MethodName := ⟨RX10, "isSound", "()Z"⟩
abbrev cX10_refuse : ByteArray := prog_12_method_9_code
def yX10_refuse : MethodName := ⟨RX10, "refuse", "(I)V"⟩
abbrev cX10_step : ByteArray := prog_12_method_10_code
def yX10_step : MethodName := ⟨RX10, "step", "()V"⟩
abbrev cX10_take : ByteArray := prog_12_method_11_code
def yX10_take : MethodName := ⟨RX10, "take", "(I)Z"⟩
abbrev cX10_takeNumber : ByteArray := prog_12_method_12_code
def yX10_takeNumber : MethodName := ⟨RX10, "takeNumber", "(II)I"⟩
abbrev cX10_lastOf : ByteArray := prog_12_method_13_code
def yX10_lastOf : MethodName := ⟨RX10, "lastOf", "(I)I"⟩
abbrev cX10_kindOf : ByteArray := prog_12_method_14_code
def yX10_kindOf : MethodName := ⟨RX10, "kindOf", "(II)I"⟩
abbrev cX10_valueOf : ByteArray := prog_12_method_15_code
def yX10_valueOf : MethodName := ⟨RX10, "valueOf", "(III)I"⟩
abbrev cX10_kindOfWord : ByteArray := prog_12_method_16_code
def yX10_kindOfWord : MethodName := ⟨RX10, "kindOfWord", "(II)I"⟩
abbrev cX10_isSame : ByteArray := prog_12_method_17_code
def yX10_isSame : MethodName := ⟨RX10, "isSame", "(III)Z"⟩
abbrev cX10_signKind : ByteArray := prog_12_method_18_code
def yX10_signKind : MethodName := ⟨RX10, "signKind", "(I)I"⟩
abbrev cX10_isLetter : ByteArray := prog_12_method_19_code
def yX10_isLetter : MethodName := ⟨RX10, "isLetter", "(I)Z"⟩
abbrev cX10_isDigit : ByteArray := prog_12_method_20_code
def yX10_isDigit : MethodName := ⟨RX10, "isDigit", "(I)Z"⟩
def RX11 : String := "FloatTowns"
def TX11 : u_T := fun k => match k with
  | 0 => ("FloatTowns", "tokens", "LFloatTowns$Tokens;", true)
  | 1 => ("FloatTowns", "reader", "LFloatTowns$Reader;", true)
  | 2 => ("FloatTowns", "sailing", "LFloatTowns$Sailing;", true)
  | 3 => ("FloatTowns", "course", "LFloatTowns$Course;", true)
  | 4 => ("FloatTowns", "survey", "LFloatTowns$Survey;", true)
  | 5 => ("FloatTowns", "history", "LFloatTowns$History;", true)
  | 6 => ("FloatTowns", "now", "LFloatTowns$Scene;", true)
  | 7 => ("FloatTowns", "plan", "LFloatTowns$Plan;", false)
  | 8 => ("FloatTowns", "spare", "LFloatTowns$Plan;", false)
  | 9 => ("FloatTowns", "fault", "I", false)
  | _ => ("FloatTowns", "faultPlace", "I", false)
def tyX11 : Nat → FieldType := fun k => match k with
  | 0 => .object "FloatTowns$Tokens"
  | 1 => .object "FloatTowns$Reader"
  | 2 => .object "FloatTowns$Sailing"
  | 3 => .object "FloatTowns$Course"
  | 4 => .object "FloatTowns$Survey"
  | 5 => .object "FloatTowns$History"
  | 6 => .object "FloatTowns$Scene"
  | 7 => .object "FloatTowns$Plan"
  | 8 => .object "FloatTowns$Plan"
  | 9 => .int
  | _ => .int
abbrev wsX110 : List Cond := u_ws RX11 TX11 11
theorem nmX11 : ∀ a, a < 11 → ∀ b, b < 11 → a ≠ b → (TX11 a).2.1 ≠ (TX11 b).2.1 := by decide +kernel
theorem tyX11_ok : ∀ k, k < 11 → parseFieldDescriptor (TX11 k).2.2.1 = some (tyX11 k) := by decide +kernel
abbrev cX11_init : ByteArray := prog_1_method_1_code
def yX11_init : MethodName := ⟨RX11, "<init>", "()V"⟩
abbrev cX11_feed : ByteArray := prog_1_method_2_code
def yX11_feed : MethodName := ⟨RX11, "feed", "(IIIII)I"⟩
abbrev cX11_text : ByteArray := prog_1_method_3_code
def yX11_text : MethodName := ⟨RX11, "text", "(I)I"⟩
abbrev cX11_fault : ByteArray := prog_1_method_4_code
def yX11_fault : MethodName := ⟨RX11, "fault", "(I)I"⟩
abbrev cX11_named : ByteArray := prog_1_method_5_code
def yX11_named : MethodName := ⟨RX11, "named", "(II)I"⟩
abbrev cX11_look : ByteArray := prog_1_method_6_code
def yX11_look : MethodName := ⟨RX11, "look", "(II)I"⟩
abbrev cX11_wants : ByteArray := prog_1_method_7_code
def yX11_wants : MethodName := ⟨RX11, "wants", "(II)I"⟩
abbrev cX11_likes : ByteArray := prog_1_method_8_code
def yX11_likes : MethodName := ⟨RX11, "likes", "(II)I"⟩
abbrev cX11_town : ByteArray := prog_1_method_9_code
def yX11_town : MethodName := ⟨RX11, "town", "(II)I"⟩
abbrev cX11_count : ByteArray := prog_1_method_10_code
def yX11_count : MethodName := ⟨RX11, "count", "(I)I"⟩
abbrev cX11_at : ByteArray := prog_1_method_11_code
def yX11_at : MethodName := ⟨RX11, "at", "(II)I"⟩
abbrev cX11_worth : ByteArray := prog_1_method_12_code
def yX11_worth : MethodName := ⟨RX11, "worth", "(IIZ)J"⟩
abbrev cX11_asked : ByteArray := prog_1_method_13_code
def yX11_asked : MethodName := ⟨RX11, "asked", "(II)J"⟩
abbrev cX11_gain : ByteArray := prog_1_method_14_code
def yX11_gain : MethodName := ⟨RX11, "gain", "(III)J"⟩
abbrev cX11_total : ByteArray := prog_1_method_15_code
def yX11_total : MethodName := ⟨RX11, "total", "()J"⟩
abbrev cX11_met : ByteArray := prog_1_method_16_code
def yX11_met : MethodName := ⟨RX11, "met", "(I)I"⟩
abbrev cX11_go : ByteArray := prog_1_method_17_code
def yX11_go : MethodName := ⟨RX11, "go", "(III)Z"⟩
abbrev cX11_first : ByteArray := prog_1_method_18_code
def yX11_first : MethodName := ⟨RX11, "first", "(I)I"⟩
abbrev cX11_would : ByteArray := prog_1_method_19_code
def yX11_would : MethodName := ⟨RX11, "would", "(III)I"⟩
abbrev cX11_party : ByteArray := prog_1_method_20_code
def yX11_party : MethodName := ⟨RX11, "party", "(II)I"⟩
abbrev cX11_goings : ByteArray := prog_1_method_21_code
def yX11_goings : MethodName := ⟨RX11, "goings", "(I)I"⟩
abbrev cX11_ring : ByteArray := prog_1_method_22_code
def yX11_ring : MethodName := ⟨RX11, "ring", "(I)I"⟩
abbrev cX11_empties : ByteArray := prog_1_method_23_code
def yX11_empties : MethodName := ⟨RX11, "empties", "(I)I"⟩
abbrev cX11_months : ByteArray := prog_1_method_24_code
def yX11_months : MethodName := ⟨RX11, "months", "(II)I"⟩
abbrev cX11_tied : ByteArray := prog_1_method_25_code
def yX11_tied : MethodName := ⟨RX11, "tied", "()I"⟩
abbrev cX11_odds : ByteArray := prog_1_method_26_code
def yX11_odds : MethodName := ⟨RX11, "odds", "(IIII)I"⟩
abbrev cX11_all : ByteArray := prog_1_method_27_code
def yX11_all : MethodName := ⟨RX11, "all", "(I)I"⟩
abbrev cX11_held : ByteArray := prog_1_method_28_code
def yX11_held : MethodName := ⟨RX11, "held", "(III)I"⟩
abbrev cX11_lost : ByteArray := prog_1_method_29_code
def yX11_lost : MethodName := ⟨RX11, "lost", "(I)J"⟩
abbrev cX11_best : ByteArray := prog_1_method_30_code
def yX11_best : MethodName := ⟨RX11, "best", "()Z"⟩
abbrev cX11_extra : ByteArray := prog_1_method_31_code
def yX11_extra : MethodName := ⟨RX11, "extra", "(II)Z"⟩
abbrev cX11_bind : ByteArray := prog_1_method_32_code
def yX11_bind : MethodName := ⟨RX11, "bind", "(IZ)Z"⟩
abbrev cX11_edge : ByteArray := prog_1_method_33_code
def yX11_edge : MethodName := ⟨RX11, "edge", "(II)I"⟩
abbrev cX11_reform : ByteArray := prog_1_method_34_code
def yX11_reform : MethodName := ⟨RX11, "reform", "(IIII)I"⟩
abbrev cX11_split : ByteArray := prog_1_method_35_code
def yX11_split : MethodName := ⟨RX11, "split", "(III)J"⟩
abbrev cX11_out : ByteArray := prog_1_method_36_code
def yX11_out : MethodName := ⟨RX11, "out", "(III)I"⟩
abbrev cX11_undo : ByteArray := prog_1_method_37_code
def yX11_undo : MethodName := ⟨RX11, "undo", "()I"⟩
abbrev cX11_keep : ByteArray := prog_1_method_38_code
def yX11_keep : MethodName := ⟨RX11, "keep", "()I"⟩
abbrev cX11_back : ByteArray := prog_1_method_39_code
def yX11_back : MethodName := ⟨RX11, "back", "()I"⟩
abbrev cX11_isSort : ByteArray := prog_1_method_40_code
def yX11_isSort : MethodName := ⟨RX11, "isSort", "(I)Z"⟩
abbrev cX11_isTown : ByteArray := prog_1_method_41_code
def yX11_isTown : MethodName := ⟨RX11, "isTown", "(I)Z"⟩
abbrev cX11_isPlace : ByteArray := prog_1_method_42_code
def yX11_isPlace : MethodName := ⟨RX11, "isPlace", "(I)Z"⟩
abbrev cX11_canGo : ByteArray := prog_1_method_43_code
def yX11_canGo : MethodName := ⟨RX11, "canGo", "(III)Z"⟩
abbrev cX11_foundPlace : ByteArray := prog_1_method_44_code
def yX11_foundPlace : MethodName := ⟨RX11, "foundPlace", "(I)I"⟩
abbrev cX11_crewOfParty : ByteArray := prog_1_method_45_code
def yX11_crewOfParty : MethodName := ⟨RX11, "crewOfParty", "(I)I"⟩
abbrev cX11_partyOfCrew : ByteArray := prog_1_method_46_code
def yX11_partyOfCrew : MethodName := ⟨RX11, "partyOfCrew", "(I)I"⟩
abbrev cX11_isRate : ByteArray := prog_1_method_47_code
def yX11_isRate : MethodName := ⟨RX11, "isRate", "(I)Z"⟩
abbrev cX11_asBit : ByteArray := prog_1_method_48_code
def yX11_asBit : MethodName := ⟨RX11, "asBit", "(Z)I"⟩
abbrev cX11_one : ByteArray := prog_1_method_49_code
def yX11_one : MethodName := ⟨RX11, "one", "(I)I"⟩
abbrev cX11_part : ByteArray := prog_1_method_50_code
def yX11_part : MethodName := ⟨RX11, "part", "(II)I"⟩
abbrev cX11_sizeOf : ByteArray := prog_1_method_51_code
def yX11_sizeOf : MethodName := ⟨RX11, "sizeOf", "(I)I"⟩
abbrev cX11_covers : ByteArray := prog_1_method_52_code
def yX11_covers : MethodName := ⟨RX11, "covers", "(II)Z"⟩
def RX12 : String := "FloatTownsModel"
def TX12 : u_T := fun k => match k with
  | 0 => ("FloatTownsModel", "tape", "[I", true)
  | 1 => ("FloatTownsModel", "tapeSize", "I", false)
  | 2 => ("FloatTownsModel", "thrown", "I", false)
  | 3 => ("FloatTownsModel", "words", "[I", true)
  | 4 => ("FloatTownsModel", "fault", "I", false)
  | 5 => ("FloatTownsModel", "faultPlace", "I", false)
  | 6 => ("FloatTownsModel", "stop", "I", false)
  | 7 => ("FloatTownsModel", "next", "I", false)
  | 8 => ("FloatTownsModel", "kind", "I", false)
  | 9 => ("FloatTownsModel", "which", "I", false)
  | 10 => ("FloatTownsModel", "at", "I", false)
  | 11 => ("FloatTownsModel", "got", "I", false)
  | 12 => ("FloatTownsModel", "goods", "I", false)
  | 13 => ("FloatTownsModel", "sorts", "I", false)
  | 14 => ("FloatTownsModel", "towns", "I", false)
  | 15 => ("FloatTownsModel", "floats", "I", false)
  | 16 => ("FloatTownsModel", "storm", "I", false)
  | 17 => ("FloatTownsModel", "knots", "I", false)
  | 18 => ("FloatTownsModel", "goodsRead", "I", false)
  | 19 => ("FloatTownsModel", "sortsRead", "I", false)
  | 20 => ("FloatTownsModel", "townsRead", "I", false)
  | 21 => ("FloatTownsModel", "floatsRead", "I", false)
  | 22 => ("FloatTownsModel", "stormRead", "I", false)
  | 23 => ("FloatTownsModel", "knotsRead", "I", false)
  | 24 => ("FloatTownsModel", "goodName", "[I", true)
  | 25 => ("FloatTownsModel", "goodCost", "[I", true)
  | 26 => ("FloatTownsModel", "sortName", "[I", true)
  | 27 => ("FloatTownsModel", "sortHas", "[I", true)
  | 28 => ("FloatTownsModel", "want", "[I", true)
  | 29 => ("FloatTownsModel", "wantTold", "[I", true)
  | 30 => ("FloatTownsModel", "like", "[I", true)
  | 31 => ("FloatTownsModel", "likeTold", "[I", true)
  | 32 => ("FloatTownsModel", "townName", "[I", true)
  | 33 => ("FloatTownsModel", "townGives", "[I", true)
  | 34 => ("FloatTownsModel", "townVotes", "[I", true)
  | 35 => ("FloatTownsModel", "townBound", "[I", true)
  | 36 => ("FloatTownsModel", "first", "[I", true)
  | 37 => ("FloatTownsModel", "last", "[I", true)
  | 38 => ("FloatTownsModel", "wide", "[I", true)
  | 39 => ("FloatTownsModel", "tall", "[I", true)
  | 40 => ("FloatTownsModel", "rows", "[I", true)
  | 41 => ("FloatTownsModel", "knot", "[I", true)
  | 42 => ("FloatTownsModel", "part", "[I", true)
  | 43 => ("FloatTownsModel", "other", "[I", true)
  | 44 => ("FloatTownsModel", "wait", "[I", true)
  | 45 => ("FloatTownsModel", "held", "[I", true)
  | 46 => ("FloatTownsModel", "waits", "I", false)
  | 47 => ("FloatTownsModel", "helds", "I", false)
  | 48 => ("FloatTownsModel", "brackets", "I", false)
  | 49 => ("FloatTownsModel", "counted", "I", false)
  | 50 => ("FloatTownsModel", "wants", "Z", false)
  | 51 => ("FloatTownsModel", "now", "[I", true)
  | 52 => ("FloatTownsModel", "more", "[I", true)
  | 53 => ("FloatTownsModel", "crew", "[I", true)
  | 54 => ("FloatTownsModel", "crewSize", "I", false)
  | 55 => ("FloatTownsModel", "given", "I", false)
  | 56 => ("FloatTownsModel", "givenCost", "I", false)
  | 57 => ("FloatTownsModel", "value", "[J", true)
  | 58 => ("FloatTownsModel", "isError", "Z", false)
  | 59 => ("FloatTownsModel", "reformed", "I", false)
  | 60 => ("FloatTownsModel", "flat", "I", false)
  | 61 => ("FloatTownsModel", "byPay", "I", false)
  | 62 => ("FloatTownsModel", "firstSort", "I", false)
  | 63 => ("FloatTownsModel", "firstFrom", "I", false)
  | 64 => ("FloatTownsModel", "firstTo", "I", false)
  | 65 => ("FloatTownsModel", "group", "[I", true)
  | 66 => ("FloatTownsModel", "before", "[J", true)
  | 67 => ("FloatTownsModel", "partyFrom", "I", false)
  | 68 => ("FloatTownsModel", "partyTo", "I", false)
  | 69 => ("FloatTownsModel", "been", "[I", true)
  | 70 => ("FloatTownsModel", "kept", "[I", true)
  | 71 => ("FloatTownsModel", "endKind", "I", false)
  | 72 => ("FloatTownsModel", "endAt", "I", false)
  | 73 => ("FloatTownsModel", "endPeriod", "I", false)
  | 74 => ("FloatTownsModel", "bestNow", "[I", true)
  | 75 => ("FloatTownsModel", "bestTotal", "J", false)
  | 76 => ("FloatTownsModel", "mostHeld", "J", false)
  | 77 => ("FloatTownsModel", "leastHeld", "J", false)
  | 78 => ("FloatTownsModel", "isHeld", "Z", false)
  | 79 => ("FloatTownsModel", "far", "[I", true)
  | 80 => ("FloatTownsModel", "tiedFor", "I", false)
  | 81 => ("FloatTownsModel", "monthsDone", "I", false)
  | 82 => ("FloatTownsModel", "seedNow", "J", false)
  | 83 => ("FloatTownsModel", "undos", "I", false)
  | 84 => ("FloatTownsModel", "undo", "[I", true)
  | 85 => ("FloatTownsModel", "hasImage", "Z", false)
  | _ => ("FloatTownsModel", "image", "[I", true)
def tyX12 : Nat → FieldType := fun k => match k with
  | 0 => .array .int
  | 1 => .int
  | 2 => .int
  | 3 => .array .int
  | 4 => .int
  | 5 => .int
  | 6 => .int
  | 7 => .int
  | 8 => .int
  | 9 => .int
  | 10 => .int
  | 11 => .int
  | 12 => .int
  | 13 => .int
  | 14 => .int
  | 15 => .int
  | 16 => .int
  | 17 => .int
  | 18 => .int
  | 19 => .int
  | 20 => .int
  | 21 => .int
  | 22 => .int
  | 23 => .int
  | 24 => .array .int
  | 25 => .array .int
  | 26 => .array .int
  | 27 => .array .int
  | 28 => .array .int
  | 29 => .array .int
  | 30 => .array .int
  | 31 => .array .int
  | 32 => .array .int
  | 33 => .array .int
  | 34 => .array .int
  | 35 => .array .int
  | 36 => .array .int
  | 37 => .array .int
  | 38 => .array .int
  | 39 => .array .int
  | 40 => .array .int
  | 41 => .array .int
  | 42 => .array .int
  | 43 => .array .int
  | 44 => .array .int
  | 45 => .array .int
  | 46 => .int
  | 47 => .int
  | 48 => .int
  | 49 => .int
  | 50 => .boolean
  | 51 => .array .int
  | 52 => .array .int
  | 53 => .array .int
  | 54 => .int
  | 55 => .int
  | 56 => .int
  | 57 => .array .long
  | 58 => .boolean
  | 59 => .int
  | 60 => .int
  | 61 => .int
  | 62 => .int
  | 63 => .int
  | 64 => .int
  | 65 => .array .int
  | 66 => .array .long
  | 67 => .int
  | 68 => .int
  | 69 => .array .int
  | 70 => .array .int
  | 71 => .int
  | 72 => .int
  | 73 => .int
  | 74 => .array .int
  | 75 => .long
  | 76 => .long
  | 77 => .long
  | 78 => .boolean
  | 79 => .array .int
  | 80 => .int
  | 81 => .int
  | 82 => .long
  | 83 => .int
  | 84 => .array .int
  | 85 => .boolean
  | _ => .array .int
abbrev wsX120 : List Cond := u_ws RX12 TX12 87
theorem nmX12 : ∀ a, a < 87 → ∀ b, b < 87 → a ≠ b → (TX12 a).2.1 ≠ (TX12 b).2.1 := by decide +kernel
theorem tyX12_ok : ∀ k, k < 87 → parseFieldDescriptor (TX12 k).2.2.1 = some (tyX12 k) := by decide +kernel
abbrev cX12_init : ByteArray := prog_14_method_1_code
def yX12_init : MethodName := ⟨RX12, "<init>", "()V"⟩
abbrev cX12_thrown : ByteArray := prog_14_method_2_code
def yX12_thrown : MethodName := ⟨RX12, "thrown", "()I"⟩
abbrev cX12_feed : ByteArray := prog_14_method_3_code
def yX12_feed : MethodName := ⟨RX12, "feed", "(IIIII)I"⟩
abbrev cX12_isIn : ByteArray := prog_14_method_4_code
def yX12_isIn : MethodName := ⟨RX12, "isIn", "(III)Z"⟩
abbrev cX12_isOf : ByteArray := prog_14_method_5_code
def yX12_isOf : MethodName := ⟨RX12, "isOf", "(II)Z"⟩
abbrev cX12_sizeOf : ByteArray := prog_14_method_6_code
def yX12_sizeOf : MethodName := ⟨RX12, "sizeOf", "(J)J"⟩
abbrev cX12_wrong : ByteArray := prog_14_method_7_code
def yX12_wrong : MethodName := ⟨RX12, "wrong", "(I)Z"⟩
abbrev cX12_wordAt : ByteArray := prog_14_method_8_code
def yX12_wordAt : MethodName := ⟨RX12, "wordAt", "(II)I"⟩
abbrev cX12_isSmall : ByteArray := prog_14_method_9_code
def yX12_isSmall : MethodName := ⟨RX12, "isSmall", "(I)Z"⟩
abbrev cX12_isDigit : ByteArray := prog_14_method_10_code
def yX12_isDigit : MethodName := ⟨RX12, "isDigit", "(I)Z"⟩
abbrev cX12_token : ByteArray := prog_14_method_11_code
def yX12_token : MethodName := ⟨RX12, "token", "()V"⟩
abbrev cX12_packed : ByteArray := prog_14_method_12_code
def yX12_packed : MethodName := ⟨RX12, "packed", "(II)I"⟩
abbrev cX12_isKey : ByteArray := prog_14_method_13_code
def yX12_isKey : MethodName := ⟨RX12, "isKey", "(I)Z"⟩
abbrev cX12_isSign : ByteArray := prog_14_method_14_code
def yX12_isSign : MethodName := ⟨RX12, "isSign", "(I)Z"⟩
abbrev cX12_number : ByteArray := prog_14_method_15_code
def yX12_number : MethodName := ⟨RX12, "number", "(II)Z"⟩
abbrev cX12_plain : ByteArray := prog_14_method_16_code
def yX12_plain : MethodName := ⟨RX12, "plain", "()V"⟩
abbrev cX12_copies : ByteArray := prog_14_method_17_code
def yX12_copies : MethodName := ⟨RX12, "copies", "([II)V"⟩
abbrev cX12_keepText : ByteArray := prog_14_method_18_code
def yX12_keepText : MethodName := ⟨RX12, "keepText", "()V"⟩
abbrev cX12_find : ByteArray := prog_14_method_19_code
def yX12_find : MethodName := ⟨RX12, "find", "([IIII)I"⟩
abbrev cX12_newName : ByteArray := prog_14_method_20_code
def yX12_newName : MethodName := ⟨RX12, "newName", "([III)Z"⟩
abbrev cX12_oldName : ByteArray := prog_14_method_21_code
def yX12_oldName : MethodName := ⟨RX12, "oldName", "([III)Z"⟩
abbrev cX12_goodLine : ByteArray := prog_14_method_22_code
def yX12_goodLine : MethodName := ⟨RX12, "goodLine", "()Z"⟩
abbrev cX12_floatLine : ByteArray := prog_14_method_23_code
def yX12_floatLine : MethodName := ⟨RX12, "floatLine", "()Z"⟩
abbrev cX12_likeLine : ByteArray := prog_14_method_24_code
def yX12_likeLine : MethodName := ⟨RX12, "likeLine", "()Z"⟩
abbrev cX12_townLine : ByteArray := prog_14_method_25_code
def yX12_townLine : MethodName := ⟨RX12, "townLine", "()Z"⟩
abbrev cX12_groundLine : ByteArray := prog_14_method_26_code
def yX12_groundLine : MethodName := ⟨RX12, "groundLine", "()Z"⟩
abbrev cX12_stormLine : ByteArray := prog_14_method_27_code
def yX12_stormLine : MethodName := ⟨RX12, "stormLine", "()Z"⟩
abbrev cX12_lineRead : ByteArray := prog_14_method_28_code
def yX12_lineRead : MethodName := ⟨RX12, "lineRead", "()Z"⟩
abbrev cX12_text : ByteArray := prog_14_method_29_code
def yX12_text : MethodName := ⟨RX12, "text", "(I)I"⟩
abbrev cX12_fault : ByteArray := prog_14_method_30_code
def yX12_fault : MethodName := ⟨RX12, "fault", "(I)I"⟩
abbrev cX12_named : ByteArray := prog_14_method_31_code
def yX12_named : MethodName := ⟨RX12, "named", "(II)I"⟩
abbrev cX12_rank : ByteArray := prog_14_method_32_code
def yX12_rank : MethodName := ⟨RX12, "rank", "(I)I"⟩
abbrev cX12_grown : ByteArray := prog_14_method_33_code
def yX12_grown : MethodName := ⟨RX12, "grown", "(III)V"⟩
abbrev cX12_dropHeld : ByteArray := prog_14_method_34_code
def yX12_dropHeld : MethodName := ⟨RX12, "dropHeld", "()I"⟩
abbrev cX12_bindSigns : ByteArray := prog_14_method_35_code
def yX12_bindSigns : MethodName := ⟨RX12, "bindSigns", "(I)V"⟩
abbrev cX12_isCounted : ByteArray := prog_14_method_36_code
def yX12_isCounted : MethodName := ⟨RX12, "isCounted", "()Z"⟩
abbrev cX12_waitsFor : ByteArray := prog_14_method_37_code
def yX12_waitsFor : MethodName := ⟨RX12, "waitsFor", "(I)V"⟩
abbrev cX12_leafRead : ByteArray := prog_14_method_38_code
def yX12_leafRead : MethodName := ⟨RX12, "leafRead", "()Z"⟩
abbrev cX12_signs : ByteArray := prog_14_method_39_code
def yX12_signs : MethodName := ⟨RX12, "signs", "()Z"⟩
abbrev cX12_sumRead : ByteArray := prog_14_method_40_code
def yX12_sumRead : MethodName := ⟨RX12, "sumRead", "()Z"⟩
abbrev cX12_layCrew : ByteArray := prog_14_method_41_code
def yX12_layCrew : MethodName := ⟨RX12, "layCrew", "(I)V"⟩
abbrev cX12_layGiven : ByteArray := prog_14_method_42_code
def yX12_layGiven : MethodName := ⟨RX12, "layGiven", "(I)V"⟩
abbrev cX12_isVoted : ByteArray := prog_14_method_43_code
def yX12_isVoted : MethodName := ⟨RX12, "isVoted", "(I)Z"⟩
abbrev cX12_bounded : ByteArray := prog_14_method_44_code
def yX12_bounded : MethodName := ⟨RX12, "bounded", "(J)J"⟩
abbrev cX12_times : ByteArray := prog_14_method_45_code
def yX12_times : MethodName := ⟨RX12, "times", "(JJ)J"⟩
abbrev cX12_divided : ByteArray := prog_14_method_46_code
def yX12_divided : MethodName := ⟨RX12, "divided", "(JJ)J"⟩
abbrev cX12_nameOf : ByteArray := prog_14_method_47_code
def yX12_nameOf : MethodName := ⟨RX12, "nameOf", "(II)J"⟩
abbrev cX12_valueOf : ByteArray := prog_14_method_48_code
def yX12_valueOf : MethodName := ⟨RX12, "valueOf", "(II)J"⟩
abbrev cX12_askedOf : ByteArray := prog_14_method_49_code
def yX12_askedOf : MethodName := ⟨RX12, "askedOf", "(II)J"⟩
abbrev cX12_worthOf : ByteArray := prog_14_method_50_code
def yX12_worthOf : MethodName := ⟨RX12, "worthOf", "(II)J"⟩
abbrev cX12_aloneOf : ByteArray := prog_14_method_51_code
def yX12_aloneOf : MethodName := ⟨RX12, "aloneOf", "(I)J"⟩
abbrev cX12_worthAt : ByteArray := prog_14_method_52_code
def yX12_worthAt : MethodName := ⟨RX12, "worthAt", "(IIZ)J"⟩
abbrev cX12_isSort : ByteArray := prog_14_method_53_code
def yX12_isSort : MethodName := ⟨RX12, "isSort", "(I)Z"⟩
abbrev cX12_isTown : ByteArray := prog_14_method_54_code
def yX12_isTown : MethodName := ⟨RX12, "isTown", "(I)Z"⟩
abbrev cX12_isPlace : ByteArray := prog_14_method_55_code
def yX12_isPlace : MethodName := ⟨RX12, "isPlace", "(I)Z"⟩
abbrev cX12_fails : ByteArray := prog_14_method_56_code
def yX12_fails : MethodName := ⟨RX12, "fails", "(I)I"⟩
abbrev cX12_look : ByteArray := prog_14_method_57_code
def yX12_look : MethodName := ⟨RX12, "look", "(II)I"⟩
abbrev cX12_wants : ByteArray := prog_14_method_58_code
def yX12_wants : MethodName := ⟨RX12, "wants", "(II)I"⟩
abbrev cX12_likes : ByteArray := prog_14_method_59_code
def yX12_likes : MethodName := ⟨RX12, "likes", "(II)I"⟩
abbrev cX12_town : ByteArray := prog_14_method_60_code
def yX12_town : MethodName := ⟨RX12, "town", "(II)I"⟩
abbrev cX12_at : ByteArray := prog_14_method_61_code
def yX12_at : MethodName := ⟨RX12, "at", "(II)I"⟩
abbrev cX12_worth : ByteArray := prog_14_method_62_code
def yX12_worth : MethodName := ⟨RX12, "worth", "(IIZ)J"⟩
abbrev cX12_asked : ByteArray := prog_14_method_63_code
def yX12_asked : MethodName := ⟨RX12, "asked", "(II)J"⟩
abbrev cX12_mayGo : ByteArray := prog_14_method_64_code
def yX12_mayGo : MethodName := ⟨RX12, "mayGo", "(III)Z"⟩
abbrev cX12_gainOf : ByteArray := prog_14_method_65_code
def yX12_gainOf : MethodName := ⟨RX12, "gainOf", "(III)J"⟩
abbrev cX12_gain : ByteArray := prog_14_method_66_code
def yX12_gain : MethodName := ⟨RX12, "gain", "(III)J"⟩
abbrev cX12_isFast : ByteArray := prog_14_method_67_code
def yX12_isFast : MethodName := ⟨RX12, "isFast", "(I)Z"⟩
abbrev cX12_goes : ByteArray := prog_14_method_68_code
def yX12_goes : MethodName := ⟨RX12, "goes", "(III)V"⟩
abbrev cX12_go : ByteArray := prog_14_method_69_code
def yX12_go : MethodName := ⟨RX12, "go", "(III)Z"⟩
abbrev cX12_findFirst : ByteArray := prog_14_method_70_code
def yX12_findFirst : MethodName := ⟨RX12, "findFirst", "()Z"⟩
abbrev cX12_first : ByteArray := prog_14_method_71_code
def yX12_first : MethodName := ⟨RX12, "first", "(I)I"⟩
abbrev cX12_layGroup : ByteArray := prog_14_method_72_code
def yX12_layGroup : MethodName := ⟨RX12, "layGroup", "(II)Z"⟩
abbrev cX12_groupNumber : ByteArray := prog_14_method_73_code
def yX12_groupNumber : MethodName := ⟨RX12, "groupNumber", "()I"⟩
abbrev cX12_moves : ByteArray := prog_14_method_74_code
def yX12_moves : MethodName := ⟨RX12, "moves", "(III)V"⟩
abbrev cX12_groupWould : ByteArray := prog_14_method_75_code
def yX12_groupWould : MethodName := ⟨RX12, "groupWould", "(II)Z"⟩
abbrev cX12_would : ByteArray := prog_14_method_76_code
def yX12_would : MethodName := ⟨RX12, "would", "(III)I"⟩
abbrev cX12_groupAnywhere : ByteArray := prog_14_method_77_code
def yX12_groupAnywhere : MethodName := ⟨RX12, "groupAnywhere", "()Z"⟩
abbrev cX12_nextGroup : ByteArray := prog_14_method_78_code
def yX12_nextGroup : MethodName := ⟨RX12, "nextGroup", "()Z"⟩
abbrev cX12_findParty : ByteArray := prog_14_method_79_code
def yX12_findParty : MethodName := ⟨RX12, "findParty", "(I)Z"⟩
abbrev cX12_party : ByteArray := prog_14_method_80_code
def yX12_party : MethodName := ⟨RX12, "party", "(II)I"⟩
abbrev cX12_goingsNow : ByteArray := prog_14_method_81_code
def yX12_goingsNow : MethodName := ⟨RX12, "goingsNow", "(I)I"⟩
abbrev cX12_goings : ByteArray := prog_14_method_82_code
def yX12_goings : MethodName := ⟨RX12, "goings", "(I)I"⟩
abbrev cX12_keepNow : ByteArray := prog_14_method_83_code
def yX12_keepNow : MethodName := ⟨RX12, "keepNow", "()V"⟩
abbrev cX12_takeKept : ByteArray := prog_14_method_84_code
def yX12_takeKept : MethodName := ⟨RX12, "takeKept", "()V"⟩
abbrev cX12_isBeen : ByteArray := prog_14_method_85_code
def yX12_isBeen : MethodName := ⟨RX12, "isBeen", "(I)Z"⟩
abbrev cX12_findEnd : ByteArray := prog_14_method_86_code
def yX12_findEnd : MethodName := ⟨RX12, "findEnd", "()V"⟩
abbrev cX12_ring : ByteArray := prog_14_method_87_code
def yX12_ring : MethodName := ⟨RX12, "ring", "(I)I"⟩
abbrev cX12_waysOf : ByteArray := prog_14_method_88_code
def yX12_waysOf : MethodName := ⟨RX12, "waysOf", "(II)I"⟩
abbrev cX12_partings : ByteArray := prog_14_method_89_code
def yX12_partings : MethodName := ⟨RX12, "partings", "()I"⟩
abbrev cX12_aloneAll : ByteArray := prog_14_method_90_code
def yX12_aloneAll : MethodName := ⟨RX12, "aloneAll", "(I)V"⟩
abbrev cX12_nextWay : ByteArray := prog_14_method_91_code
def yX12_nextWay : MethodName := ⟨RX12, "nextWay", "(I)Z"⟩
abbrev cX12_nextParting : ByteArray := prog_14_method_92_code
def yX12_nextParting : MethodName := ⟨RX12, "nextParting", "()Z"⟩
abbrev cX12_firstParting : ByteArray := prog_14_method_93_code
def yX12_firstParting : MethodName := ⟨RX12, "firstParting", "()V"⟩
abbrev cX12_all : ByteArray := prog_14_method_94_code
def yX12_all : MethodName := ⟨RX12, "all", "(I)I"⟩
abbrev cX12_held : ByteArray := prog_14_method_95_code
def yX12_held : MethodName := ⟨RX12, "held", "(III)I"⟩
abbrev cX12_totalNow : ByteArray := prog_14_method_96_code
def yX12_totalNow : MethodName := ⟨RX12, "totalNow", "()J"⟩
abbrev cX12_total : ByteArray := prog_14_method_97_code
def yX12_total : MethodName := ⟨RX12, "total", "()J"⟩
abbrev cX12_findBest : ByteArray := prog_14_method_98_code
def yX12_findBest : MethodName := ⟨RX12, "findBest", "(I)V"⟩
abbrev cX12_lost : ByteArray := prog_14_method_99_code
def yX12_lost : MethodName := ⟨RX12, "lost", "(I)J"⟩
abbrev cX12_best : ByteArray := prog_14_method_100_code
def yX12_best : MethodName := ⟨RX12, "best", "()Z"⟩
abbrev cX12_extra : ByteArray := prog_14_method_101_code
def yX12_extra : MethodName := ⟨RX12, "extra", "(II)Z"⟩
abbrev cX12_bind : ByteArray := prog_14_method_102_code
def yX12_bind : MethodName := ⟨RX12, "bind", "(IZ)Z"⟩
abbrev cX12_edge : ByteArray := prog_14_method_103_code
def yX12_edge : MethodName := ⟨RX12, "edge", "(II)I"⟩
abbrev cX12_crewOf : ByteArray := prog_14_method_104_code
def yX12_crewOf : MethodName := ⟨RX12, "crewOf", "(I)I"⟩
abbrev cX12_empties : ByteArray := prog_14_method_105_code
def yX12_empties : MethodName := ⟨RX12, "empties", "(I)I"⟩
abbrev cX12_isMet : ByteArray := prog_14_method_106_code
def yX12_isMet : MethodName := ⟨RX12, "isMet", "(I)Z"⟩
abbrev cX12_met : ByteArray := prog_14_method_107_code
def yX12_met : MethodName := ⟨RX12, "met", "(I)I"⟩
abbrev cX12_reform : ByteArray := prog_14_method_108_code
def yX12_reform : MethodName := ⟨RX12, "reform", "(IIII)I"⟩
abbrev cX12_sumOf : ByteArray := prog_14_method_109_code
def yX12_sumOf : MethodName := ⟨RX12, "sumOf", "(I)J"⟩
abbrev cX12_nextOf : ByteArray := prog_14_method_110_code
def yX12_nextOf : MethodName := ⟨RX12, "nextOf", "(I)Z"⟩
abbrev cX12_split : ByteArray := prog_14_method_111_code
def yX12_split : MethodName := ⟨RX12, "split", "(III)J"⟩
abbrev cX12_lies : ByteArray := prog_14_method_112_code
def yX12_lies : MethodName := ⟨RX12, "lies", "(III)Z"⟩
abbrev cX12_steps : ByteArray := prog_14_method_113_code
def yX12_steps : MethodName := ⟨RX12, "steps", "(IIII)Z"⟩
abbrev cX12_out : ByteArray := prog_14_method_114_code
def yX12_out : MethodName := ⟨RX12, "out", "(III)I"⟩
abbrev cX12_month : ByteArray := prog_14_method_115_code
def yX12_month : MethodName := ⟨RX12, "month", "()V"⟩
abbrev cX12_months : ByteArray := prog_14_method_116_code
def yX12_months : MethodName := ⟨RX12, "months", "(II)I"⟩
abbrev cX12_tied : ByteArray := prog_14_method_117_code
def yX12_tied : MethodName := ⟨RX12, "tied", "()I"⟩
abbrev cX12_odds : ByteArray := prog_14_method_118_code
def yX12_odds : MethodName := ⟨RX12, "odds", "(IIII)I"⟩
abbrev cX12_lays : ByteArray := prog_14_method_119_code
def yX12_lays : MethodName := ⟨RX12, "lays", "([II)V"⟩
abbrev cX12_takes : ByteArray := prog_14_method_120_code
def yX12_takes : MethodName := ⟨RX12, "takes", "([II)V"⟩
abbrev cX12_remembers : ByteArray := prog_14_method_121_code
def yX12_remembers : MethodName := ⟨RX12, "remembers", "()V"⟩
abbrev cX12_undo : ByteArray := prog_14_method_122_code
def yX12_undo : MethodName := ⟨RX12, "undo", "()I"⟩
abbrev cX12_keep : ByteArray := prog_14_method_123_code
def yX12_keep : MethodName := ⟨RX12, "keep", "()I"⟩
abbrev cX12_back : ByteArray := prog_14_method_124_code
def yX12_back : MethodName := ⟨RX12, "back", "()I"⟩
abbrev cX12_count : ByteArray := prog_14_method_125_code
def yX12_count : MethodName := ⟨RX12, "count", "(I)I"⟩
def RJ9 : String := "java/lang/Math"
def TJ9 : u_T := fun k => match k with
  | _ => ("", "", "", false)
def tyJ9 : Nat → FieldType := fun k => match k with
  | _ => .int
abbrev wsJ90 : List Cond := u_ws RJ9 TJ9 0
theorem nmJ9 : ∀ a, a < 0 → ∀ b, b < 0 → a ≠ b → (TJ9 a).2.1 ≠ (TJ9 b).2.1 := by decide +kernel
theorem tyJ9_ok : ∀ k, k < 0 → parseFieldDescriptor (TJ9 k).2.2.1 = some (tyJ9 k) := by decide +kernel
abbrev cJ9_abs_067f4 : ByteArray := prog_20_method_61_code
def yJ9_abs_067f4 : MethodName := ⟨RJ9, "abs", "(J)J"⟩
abbrev cJ9_max_7cf53 : ByteArray := prog_20_method_65_code
def yJ9_max_7cf53 : MethodName := ⟨RJ9, "max", "(II)I"⟩
abbrev cJ9_max_f86c9 : ByteArray := prog_20_method_66_code
def yJ9_max_f86c9 : MethodName := ⟨RJ9, "max", "(JJ)J"⟩
abbrev cJ9_min_7cf53 : ByteArray := prog_20_method_69_code
def yJ9_min_7cf53 : MethodName := ⟨RJ9, "min", "(II)I"⟩
abbrev cJ9_min_f86c9 : ByteArray := prog_20_method_70_code
def yJ9_min_f86c9 : MethodName := ⟨RJ9, "min", "(JJ)J"⟩
def RJ0 : String := "java/lang/String"
def TJ0 : u_T := fun k => match k with
  | _ => ("", "", "", false)
def tyJ0 : Nat → FieldType := fun k => match k with
  | _ => .int
abbrev wsJ00 : List Cond := u_ws RJ0 TJ0 0
theorem nmJ0 : ∀ a, a < 0 → ∀ b, b < 0 → a ≠ b → (TJ0 a).2.1 ≠ (TJ0 b).2.1 := by decide +kernel
theorem tyJ0_ok : ∀ k, k < 0 → parseFieldDescriptor (TJ0 k).2.2.1 = some (tyJ0 k) := by decide +kernel
abbrev cJ0_length_8abf5 : ByteArray := prog_22_method_54_code
def yJ0_length_8abf5 : MethodName := ⟨RJ0, "length", "()I"⟩
abbrev cJ0_charAt_5068e : ByteArray := prog_22_method_56_code
def yJ0_charAt_5068e : MethodName := ⟨RJ0, "charAt", "(I)C"⟩
abbrev cJ0_coder_7d493 : ByteArray := prog_22_method_152_code
def yJ0_coder_7d493 : MethodName := ⟨RJ0, "coder", "()B"⟩
abbrev cJ0_isLatin1_aae02 : ByteArray := prog_22_method_154_code
def yJ0_isLatin1_aae02 : MethodName := ⟨RJ0, "isLatin1", "()Z"⟩
abbrev cJ0_checkIndex_df160 : ByteArray := prog_22_method_155_code
def yJ0_checkIndex_df160 : MethodName := ⟨RJ0, "checkIndex", "(II)V"⟩
def RJ1 : String := "java/lang/StringLatin1"
def TJ1 : u_T := fun k => match k with
  | _ => ("", "", "", false)
def tyJ1 : Nat → FieldType := fun k => match k with
  | _ => .int
abbrev wsJ10 : List Cond := u_ws RJ1 TJ1 0
theorem nmJ1 : ∀ a, a < 0 → ∀ b, b < 0 → a ≠ b → (TJ1 a).2.1 ≠ (TJ1 b).2.1 := by decide +kernel
theorem tyJ1_ok : ∀ k, k < 0 → parseFieldDescriptor (TJ1 k).2.2.1 = some (tyJ1 k) := by decide +kernel
abbrev cJ1_charAt_3b067 : ByteArray := prog_23_method_2_code
def yJ1_charAt_3b067 : MethodName := ⟨RJ1, "charAt", "([BI)C"⟩
def RJ2 : String := "java/lang/StringUTF16"
def TJ2 : u_T := fun k => match k with
  | _ => ("", "", "", false)
def tyJ2 : Nat → FieldType := fun k => match k with
  | _ => .int
abbrev wsJ20 : List Cond := u_ws RJ2 TJ2 0
theorem nmJ2 : ∀ a, a < 0 → ∀ b, b < 0 → a ≠ b → (TJ2 a).2.1 ≠ (TJ2 b).2.1 := by decide +kernel
theorem tyJ2_ok : ∀ k, k < 0 → parseFieldDescriptor (TJ2 k).2.2.1 = some (tyJ2 k) := by decide +kernel
abbrev cJ2_getChar_3b067 : ByteArray := prog_24_method_5_code
def yJ2_getChar_3b067 : MethodName := ⟨RJ2, "getChar", "([BI)C"⟩
abbrev cJ2_length_9d52b : ByteArray := prog_24_method_6_code
def yJ2_length_9d52b : MethodName := ⟨RJ2, "length", "([B)I"⟩
abbrev cJ2_charAt_3b067 : ByteArray := prog_24_method_83_code
def yJ2_charAt_3b067 : MethodName := ⟨RJ2, "charAt", "([BI)C"⟩
abbrev cJ2_checkIndex_2214a : ByteArray := prog_24_method_91_code
def yJ2_checkIndex_2214a : MethodName := ⟨RJ2, "checkIndex", "(I[B)V"⟩
def RJ10 : String := "java/lang/System"
def TJ10 : u_T := fun k => match k with
  | _ => ("", "", "", false)
def tyJ10 : Nat → FieldType := fun k => match k with
  | _ => .int
abbrev wsJ100 : List Cond := u_ws RJ10 TJ10 0
theorem nmJ10 : ∀ a, a < 0 → ∀ b, b < 0 → a ≠ b → (TJ10 a).2.1 ≠ (TJ10 b).2.1 := by decide +kernel
theorem tyJ10_ok : ∀ k, k < 0 → parseFieldDescriptor (TJ10 k).2.2.1 = some (tyJ10 k) := by decide +kernel
def RJ7 : String := "java/util/Arrays"
def TJ7 : u_T := fun k => match k with
  | _ => ("", "", "", false)
def tyJ7 : Nat → FieldType := fun k => match k with
  | _ => .int
abbrev wsJ70 : List Cond := u_ws RJ7 TJ7 0
theorem nmJ7 : ∀ a, a < 0 → ∀ b, b < 0 → a ≠ b → (TJ7 a).2.1 ≠ (TJ7 b).2.1 := by decide +kernel
theorem tyJ7_ok : ∀ k, k < 0 → parseFieldDescriptor (TJ7 k).2.2.1 = some (tyJ7 k) := by decide +kernel
abbrev cJ7_fill_53178 : ByteArray := prog_29_method_103_code
def yJ7_fill_53178 : MethodName := ⟨RJ7, "fill", "([II)V"⟩
def RJ3 : String := "jdk/internal/util/Preconditions"
def TJ3 : u_T := fun k => match k with
  | _ => ("", "", "", false)
def tyJ3 : Nat → FieldType := fun k => match k with
  | _ => .int
abbrev wsJ30 : List Cond := u_ws RJ3 TJ3 0
theorem nmJ3 : ∀ a, a < 0 → ∀ b, b < 0 → a ≠ b → (TJ3 a).2.1 ≠ (TJ3 b).2.1 := by decide +kernel
theorem tyJ3_ok : ∀ k, k < 0 → parseFieldDescriptor (TJ3 k).2.2.1 = some (tyJ3 k) := by decide +kernel
abbrev cJ3_checkIndex_8e157 : ByteArray := prog_31_method_11_code
def yJ3_checkIndex_8e157 : MethodName := ⟨RJ3, "checkIndex", "(IILjava/util/function/BiFunction;)I"⟩
def RL : String := "FloatTownsLaw"
abbrev cL_look : ByteArray := method_3_code
def yL_look : MethodName := ⟨RL, "look", "(LFloatTowns;II[J)I"⟩
abbrev cL_law : ByteArray := code
def yL_law : MethodName := ⟨RL, "law", "([I)Z"⟩
abbrev vwCl : List vw_C := [(RX0, TX0, 8), (RX1, TX1, 4), (RX2, TX2, 5), (RX3, TX3, 6), (RX4, TX4, 17), (RX5, TX5, 2), (RX6, TX6, 10), (RX7, TX7, 10), (RX8, TX8, 5), (RX9, TX9, 10), (RX10, TX10, 13), (RX11, TX11, 11), (RX12, TX12, 87)]
set_option maxRecDepth 100000 in
theorem inX0 : ∀ w ∈ wsX00, w ∈ lw_tbl := by decide +kernel
set_option maxRecDepth 100000 in
theorem inX1 : ∀ w ∈ wsX10, w ∈ lw_tbl := by decide +kernel
set_option maxRecDepth 100000 in
theorem inX2 : ∀ w ∈ wsX20, w ∈ lw_tbl := by decide +kernel
set_option maxRecDepth 100000 in
theorem inX3 : ∀ w ∈ wsX30, w ∈ lw_tbl := by decide +kernel
set_option maxRecDepth 100000 in
theorem inX4 : ∀ w ∈ wsX40, w ∈ lw_tbl := by decide +kernel
set_option maxRecDepth 100000 in
theorem inX5 : ∀ w ∈ wsX50, w ∈ lw_tbl := by decide +kernel
set_option maxRecDepth 100000 in
theorem inX6 : ∀ w ∈ wsX60, w ∈ lw_tbl := by decide +kernel
set_option maxRecDepth 100000 in
theorem inX7 : ∀ w ∈ wsX70, w ∈ lw_tbl := by decide +kernel
set_option maxRecDepth 100000 in
theorem inX8 : ∀ w ∈ wsX80, w ∈ lw_tbl := by decide +kernel
set_option maxRecDepth 100000 in
theorem inX9 : ∀ w ∈ wsX90, w ∈ lw_tbl := by decide +kernel
set_option maxRecDepth 100000 in
theorem inX10 : ∀ w ∈ wsX100, w ∈ lw_tbl := by decide +kernel
set_option maxRecDepth 100000 in
theorem inX11 : ∀ w ∈ wsX110, w ∈ lw_tbl := by decide +kernel
set_option maxRecDepth 100000 in
theorem inX12 : ∀ w ∈ wsX120, w ∈ lw_tbl := by decide +kernel
set_option maxRecDepth 100000 in
theorem inJ9 : ∀ w ∈ wsJ90, w ∈ lw_tbl := by decide +kernel
set_option maxRecDepth 100000 in
theorem inJ0 : ∀ w ∈ wsJ00, w ∈ lw_tbl := by decide +kernel
set_option maxRecDepth 100000 in
theorem inJ1 : ∀ w ∈ wsJ10, w ∈ lw_tbl := by decide +kernel
set_option maxRecDepth 100000 in
theorem inJ2 : ∀ w ∈ wsJ20, w ∈ lw_tbl := by decide +kernel
set_option maxRecDepth 100000 in
theorem inJ10 : ∀ w ∈ wsJ100, w ∈ lw_tbl := by decide +kernel
set_option maxRecDepth 100000 in
theorem inJ7 : ∀ w ∈ wsJ70, w ∈ lw_tbl := by decide +kernel
set_option maxRecDepth 100000 in
theorem inJ3 : ∀ w ∈ wsJ30, w ∈ lw_tbl := by decide +kernel
