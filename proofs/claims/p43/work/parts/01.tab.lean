-- ===== PART A: goes FIRST, ahead of the names: the tables' words, and 'selects' of the private methods out of them =====
/-- a private method of a class that the tables say can be made, by its rows of tables_1 -/
def lw_okq (q : MethodName × Nat) : Prop := (q.1.cls ≠ "java/lang/invoke/MethodHandle" ∧ q.1.cls ≠ "java/lang/invoke/VarHandle") ∧ Cond.instantiable q.1.cls q.2 ∈ tables_1 ∧ Cond.privateMethod q.1 ∈ tables_1 ∧ Cond.instanceMethod q.1 ∈ tables_1
theorem lw_p0 : lw_okq (⟨"SpareDay", "forgetPasts", "()V"⟩, 9) := ⟨⟨by decide +kernel, by decide +kernel⟩, List.mem_of_getElem? (i := 25) (by decide +kernel), List.mem_of_getElem? (i := 427) (by decide +kernel), List.mem_of_getElem? (i := 428) (by decide +kernel)⟩
theorem lw_p1 : lw_okq (⟨"SpareDay$Realm", "welcome", "(II)I"⟩, 16) := ⟨⟨by decide +kernel, by decide +kernel⟩, List.mem_of_getElem? (i := 33) (by decide +kernel), List.mem_of_getElem? (i := 431) (by decide +kernel), List.mem_of_getElem? (i := 432) (by decide +kernel)⟩
theorem lw_p2 : lw_okq (⟨"SpareDay", "canBeSet", "(III)Z"⟩, 9) := ⟨⟨by decide +kernel, by decide +kernel⟩, List.mem_of_getElem? (i := 25) (by decide +kernel), List.mem_of_getElem? (i := 439) (by decide +kernel), List.mem_of_getElem? (i := 440) (by decide +kernel)⟩
theorem lw_p3 : lw_okq (⟨"SpareDay$Realm", "has", "(I)Z"⟩, 16) := ⟨⟨by decide +kernel, by decide +kernel⟩, List.mem_of_getElem? (i := 33) (by decide +kernel), List.mem_of_getElem? (i := 443) (by decide +kernel), List.mem_of_getElem? (i := 444) (by decide +kernel)⟩
theorem lw_p4 : lw_okq (⟨"SpareDay", "keepPast", "()V"⟩, 9) := ⟨⟨by decide +kernel, by decide +kernel⟩, List.mem_of_getElem? (i := 25) (by decide +kernel), List.mem_of_getElem? (i := 454) (by decide +kernel), List.mem_of_getElem? (i := 455) (by decide +kernel)⟩
theorem lw_p5 : lw_okq (⟨"SpareDay$Moment", "copy", "(LSpareDay$Moment;)V"⟩, 11) := ⟨⟨by decide +kernel, by decide +kernel⟩, List.mem_of_getElem? (i := 39) (by decide +kernel), List.mem_of_getElem? (i := 458) (by decide +kernel), List.mem_of_getElem? (i := 459) (by decide +kernel)⟩
theorem lw_p6 : lw_okq (⟨"SpareDay$Moment", "wearBy", "(I)V"⟩, 11) := ⟨⟨by decide +kernel, by decide +kernel⟩, List.mem_of_getElem? (i := 39) (by decide +kernel), List.mem_of_getElem? (i := 469) (by decide +kernel), List.mem_of_getElem? (i := 470) (by decide +kernel)⟩
theorem lw_p7 : lw_okq (⟨"SpareDay$Realm", "pass", "(LSpareDay$Moment;Z)I"⟩, 16) := ⟨⟨by decide +kernel, by decide +kernel⟩, List.mem_of_getElem? (i := 33) (by decide +kernel), List.mem_of_getElem? (i := 480) (by decide +kernel), List.mem_of_getElem? (i := 481) (by decide +kernel)⟩
theorem lw_p8 : lw_okq (⟨"SpareDay$Realm", "weigh", "(LSpareDay$Moment;)V"⟩, 16) := ⟨⟨by decide +kernel, by decide +kernel⟩, List.mem_of_getElem? (i := 33) (by decide +kernel), List.mem_of_getElem? (i := 487) (by decide +kernel), List.mem_of_getElem? (i := 488) (by decide +kernel)⟩
theorem lw_p9 : lw_okq (⟨"SpareDay$Realm", "asks", "(LSpareDay$Moment;III)I"⟩, 16) := ⟨⟨by decide +kernel, by decide +kernel⟩, List.mem_of_getElem? (i := 33) (by decide +kernel), List.mem_of_getElem? (i := 491) (by decide +kernel), List.mem_of_getElem? (i := 492) (by decide +kernel)⟩
theorem lw_p10 : lw_okq (⟨"SpareDay$Law", "tells", "(I[I)I"⟩, 6) := ⟨⟨by decide +kernel, by decide +kernel⟩, List.mem_of_getElem? (i := 125) (by decide +kernel), List.mem_of_getElem? (i := 501) (by decide +kernel), List.mem_of_getElem? (i := 502) (by decide +kernel)⟩
theorem lw_p11 : lw_okq (⟨"SpareDay$Code", "run", "(II[II)I"⟩, 4) := ⟨⟨by decide +kernel, by decide +kernel⟩, List.mem_of_getElem? (i := 131) (by decide +kernel), List.mem_of_getElem? (i := 505) (by decide +kernel), List.mem_of_getElem? (i := 506) (by decide +kernel)⟩
theorem lw_p12 : lw_okq (⟨"SpareDay$Realm", "elect", "(II)I"⟩, 16) := ⟨⟨by decide +kernel, by decide +kernel⟩, List.mem_of_getElem? (i := 33) (by decide +kernel), List.mem_of_getElem? (i := 528) (by decide +kernel), List.mem_of_getElem? (i := 529) (by decide +kernel)⟩
theorem lw_p13 : lw_okq (⟨"SpareDay$Council", "isMetBy", "(I)Z"⟩, 2) := ⟨⟨by decide +kernel, by decide +kernel⟩, List.mem_of_getElem? (i := 227) (by decide +kernel), List.mem_of_getElem? (i := 532) (by decide +kernel), List.mem_of_getElem? (i := 533) (by decide +kernel)⟩
theorem lw_p14 : lw_okq (⟨"SpareDay$Realm", "giveTo", "(LSpareDay$Moment;IZ)V"⟩, 16) := ⟨⟨by decide +kernel, by decide +kernel⟩, List.mem_of_getElem? (i := 33) (by decide +kernel), List.mem_of_getElem? (i := 537) (by decide +kernel), List.mem_of_getElem? (i := 538) (by decide +kernel)⟩
theorem lw_p15 : lw_okq (⟨"SpareDay$Moment", "hoursLeft", "()I"⟩, 11) := ⟨⟨by decide +kernel, by decide +kernel⟩, List.mem_of_getElem? (i := 39) (by decide +kernel), List.mem_of_getElem? (i := 541) (by decide +kernel), List.mem_of_getElem? (i := 542) (by decide +kernel)⟩
def lw_privs_1 : List (MethodName × Nat) := [(⟨"SpareDay", "forgetPasts", "()V"⟩, 9), (⟨"SpareDay$Realm", "welcome", "(II)I"⟩, 16), (⟨"SpareDay", "canBeSet", "(III)Z"⟩, 9), (⟨"SpareDay$Realm", "has", "(I)Z"⟩, 16), (⟨"SpareDay", "keepPast", "()V"⟩, 9), (⟨"SpareDay$Moment", "copy", "(LSpareDay$Moment;)V"⟩, 11), (⟨"SpareDay$Moment", "wearBy", "(I)V"⟩, 11), (⟨"SpareDay$Realm", "pass", "(LSpareDay$Moment;Z)I"⟩, 16), (⟨"SpareDay$Realm", "weigh", "(LSpareDay$Moment;)V"⟩, 16), (⟨"SpareDay$Realm", "asks", "(LSpareDay$Moment;III)I"⟩, 16), (⟨"SpareDay$Law", "tells", "(I[I)I"⟩, 6), (⟨"SpareDay$Code", "run", "(II[II)I"⟩, 4), (⟨"SpareDay$Realm", "elect", "(II)I"⟩, 16), (⟨"SpareDay$Council", "isMetBy", "(I)Z"⟩, 2), (⟨"SpareDay$Realm", "giveTo", "(LSpareDay$Moment;IZ)V"⟩, 16), (⟨"SpareDay$Moment", "hoursLeft", "()I"⟩, 11)]
theorem lw_r1 : ∀ q ∈ lw_privs_1, lw_okq q := List.forall_mem_cons.mpr ⟨lw_p0, List.forall_mem_cons.mpr ⟨lw_p1, List.forall_mem_cons.mpr ⟨lw_p2, List.forall_mem_cons.mpr ⟨lw_p3, List.forall_mem_cons.mpr ⟨lw_p4, List.forall_mem_cons.mpr ⟨lw_p5, List.forall_mem_cons.mpr ⟨lw_p6, List.forall_mem_cons.mpr ⟨lw_p7, List.forall_mem_cons.mpr ⟨lw_p8, List.forall_mem_cons.mpr ⟨lw_p9, List.forall_mem_cons.mpr ⟨lw_p10, List.forall_mem_cons.mpr ⟨lw_p11, List.forall_mem_cons.mpr ⟨lw_p12, List.forall_mem_cons.mpr ⟨lw_p13, List.forall_mem_cons.mpr ⟨lw_p14, List.forall_mem_cons.mpr ⟨lw_p15, fun _ h => absurd h List.not_mem_nil⟩⟩⟩⟩⟩⟩⟩⟩⟩⟩⟩⟩⟩⟩⟩⟩
theorem lw_p16 : lw_okq (⟨"SpareDay$Works", "bestSet", "(III)I"⟩, 10) := ⟨⟨by decide +kernel, by decide +kernel⟩, List.mem_of_getElem? (i := 175) (by decide +kernel), List.mem_of_getElem? (i := 545) (by decide +kernel), List.mem_of_getElem? (i := 546) (by decide +kernel)⟩
theorem lw_p17 : lw_okq (⟨"SpareDay$Works", "ownedBy", "(II)I"⟩, 10) := ⟨⟨by decide +kernel, by decide +kernel⟩, List.mem_of_getElem? (i := 175) (by decide +kernel), List.mem_of_getElem? (i := 549) (by decide +kernel), List.mem_of_getElem? (i := 550) (by decide +kernel)⟩
theorem lw_p18 : lw_okq (⟨"SpareDay$Works", "sum", "(I[I)I"⟩, 10) := ⟨⟨by decide +kernel, by decide +kernel⟩, List.mem_of_getElem? (i := 175) (by decide +kernel), List.mem_of_getElem? (i := 553) (by decide +kernel), List.mem_of_getElem? (i := 554) (by decide +kernel)⟩
theorem lw_p19 : lw_okq (⟨"SpareDay$Works", "isWhole", "(II)Z"⟩, 10) := ⟨⟨by decide +kernel, by decide +kernel⟩, List.mem_of_getElem? (i := 175) (by decide +kernel), List.mem_of_getElem? (i := 558) (by decide +kernel), List.mem_of_getElem? (i := 559) (by decide +kernel)⟩
theorem lw_p20 : lw_okq (⟨"SpareDay$Moment", "draw", "(I)I"⟩, 11) := ⟨⟨by decide +kernel, by decide +kernel⟩, List.mem_of_getElem? (i := 39) (by decide +kernel), List.mem_of_getElem? (i := 564) (by decide +kernel), List.mem_of_getElem? (i := 565) (by decide +kernel)⟩
theorem lw_p21 : lw_okq (⟨"SpareDay$Realm", "enter", "(LSpareDay$Moment;IIZ)V"⟩, 16) := ⟨⟨by decide +kernel, by decide +kernel⟩, List.mem_of_getElem? (i := 33) (by decide +kernel), List.mem_of_getElem? (i := 570) (by decide +kernel), List.mem_of_getElem? (i := 571) (by decide +kernel)⟩
theorem lw_p22 : lw_okq (⟨"SpareDay$Book", "write", "(LSpareDay$Moment;III)V"⟩, 4) := ⟨⟨by decide +kernel, by decide +kernel⟩, List.mem_of_getElem? (i := 102) (by decide +kernel), List.mem_of_getElem? (i := 574) (by decide +kernel), List.mem_of_getElem? (i := 575) (by decide +kernel)⟩
theorem lw_p23 : lw_okq (⟨"SpareDay$Moment", "growOlder", "(II)V"⟩, 11) := ⟨⟨by decide +kernel, by decide +kernel⟩, List.mem_of_getElem? (i := 39) (by decide +kernel), List.mem_of_getElem? (i := 579) (by decide +kernel), List.mem_of_getElem? (i := 580) (by decide +kernel)⟩
theorem lw_p24 : lw_okq (⟨"SpareDay", "lookFurther", "(I)I"⟩, 9) := ⟨⟨by decide +kernel, by decide +kernel⟩, List.mem_of_getElem? (i := 25) (by decide +kernel), List.mem_of_getElem? (i := 600) (by decide +kernel), List.mem_of_getElem? (i := 601) (by decide +kernel)⟩
theorem lw_p25 : lw_okq (⟨"SpareDay$Realm", "voices", "()I"⟩, 16) := ⟨⟨by decide +kernel, by decide +kernel⟩, List.mem_of_getElem? (i := 33) (by decide +kernel), List.mem_of_getElem? (i := 604) (by decide +kernel), List.mem_of_getElem? (i := 605) (by decide +kernel)⟩
theorem lw_p26 : lw_okq (⟨"SpareDay", "weightsNaming", "(I)I"⟩, 9) := ⟨⟨by decide +kernel, by decide +kernel⟩, List.mem_of_getElem? (i := 25) (by decide +kernel), List.mem_of_getElem? (i := 760) (by decide +kernel), List.mem_of_getElem? (i := 761) (by decide +kernel)⟩
theorem lw_p27 : lw_okq (⟨"SpareDay$Reader", "hasRoom", "(I)Z"⟩, 16) := ⟨⟨by decide +kernel, by decide +kernel⟩, List.mem_of_getElem? (i := 325) (by decide +kernel), List.mem_of_getElem? (i := 1044) (by decide +kernel), List.mem_of_getElem? (i := 1045) (by decide +kernel)⟩
theorem lw_p28 : lw_okq (⟨"SpareDay$Reader", "append", "(I)V"⟩, 16) := ⟨⟨by decide +kernel, by decide +kernel⟩, List.mem_of_getElem? (i := 325) (by decide +kernel), List.mem_of_getElem? (i := 1048) (by decide +kernel), List.mem_of_getElem? (i := 1049) (by decide +kernel)⟩
theorem lw_p29 : lw_okq (⟨"SpareDay$Reader", "begin", "(I)V"⟩, 16) := ⟨⟨by decide +kernel, by decide +kernel⟩, List.mem_of_getElem? (i := 325) (by decide +kernel), List.mem_of_getElem? (i := 1060) (by decide +kernel), List.mem_of_getElem? (i := 1061) (by decide +kernel)⟩
theorem lw_p30 : lw_okq (⟨"SpareDay$Reader", "findTokens", "()V"⟩, 16) := ⟨⟨by decide +kernel, by decide +kernel⟩, List.mem_of_getElem? (i := 325) (by decide +kernel), List.mem_of_getElem? (i := 1064) (by decide +kernel), List.mem_of_getElem? (i := 1065) (by decide +kernel)⟩
theorem lw_p31 : lw_okq (⟨"SpareDay$Reader", "wordKind", "(II)I"⟩, 16) := ⟨⟨by decide +kernel, by decide +kernel⟩, List.mem_of_getElem? (i := 325) (by decide +kernel), List.mem_of_getElem? (i := 1071) (by decide +kernel), List.mem_of_getElem? (i := 1072) (by decide +kernel)⟩
def lw_privs_2 : List (MethodName × Nat) := [(⟨"SpareDay$Works", "bestSet", "(III)I"⟩, 10), (⟨"SpareDay$Works", "ownedBy", "(II)I"⟩, 10), (⟨"SpareDay$Works", "sum", "(I[I)I"⟩, 10), (⟨"SpareDay$Works", "isWhole", "(II)Z"⟩, 10), (⟨"SpareDay$Moment", "draw", "(I)I"⟩, 11), (⟨"SpareDay$Realm", "enter", "(LSpareDay$Moment;IIZ)V"⟩, 16), (⟨"SpareDay$Book", "write", "(LSpareDay$Moment;III)V"⟩, 4), (⟨"SpareDay$Moment", "growOlder", "(II)V"⟩, 11), (⟨"SpareDay", "lookFurther", "(I)I"⟩, 9), (⟨"SpareDay$Realm", "voices", "()I"⟩, 16), (⟨"SpareDay", "weightsNaming", "(I)I"⟩, 9), (⟨"SpareDay$Reader", "hasRoom", "(I)Z"⟩, 16), (⟨"SpareDay$Reader", "append", "(I)V"⟩, 16), (⟨"SpareDay$Reader", "begin", "(I)V"⟩, 16), (⟨"SpareDay$Reader", "findTokens", "()V"⟩, 16), (⟨"SpareDay$Reader", "wordKind", "(II)I"⟩, 16)]
theorem lw_r2 : ∀ q ∈ lw_privs_2, lw_okq q := List.forall_mem_cons.mpr ⟨lw_p16, List.forall_mem_cons.mpr ⟨lw_p17, List.forall_mem_cons.mpr ⟨lw_p18, List.forall_mem_cons.mpr ⟨lw_p19, List.forall_mem_cons.mpr ⟨lw_p20, List.forall_mem_cons.mpr ⟨lw_p21, List.forall_mem_cons.mpr ⟨lw_p22, List.forall_mem_cons.mpr ⟨lw_p23, List.forall_mem_cons.mpr ⟨lw_p24, List.forall_mem_cons.mpr ⟨lw_p25, List.forall_mem_cons.mpr ⟨lw_p26, List.forall_mem_cons.mpr ⟨lw_p27, List.forall_mem_cons.mpr ⟨lw_p28, List.forall_mem_cons.mpr ⟨lw_p29, List.forall_mem_cons.mpr ⟨lw_p30, List.forall_mem_cons.mpr ⟨lw_p31, fun _ h => absurd h List.not_mem_nil⟩⟩⟩⟩⟩⟩⟩⟩⟩⟩⟩⟩⟩⟩⟩⟩
theorem lw_p32 : lw_okq (⟨"SpareDay$Reader", "addToken", "(III)V"⟩, 16) := ⟨⟨by decide +kernel, by decide +kernel⟩, List.mem_of_getElem? (i := 325) (by decide +kernel), List.mem_of_getElem? (i := 1078) (by decide +kernel), List.mem_of_getElem? (i := 1079) (by decide +kernel)⟩
theorem lw_p33 : lw_okq (⟨"SpareDay$Reader", "numberAt", "(II)I"⟩, 16) := ⟨⟨by decide +kernel, by decide +kernel⟩, List.mem_of_getElem? (i := 325) (by decide +kernel), List.mem_of_getElem? (i := 1085) (by decide +kernel), List.mem_of_getElem? (i := 1086) (by decide +kernel)⟩
theorem lw_p34 : lw_okq (⟨"SpareDay$Reader", "forward", "()V"⟩, 16) := ⟨⟨by decide +kernel, by decide +kernel⟩, List.mem_of_getElem? (i := 325) (by decide +kernel), List.mem_of_getElem? (i := 1092) (by decide +kernel), List.mem_of_getElem? (i := 1093) (by decide +kernel)⟩
theorem lw_p35 : lw_okq (⟨"SpareDay$Reader", "readLaw", "()Z"⟩, 16) := ⟨⟨by decide +kernel, by decide +kernel⟩, List.mem_of_getElem? (i := 325) (by decide +kernel), List.mem_of_getElem? (i := 1096) (by decide +kernel), List.mem_of_getElem? (i := 1097) (by decide +kernel)⟩
theorem lw_p36 : lw_okq (⟨"SpareDay$Reader", "refuse", "(I)Z"⟩, 16) := ⟨⟨by decide +kernel, by decide +kernel⟩, List.mem_of_getElem? (i := 325) (by decide +kernel), List.mem_of_getElem? (i := 1100) (by decide +kernel), List.mem_of_getElem? (i := 1101) (by decide +kernel)⟩
theorem lw_p37 : lw_okq (⟨"SpareDay$Reader", "readSum", "(LSpareDay$Code;)Z"⟩, 16) := ⟨⟨by decide +kernel, by decide +kernel⟩, List.mem_of_getElem? (i := 325) (by decide +kernel), List.mem_of_getElem? (i := 1104) (by decide +kernel), List.mem_of_getElem? (i := 1105) (by decide +kernel)⟩
theorem lw_p38 : lw_okq (⟨"SpareDay$Reader", "readTerm", "(LSpareDay$Code;)Z"⟩, 16) := ⟨⟨by decide +kernel, by decide +kernel⟩, List.mem_of_getElem? (i := 325) (by decide +kernel), List.mem_of_getElem? (i := 1108) (by decide +kernel), List.mem_of_getElem? (i := 1109) (by decide +kernel)⟩
theorem lw_p39 : lw_okq (⟨"SpareDay$Reader", "readUnit", "(LSpareDay$Code;)Z"⟩, 16) := ⟨⟨by decide +kernel, by decide +kernel⟩, List.mem_of_getElem? (i := 325) (by decide +kernel), List.mem_of_getElem? (i := 1112) (by decide +kernel), List.mem_of_getElem? (i := 1113) (by decide +kernel)⟩
theorem lw_p40 : lw_okq (⟨"SpareDay$Code", "add", "(II)V"⟩, 4) := ⟨⟨by decide +kernel, by decide +kernel⟩, List.mem_of_getElem? (i := 131) (by decide +kernel), List.mem_of_getElem? (i := 1116) (by decide +kernel), List.mem_of_getElem? (i := 1117) (by decide +kernel)⟩
theorem lw_p41 : lw_okq (⟨"SpareDay$Reader", "isNumber", "(II)Z"⟩, 16) := ⟨⟨by decide +kernel, by decide +kernel⟩, List.mem_of_getElem? (i := 325) (by decide +kernel), List.mem_of_getElem? (i := 1120) (by decide +kernel), List.mem_of_getElem? (i := 1121) (by decide +kernel)⟩
theorem lw_p42 : lw_okq (⟨"SpareDay$Reader", "readAny", "(LSpareDay$Code;ZI)Z"⟩, 16) := ⟨⟨by decide +kernel, by decide +kernel⟩, List.mem_of_getElem? (i := 325) (by decide +kernel), List.mem_of_getElem? (i := 1125) (by decide +kernel), List.mem_of_getElem? (i := 1126) (by decide +kernel)⟩
theorem lw_p43 : lw_okq (⟨"SpareDay$Reader", "readOne", "(LSpareDay$Code;ZI)Z"⟩, 16) := ⟨⟨by decide +kernel, by decide +kernel⟩, List.mem_of_getElem? (i := 325) (by decide +kernel), List.mem_of_getElem? (i := 1129) (by decide +kernel), List.mem_of_getElem? (i := 1130) (by decide +kernel)⟩
theorem lw_p44 : lw_okq (⟨"SpareDay$Reader", "skip", "(I)Z"⟩, 16) := ⟨⟨by decide +kernel, by decide +kernel⟩, List.mem_of_getElem? (i := 325) (by decide +kernel), List.mem_of_getElem? (i := 1133) (by decide +kernel), List.mem_of_getElem? (i := 1134) (by decide +kernel)⟩
theorem lw_p45 : lw_okq (⟨"SpareDay$Reader", "readPart", "(LSpareDay$Code;)Z"⟩, 16) := ⟨⟨by decide +kernel, by decide +kernel⟩, List.mem_of_getElem? (i := 325) (by decide +kernel), List.mem_of_getElem? (i := 1137) (by decide +kernel), List.mem_of_getElem? (i := 1138) (by decide +kernel)⟩
theorem lw_p46 : lw_okq (⟨"SpareDay$Law", "add", "(III)V"⟩, 6) := ⟨⟨by decide +kernel, by decide +kernel⟩, List.mem_of_getElem? (i := 125) (by decide +kernel), List.mem_of_getElem? (i := 1141) (by decide +kernel), List.mem_of_getElem? (i := 1142) (by decide +kernel)⟩
theorem lw_p47 : lw_okq (⟨"SpareDay$Law", "copy", "(LSpareDay$Law;)V"⟩, 6) := ⟨⟨by decide +kernel, by decide +kernel⟩, List.mem_of_getElem? (i := 125) (by decide +kernel), List.mem_of_getElem? (i := 1145) (by decide +kernel), List.mem_of_getElem? (i := 1146) (by decide +kernel)⟩
def lw_privs_3 : List (MethodName × Nat) := [(⟨"SpareDay$Reader", "addToken", "(III)V"⟩, 16), (⟨"SpareDay$Reader", "numberAt", "(II)I"⟩, 16), (⟨"SpareDay$Reader", "forward", "()V"⟩, 16), (⟨"SpareDay$Reader", "readLaw", "()Z"⟩, 16), (⟨"SpareDay$Reader", "refuse", "(I)Z"⟩, 16), (⟨"SpareDay$Reader", "readSum", "(LSpareDay$Code;)Z"⟩, 16), (⟨"SpareDay$Reader", "readTerm", "(LSpareDay$Code;)Z"⟩, 16), (⟨"SpareDay$Reader", "readUnit", "(LSpareDay$Code;)Z"⟩, 16), (⟨"SpareDay$Code", "add", "(II)V"⟩, 4), (⟨"SpareDay$Reader", "isNumber", "(II)Z"⟩, 16), (⟨"SpareDay$Reader", "readAny", "(LSpareDay$Code;ZI)Z"⟩, 16), (⟨"SpareDay$Reader", "readOne", "(LSpareDay$Code;ZI)Z"⟩, 16), (⟨"SpareDay$Reader", "skip", "(I)Z"⟩, 16), (⟨"SpareDay$Reader", "readPart", "(LSpareDay$Code;)Z"⟩, 16), (⟨"SpareDay$Law", "add", "(III)V"⟩, 6), (⟨"SpareDay$Law", "copy", "(LSpareDay$Law;)V"⟩, 6)]
theorem lw_r3 : ∀ q ∈ lw_privs_3, lw_okq q := List.forall_mem_cons.mpr ⟨lw_p32, List.forall_mem_cons.mpr ⟨lw_p33, List.forall_mem_cons.mpr ⟨lw_p34, List.forall_mem_cons.mpr ⟨lw_p35, List.forall_mem_cons.mpr ⟨lw_p36, List.forall_mem_cons.mpr ⟨lw_p37, List.forall_mem_cons.mpr ⟨lw_p38, List.forall_mem_cons.mpr ⟨lw_p39, List.forall_mem_cons.mpr ⟨lw_p40, List.forall_mem_cons.mpr ⟨lw_p41, List.forall_mem_cons.mpr ⟨lw_p42, List.forall_mem_cons.mpr ⟨lw_p43, List.forall_mem_cons.mpr ⟨lw_p44, List.forall_mem_cons.mpr ⟨lw_p45, List.forall_mem_cons.mpr ⟨lw_p46, List.forall_mem_cons.mpr ⟨lw_p47, fun _ h => absurd h List.not_mem_nil⟩⟩⟩⟩⟩⟩⟩⟩⟩⟩⟩⟩⟩⟩⟩⟩
theorem lw_p48 : lw_okq (⟨"SpareDay$Code", "copy", "(LSpareDay$Code;)V"⟩, 4) := ⟨⟨by decide +kernel, by decide +kernel⟩, List.mem_of_getElem? (i := 131) (by decide +kernel), List.mem_of_getElem? (i := 1149) (by decide +kernel), List.mem_of_getElem? (i := 1150) (by decide +kernel)⟩
theorem lw_p49 : lw_okq (⟨"SpareDay$Reader", "readVoices", "()Z"⟩, 16) := ⟨⟨by decide +kernel, by decide +kernel⟩, List.mem_of_getElem? (i := 325) (by decide +kernel), List.mem_of_getElem? (i := 1155) (by decide +kernel), List.mem_of_getElem? (i := 1156) (by decide +kernel)⟩
theorem lw_p50 : lw_okq (⟨"SpareDay$Reader", "readWorks", "()Z"⟩, 16) := ⟨⟨by decide +kernel, by decide +kernel⟩, List.mem_of_getElem? (i := 325) (by decide +kernel), List.mem_of_getElem? (i := 1160) (by decide +kernel), List.mem_of_getElem? (i := 1161) (by decide +kernel)⟩
theorem lw_p51 : lw_okq (⟨"SpareDay$Reader", "readEntry", "(I[III)Z"⟩, 16) := ⟨⟨by decide +kernel, by decide +kernel⟩, List.mem_of_getElem? (i := 325) (by decide +kernel), List.mem_of_getElem? (i := 1164) (by decide +kernel), List.mem_of_getElem? (i := 1165) (by decide +kernel)⟩
theorem lw_p52 : lw_okq (⟨"SpareDay$Reader", "readAfter", "()Z"⟩, 16) := ⟨⟨by decide +kernel, by decide +kernel⟩, List.mem_of_getElem? (i := 325) (by decide +kernel), List.mem_of_getElem? (i := 1168) (by decide +kernel), List.mem_of_getElem? (i := 1169) (by decide +kernel)⟩
theorem lw_p53 : lw_okq (⟨"SpareDay$Works", "copy", "(LSpareDay$Works;)V"⟩, 10) := ⟨⟨by decide +kernel, by decide +kernel⟩, List.mem_of_getElem? (i := 175) (by decide +kernel), List.mem_of_getElem? (i := 1172) (by decide +kernel), List.mem_of_getElem? (i := 1173) (by decide +kernel)⟩
theorem lw_p54 : lw_okq (⟨"SpareDay$Reader", "readCouncil", "()Z"⟩, 16) := ⟨⟨by decide +kernel, by decide +kernel⟩, List.mem_of_getElem? (i := 325) (by decide +kernel), List.mem_of_getElem? (i := 1177) (by decide +kernel), List.mem_of_getElem? (i := 1178) (by decide +kernel)⟩
theorem lw_p55 : lw_okq (⟨"SpareDay$Council", "copy", "(LSpareDay$Council;)V"⟩, 2) := ⟨⟨by decide +kernel, by decide +kernel⟩, List.mem_of_getElem? (i := 227) (by decide +kernel), List.mem_of_getElem? (i := 1181) (by decide +kernel), List.mem_of_getElem? (i := 1182) (by decide +kernel)⟩
def lw_privs_4 : List (MethodName × Nat) := [(⟨"SpareDay$Code", "copy", "(LSpareDay$Code;)V"⟩, 4), (⟨"SpareDay$Reader", "readVoices", "()Z"⟩, 16), (⟨"SpareDay$Reader", "readWorks", "()Z"⟩, 16), (⟨"SpareDay$Reader", "readEntry", "(I[III)Z"⟩, 16), (⟨"SpareDay$Reader", "readAfter", "()Z"⟩, 16), (⟨"SpareDay$Works", "copy", "(LSpareDay$Works;)V"⟩, 10), (⟨"SpareDay$Reader", "readCouncil", "()Z"⟩, 16), (⟨"SpareDay$Council", "copy", "(LSpareDay$Council;)V"⟩, 2)]
theorem lw_r4 : ∀ q ∈ lw_privs_4, lw_okq q := List.forall_mem_cons.mpr ⟨lw_p48, List.forall_mem_cons.mpr ⟨lw_p49, List.forall_mem_cons.mpr ⟨lw_p50, List.forall_mem_cons.mpr ⟨lw_p51, List.forall_mem_cons.mpr ⟨lw_p52, List.forall_mem_cons.mpr ⟨lw_p53, List.forall_mem_cons.mpr ⟨lw_p54, List.forall_mem_cons.mpr ⟨lw_p55, fun _ h => absurd h List.not_mem_nil⟩⟩⟩⟩⟩⟩⟩⟩
def lw_privs : List (MethodName × Nat) := lw_privs_1 ++ (lw_privs_2 ++ (lw_privs_3 ++ (lw_privs_4)))
def lw_tbl : List Cond := k2_sels lw_privs ++ tables_1
theorem lw_privs_ok : ∀ q ∈ lw_privs, lw_okq q := by
  show ∀ q ∈ lw_privs_1 ++ (lw_privs_2 ++ (lw_privs_3 ++ (lw_privs_4))), lw_okq q
  exact List.forall_mem_append.mpr ⟨lw_r1, List.forall_mem_append.mpr ⟨lw_r2, List.forall_mem_append.mpr ⟨lw_r3, lw_r4⟩⟩⟩

-- ===== classes, fields, methods of the claim, by number =====
def zCN : List String := ["SpareDay", "SpareDay$Realm", "SpareDay$Moment", "SpareDay$Book", "SpareDay$Law", "SpareDay$Code", "SpareDay$Works", "SpareDay$Council", "SpareDay$Bids", "SpareDay$Reader", "SpareDayLaw$Land", "java/lang/StringBuilder", "java/lang/String", "SpareDayLaw$Rule", "SpareDayLaw", "java/lang/AbstractStringBuilder", "java/lang/Integer", "java/lang/StringLatin1", "java/util/Arrays", "jdk/internal/util/ArraysSupport", "jdk/internal/util/Preconditions"]
def zcn (c : Nat) : String := zCN.getD c ""
def zFD : List (List (String × String × String × Bool)) := [[("SpareDay", "realm", "LSpareDay$Realm;", true), ("SpareDay", "likeness", "LSpareDay$Realm;", true), ("SpareDay", "hasLikeness", "Z", false), ("SpareDay", "pasts", "[LSpareDay$Moment;", true), ("SpareDay", "oldest", "I", false), ("SpareDay", "kept", "I", false), ("SpareDay", "thought", "LSpareDay$Moment;", true), ("SpareDay", "reader", "LSpareDay$Reader;", true), ("SpareDay", "doing", "[Z", true)],
  [("SpareDay$Realm", "now", "LSpareDay$Moment;", true), ("SpareDay$Realm", "book", "LSpareDay$Book;", true), ("SpareDay$Realm", "law", "LSpareDay$Law;", true), ("SpareDay$Realm", "works", "LSpareDay$Works;", true), ("SpareDay$Realm", "council", "LSpareDay$Council;", true), ("SpareDay$Realm", "bids", "LSpareDay$Bids;", true), ("SpareDay$Realm", "need", "[I", true), ("SpareDay$Realm", "by", "[I", true), ("SpareDay$Realm", "names", "[I", true), ("SpareDay$Realm", "weights", "[I", true), ("SpareDay$Realm", "facts", "[I", true), ("SpareDay$Realm", "people", "I", false), ("SpareDay$Realm", "rest", "I", false), ("SpareDay$Realm", "limit", "I", false), ("SpareDay$Realm", "dust", "I", false), ("SpareDay$Realm", "wax", "I", false)],
  [("SpareDay$Moment", "age", "[I", true), ("SpareDay$Moment", "had", "[I", true), ("SpareDay$Moment", "since", "[I", true), ("SpareDay$Moment", "tied", "[I", true), ("SpareDay$Moment", "wear", "I", false), ("SpareDay$Moment", "year", "I", false), ("SpareDay$Moment", "noticed", "I", false), ("SpareDay$Moment", "worth", "I", false), ("SpareDay$Moment", "done", "I", false), ("SpareDay$Moment", "draws", "I", false), ("SpareDay$Moment", "lines", "I", false)],
  [("SpareDay$Book", "year", "[I", true), ("SpareDay$Book", "kind", "[I", true), ("SpareDay$Book", "whom", "[I", true), ("SpareDay$Book", "hours", "[I", true)],
  [("SpareDay$Law", "code", "LSpareDay$Code;", true), ("SpareDay$Law", "words", "[I", true), ("SpareDay$Law", "starts", "[I", true), ("SpareDay$Law", "whens", "[I", true), ("SpareDay$Law", "ends", "[I", true), ("SpareDay$Law", "lines", "I", false)],
  [("SpareDay$Code", "ops", "[I", true), ("SpareDay$Code", "args", "[I", true), ("SpareDay$Code", "stack", "[I", true), ("SpareDay$Code", "size", "I", false)],
  [("SpareDay$Works", "owner", "[I", true), ("SpareDay$Works", "hours", "[I", true), ("SpareDay$Works", "worth", "[I", true), ("SpareDay$Works", "dust", "[I", true), ("SpareDay$Works", "wax", "[I", true), ("SpareDay$Works", "behind", "[I", true), ("SpareDay$Works", "count", "I", false), ("SpareDay$Works", "fitsWith", "[I", true), ("SpareDay$Works", "fitSets", "I", false), ("SpareDay$Works", "leastFit", "I", false)],
  [("SpareDay$Council", "code", "LSpareDay$Code;", true), ("SpareDay$Council", "parts", "I", false)],
  [("SpareDay$Bids", "bidder", "[I", true), ("SpareDay$Bids", "amount", "[I", true), ("SpareDay$Bids", "count", "I", false)],
  [("SpareDay$Reader", "tape", "[I", true), ("SpareDay$Reader", "bytes", "I", false), ("SpareDay$Reader", "kinds", "[I", true), ("SpareDay$Reader", "values", "[I", true), ("SpareDay$Reader", "places", "[I", true), ("SpareDay$Reader", "tokens", "I", false), ("SpareDay$Reader", "at", "I", false), ("SpareDay$Reader", "kind", "I", false), ("SpareDay$Reader", "value", "I", false), ("SpareDay$Reader", "people", "I", false), ("SpareDay$Reader", "fault", "I", false), ("SpareDay$Reader", "faultPlace", "I", false), ("SpareDay$Reader", "law", "LSpareDay$Law;", true), ("SpareDay$Reader", "names", "[I", true), ("SpareDay$Reader", "works", "LSpareDay$Works;", true), ("SpareDay$Reader", "council", "LSpareDay$Council;", true)],
  [("SpareDayLaw$Land", "state", "I", false), ("SpareDayLaw$Land", "year", "I", false), ("SpareDayLaw$Land", "wear", "I", false), ("SpareDayLaw$Land", "rest", "I", false), ("SpareDayLaw$Land", "limit", "I", false), ("SpareDayLaw$Land", "noticed", "I", false), ("SpareDayLaw$Land", "worth", "I", false), ("SpareDayLaw$Land", "people", "I", false), ("SpareDayLaw$Land", "lines", "I", false), ("SpareDayLaw$Land", "done", "I", false), ("SpareDayLaw$Land", "person", "[[I", false), ("SpareDayLaw$Land", "work", "[[I", false), ("SpareDayLaw$Land", "line", "[[I", false), ("SpareDayLaw$Land", "rule", "LSpareDayLaw$Rule;", false), ("SpareDayLaw$Land", "law", "[I", false)],
  [("java/lang/AbstractStringBuilder", "value", "[B", false), ("java/lang/AbstractStringBuilder", "coder", "B", false), ("java/lang/AbstractStringBuilder", "maybeLatin1", "Z", false), ("java/lang/AbstractStringBuilder", "count", "I", false)],
  [("java/lang/String", "value", "[B", true), ("java/lang/String", "coder", "B", true), ("java/lang/String", "hash", "I", false), ("java/lang/String", "hashIsZero", "Z", false)],
  [("SpareDayLaw$Rule", "kind", "I", true), ("SpareDayLaw$Rule", "of", "I", true), ("SpareDayLaw$Rule", "one", "LSpareDayLaw$Rule;", true), ("SpareDayLaw$Rule", "other", "LSpareDayLaw$Rule;", true)]]
def zFK : List (List Nat) := [[2, 2, 1, 2, 0, 0, 2, 2, 2], [2, 2, 2, 2, 2, 2, 2, 2, 2, 2, 2, 0, 0, 0, 0, 0], [2, 2, 2, 2, 0, 0, 0, 0, 0, 0, 0], [2, 2, 2, 2], [2, 2, 2, 2, 2, 0], [2, 2, 2, 0], [2, 2, 2, 2, 2, 2, 0, 2, 0, 0], [2, 0], [2, 2, 0], [2, 0, 2, 2, 2, 0, 0, 0, 0, 0, 0, 0, 2, 2, 2, 2], [0, 0, 0, 0, 0, 0, 0, 0, 0, 0, 2, 2, 2, 2, 2], [2, 3, 1, 0], [2, 3, 0, 1], [0, 0, 2, 2]]
def zfk (c k : Nat) : Nat := (zFK.getD c []).getD k 9
def zfin (c k : Nat) : Bool := ((zFD.getD c []).getD k ("", "", "", false)).2.2.2
def zT (c : Nat) : u_T := fun k => (zFD.getD c []).getD k ("", "", "", false)
def zN (c : Nat) : Nat := (zFD.getD c []).length
def zCL : List vw_C := (List.range 14).map fun c => (zcn c, zT c, zN c)
/-- the nest that an own class belongs to -/
def zho (own : Nat) : String := if zcn own = "SpareDayLaw" ∨ zcn own = "SpareDayLaw$Land" ∨ zcn own = "SpareDayLaw$Rule" then "SpareDayLaw" else "SpareDay"
/-- own class, pool place, class, field, by the nest -/
def zFL : List (Nat × Nat × Nat × Nat × Bool) := [(2, 9, 2, 0, false), (0, 91, 2, 0, true), (1, 110, 2, 0, true), (2, 15, 2, 1, false), (1, 113, 2, 1, true), (0, 207, 2, 1, true), (2, 18, 2, 2, false), (1, 116, 2, 2, true), (0, 210, 2, 2, true), (2, 21, 2, 3, false), (0, 98, 2, 3, true), (1, 119, 2, 3, true), (2, 30, 2, 4, false), (0, 75, 2, 4, true), (1, 122, 2, 4, true), (2, 34, 2, 5, false), (3, 36, 2, 5, true), (1, 125, 2, 5, true), (0, 112, 2, 5, true), (2, 37, 2, 6, false), (1, 202, 2, 6, true), (0, 359, 2, 6, true), (2, 40, 2, 7, false), (1, 190, 2, 7, true), (0, 277, 2, 7, true), (2, 43, 2, 8, false), (1, 178, 2, 8, true), (0, 179, 2, 8, true), (0, 55, 2, 9, true), (2, 46, 2, 9, false), (2, 49, 2, 10, false), (3, 30, 2, 10, true), (0, 239, 2, 10, true), (3, 9, 3, 0, false), (0, 244, 3, 0, true), (3, 15, 3, 1, false), (0, 248, 3, 1, true), (3, 18, 3, 2, false), (0, 251, 3, 2, true), (3, 21, 3, 3, false), (0, 254, 3, 3, true), (5, 9, 5, 0, false), (5, 15, 5, 1, false), (5, 18, 5, 2, false), (5, 27, 5, 3, false), (7, 24, 5, 3, true), (4, 45, 5, 3, true), (9, 127, 5, 3, true), (4, 12, 4, 0, false), (9, 123, 4, 0, true), (4, 18, 4, 1, false), (4, 22, 4, 2, false), (4, 25, 4, 3, false), (4, 28, 4, 4, false), (4, 41, 4, 5, false), (0, 146, 4, 5, true), (9, 120, 4, 5, true), (6, 9, 6, 0, false), (0, 221, 6, 0, true), (9, 172, 6, 0, true), (6, 15, 6, 1, false), (1, 184, 6, 1, true), (0, 224, 6, 1, true), (9, 179, 6, 1, true), (6, 18, 6, 2, false), (1, 193, 6, 2, true), (0, 227, 6, 2, true), (9, 182, 6, 2, true), (6, 21, 6, 3, false), (0, 230, 6, 3, true), (9, 185, 6, 3, true), (6, 24, 6, 4, false), (0, 233, 6, 4, true), (9, 188, 6, 4, true), (6, 27, 6, 5, false), (0, 236, 6, 5, true), (9, 195, 6, 5, true), (6, 39, 6, 6, false), (0, 182, 6, 6, true), (1, 209, 6, 6, true), (9, 169, 6, 6, true), (6, 30, 6, 7, false), (7, 10, 7, 0, false), (9, 149, 7, 0, true), (7, 20, 7, 1, false), (0, 198, 7, 1, true), (9, 146, 7, 1, true), (8, 9, 8, 0, false), (8, 15, 8, 1, false), (0, 325, 8, 2, true), (1, 12, 1, 0, false), (0, 52, 1, 0, true), (1, 21, 1, 1, false), (0, 240, 1, 1, true), (1, 28, 1, 2, false), (0, 135, 1, 2, true), (1, 35, 1, 3, false), (0, 169, 1, 3, true), (1, 42, 1, 4, false), (0, 188, 1, 4, true), (1, 49, 1, 5, false), (0, 321, 1, 5, true), (1, 53, 1, 6, false), (0, 84, 1, 6, true), (1, 57, 1, 7, false), (0, 88, 1, 7, true), (1, 60, 1, 8, false), (0, 155, 1, 8, true), (1, 63, 1, 9, false), (1, 66, 1, 10, false), (1, 101, 1, 11, false), (0, 65, 1, 11, true), (1, 69, 1, 12, false), (0, 78, 1, 12, true), (1, 73, 1, 13, false), (0, 81, 1, 13, true), (0, 299, 1, 14, true), (0, 301, 1, 15, true), (9, 9, 9, 0, false), (9, 52, 9, 1, false), (0, 125, 9, 1, true), (9, 15, 9, 2, false), (9, 18, 9, 3, false), (9, 21, 9, 4, false), (9, 70, 9, 5, false), (9, 64, 9, 6, false), (9, 107, 9, 7, false), (9, 110, 9, 8, false), (9, 55, 9, 9, false), (9, 58, 9, 10, false), (9, 24, 9, 11, false), (9, 31, 9, 12, false), (0, 139, 9, 12, true), (9, 35, 9, 13, false), (0, 152, 9, 13, true), (9, 41, 9, 14, false), (0, 173, 9, 14, true), (9, 48, 9, 15, false), (0, 192, 9, 15, true), (0, 10, 0, 0, false), (0, 16, 0, 1, false), (0, 19, 0, 2, false), (0, 25, 0, 3, false), (0, 30, 0, 4, false), (0, 34, 0, 5, false), (0, 37, 0, 6, false), (0, 44, 0, 7, false), (0, 48, 0, 8, false), (10, 29, 10, 0, false), (14, 170, 10, 0, true), (10, 32, 10, 1, false), (10, 35, 10, 2, false), (14, 154, 10, 2, true), (10, 7, 10, 3, false), (14, 157, 10, 3, true), (10, 13, 10, 4, false), (14, 160, 10, 4, true), (10, 38, 10, 5, false), (10, 41, 10, 6, false), (10, 44, 10, 7, false), (14, 40, 10, 7, true), (10, 47, 10, 8, false), (10, 50, 10, 9, false), (14, 84, 10, 9, true), (10, 18, 10, 10, false), (14, 46, 10, 10, true), (10, 22, 10, 11, false), (14, 81, 10, 11, true), (10, 25, 10, 12, false), (10, 53, 10, 13, false), (14, 108, 10, 13, true), (10, 57, 10, 14, false), (14, 122, 10, 14, true), (15, 15, 11, 0, false), (15, 22, 11, 1, false), (12, 1048, 11, 2, false), (15, 79, 11, 3, false), (12, 9, 12, 0, false), (12, 15, 12, 1, false), (13, 7, 13, 0, false), (13, 13, 13, 1, false), (13, 16, 13, 2, false), (13, 20, 13, 3, false)]
def zFP : List Nat := [44, 45, 46, 47, 48, 49, 50, 51, 52, 53, 54, 55, 56, 57, 58, 59, 60, 61, 62, 63, 64, 65, 66, 67, 68, 69, 70, 71, 72, 73, 74, 75, 76, 107, 108, 109, 110, 111, 112, 113, 114, 136, 137, 138, 139, 140, 141, 142, 152, 153, 154, 155, 156, 157, 158, 159, 160, 180, 181, 182, 183, 184, 185, 186, 187, 188, 189, 190, 191, 192, 193, 194, 195, 196, 197, 198, 199, 200, 201, 202, 203, 204, 234, 235, 236, 237, 238, 250, 251, 252, 260, 261, 262, 263, 264, 265, 266, 267, 268, 269, 270, 271, 272, 273, 274, 275, 276, 277, 278, 279, 280, 281, 282, 283, 284, 285, 286, 287, 336, 337, 338, 339, 340, 341, 342, 343, 344, 345, 346, 347, 348, 349, 350, 351, 352, 353, 354, 355, 356, 390, 391, 392, 393, 394, 395, 396, 397, 398, 621, 622, 623, 624, 625, 626, 627, 628, 629, 630, 631, 632, 633, 634, 635, 636, 637, 638, 639, 640, 641, 642, 643, 644, 645, 798, 799, 800, 801, 1000, 1001, 1204, 1205, 1206, 1207]
def zFw (q : Nat × Nat × Nat × Nat × Bool) : Cond := if q.2.2.2.2 then .fieldLinkNest (zcn q.1) q.2.1 (zT q.2.2.1 q.2.2.2.1).1 (zT q.2.2.1 q.2.2.2.1).2.1 (zT q.2.2.1 q.2.2.2.1).2.2.1 (zho q.1) else .fieldLink (zcn q.1) q.2.1 (zT q.2.2.1 q.2.2.2.1).1 (zT q.2.2.1 q.2.2.2.1).2.1 (zT q.2.2.1 q.2.2.2.1).2.2.1
def zfld (own ix : Nat) : Option (Nat × Nat) := (zFL.find? fun q => q.1 == own && q.2.1 == ix).map fun q => (q.2.2.1, q.2.2.2.1)
def zat (i : Nat) : ByteArray := match tables_1[i]? with
  | some (.code _ b _ _) => b
  | _ => ⟨#[]⟩
abbrev ZM : Type := MethodName × ByteArray × Nat × Option FieldType × Nat × Nat × Nat
/-- name, code, locals, answer, kind (0 static, 1 of an object, 2 constructor), parameters, own class -/
def zMT0 : List ZM := [
  (⟨zcn 0, "<init>", "()V"⟩, zat 28, 2, none, 2, 0, 0),
  (⟨zcn 1, "<init>", "()V"⟩, zat 36, 1, none, 2, 0, 1),
  (⟨zcn 2, "<init>", "()V"⟩, zat 42, 1, none, 2, 0, 2),
  (⟨zcn 3, "<init>", "()V"⟩, zat 105, 1, none, 2, 0, 3),
  (⟨zcn 4, "<init>", "()V"⟩, zat 128, 1, none, 2, 0, 4),
  (⟨zcn 5, "<init>", "()V"⟩, zat 134, 1, none, 2, 0, 5),
  (⟨zcn 6, "<init>", "()V"⟩, zat 178, 1, none, 2, 0, 6),
  (⟨zcn 7, "<init>", "()V"⟩, zat 230, 1, none, 2, 0, 7),
  (⟨zcn 8, "<init>", "()V"⟩, zat 248, 1, none, 2, 0, 8),
  (⟨zcn 9, "<init>", "()V"⟩, zat 328, 1, none, 2, 0, 9),
  (⟨zcn 0, "state", "(I)I"⟩, zat 1255, 3, some .int, 1, 1, 0),
  (⟨zcn 0, "forgetPasts", "()V"⟩, zat 429, 1, none, 1, 0, 0),
  (⟨zcn 0, "person", "(II)I"⟩, zat 422, 3, some .int, 1, 2, 0),
  (⟨zcn 0, "within", "(III)Z"⟩, zat 425, 3, some .boolean, 0, 3, 0),
  (⟨zcn 1, "welcome", "(II)I"⟩, zat 433, 4, some .int, 1, 2, 1),
  (⟨zcn 0, "set", "(III)Z"⟩, zat 437, 4, some .boolean, 1, 3, 0),
  (⟨zcn 0, "canBeSet", "(III)Z"⟩, zat 441, 4, some .boolean, 1, 3, 0),
  (⟨zcn 1, "has", "(I)Z"⟩, zat 445, 2, some .boolean, 1, 1, 1),
  (⟨zcn 0, "tie", "(IIZ)Z"⟩, zat 449, 4, some .boolean, 1, 3, 0),
  (⟨zcn 0, "isIn", "(II)Z"⟩, zat 452, 2, some .boolean, 0, 2, 0),
  (⟨zcn 0, "keepPast", "()V"⟩, zat 456, 2, none, 1, 0, 0),
  (⟨zcn 2, "copy", "(LSpareDay$Moment;)V"⟩, zat 460, 2, none, 1, 1, 2),
  (⟨zcn 0, "sit", "(I)I"⟩, zat 467, 2, some .int, 1, 1, 0),
  (⟨zcn 2, "wearBy", "(I)V"⟩, zat 471, 2, none, 1, 1, 2),
  (⟨zcn 0, "years", "(I)I"⟩, zat 478, 4, some .int, 1, 1, 0),
  (⟨zcn 1, "pass", "(LSpareDay$Moment;Z)I"⟩, zat 482, 4, some .int, 1, 2, 1),
  (⟨zcn 1, "weigh", "(LSpareDay$Moment;)V"⟩, zat 489, 3, none, 1, 1, 1),
  (⟨zcn 1, "asks", "(LSpareDay$Moment;III)I"⟩, zat 493, 5, some .int, 1, 4, 1),
  (⟨zcn 16, "bitCount", "(I)I"⟩, zat 496, 1, some .int, 0, 1, 16),
  (⟨zcn 4, "tells", "(I[I)I"⟩, zat 503, 5, some .int, 1, 2, 4),
  (⟨zcn 5, "run", "(II[II)I"⟩, zat 507, 8, some .int, 1, 4, 5),
  (⟨zcn 5, "isValue", "(I)Z"⟩, zat 511, 1, some .boolean, 0, 1, 5),
  (⟨zcn 5, "value", "(II[II)I"⟩, zat 514, 4, some .int, 0, 4, 5),
  (⟨zcn 5, "changed", "(III)I"⟩, zat 518, 3, some .int, 0, 3, 5),
  (⟨zcn 5, "joined", "(III)I"⟩, zat 521, 3, some .int, 0, 3, 5),
  (⟨zcn 0, "held", "(III)I"⟩, zat 524, 3, some .int, 0, 3, 0),
  (⟨zcn 1, "elect", "(II)I"⟩, zat 530, 9, some .int, 1, 2, 1),
  (⟨zcn 7, "isMetBy", "(I)Z"⟩, zat 534, 2, some .boolean, 1, 1, 7),
  (⟨zcn 1, "giveTo", "(LSpareDay$Moment;IZ)V"⟩, zat 539, 9, none, 1, 3, 1),
  (⟨zcn 2, "hoursLeft", "()I"⟩, zat 543, 1, some .int, 1, 0, 2),
  (⟨zcn 6, "bestSet", "(III)I"⟩, zat 547, 12, some .int, 1, 3, 6),
  (⟨zcn 6, "ownedBy", "(II)I"⟩, zat 551, 5, some .int, 1, 2, 6),
  (⟨zcn 6, "sum", "(I[I)I"⟩, zat 555, 5, some .int, 1, 2, 6),
  (⟨zcn 6, "isWhole", "(II)Z"⟩, zat 560, 4, some .boolean, 1, 2, 6),
  (⟨zcn 2, "draw", "(I)I"⟩, zat 566, 2, some .int, 1, 1, 2),
  (⟨zcn 1, "enter", "(LSpareDay$Moment;IIZ)V"⟩, zat 572, 6, none, 1, 4, 1),
  (⟨zcn 3, "write", "(LSpareDay$Moment;III)V"⟩, zat 576, 6, none, 1, 4, 3),
  (⟨zcn 2, "growOlder", "(II)V"⟩, zat 581, 4, none, 1, 2, 2),
  (⟨zcn 0, "feed", "(IIIII)I"⟩, zat 1042, 6, some .int, 1, 5, 0),
  (⟨zcn 9, "hasRoom", "(I)Z"⟩, zat 1046, 2, some .boolean, 1, 1, 9),
  (⟨zcn 9, "append", "(I)V"⟩, zat 1050, 3, none, 1, 1, 9),
  (⟨zcn 0, "end", "(I)Z"⟩, zat 1054, 2, some .boolean, 1, 1, 0),
  (⟨zcn 0, "text", "(I)I"⟩, zat 1058, 2, some .int, 1, 1, 0),
  (⟨zcn 9, "begin", "(I)V"⟩, zat 1062, 2, none, 1, 1, 9),
  (⟨zcn 9, "findTokens", "()V"⟩, zat 1066, 4, none, 1, 0, 9),
  (⟨zcn 9, "isLetter", "(I)Z"⟩, zat 1069, 1, some .boolean, 0, 1, 9),
  (⟨zcn 9, "wordKind", "(II)I"⟩, zat 1073, 8, some .int, 1, 2, 9),
  (⟨zcn 12, "length", "()I"⟩, zat 910, 1, some .int, 1, 0, 12),
  (⟨zcn 12, "coder", "()B"⟩, zat 914, 1, some .byte, 1, 0, 12),
  (⟨zcn 12, "charAt", "(I)C"⟩, zat 1018, 2, some .char, 1, 1, 12)]
def zMT1 : List ZM := [
  (⟨zcn 12, "isLatin1", "()Z"⟩, zat 1022, 1, some .boolean, 1, 0, 12),
  (⟨zcn 17, "charAt", "([BI)C"⟩, zat 1025, 2, some .char, 0, 2, 17),
  (⟨zcn 12, "checkIndex", "(II)V"⟩, zat 1028, 2, none, 0, 2, 12),
  (⟨zcn 20, "checkIndex", "(IILjava/util/function/BiFunction;)I"⟩, zat 1031, 3, some .int, 0, 3, 20),
  (⟨zcn 9, "addToken", "(III)V"⟩, zat 1080, 4, none, 1, 3, 9),
  (⟨zcn 9, "isDigit", "(I)Z"⟩, zat 1083, 1, some .boolean, 0, 1, 9),
  (⟨zcn 9, "numberAt", "(II)I"⟩, zat 1087, 5, some .int, 1, 2, 9),
  (⟨zcn 9, "signKind", "(I)I"⟩, zat 1090, 1, some .int, 0, 1, 9),
  (⟨zcn 9, "forward", "()V"⟩, zat 1094, 1, none, 1, 0, 9),
  (⟨zcn 9, "readLaw", "()Z"⟩, zat 1098, 5, some .boolean, 1, 0, 9),
  (⟨zcn 9, "refuse", "(I)Z"⟩, zat 1102, 2, some .boolean, 1, 1, 9),
  (⟨zcn 9, "readSum", "(LSpareDay$Code;)Z"⟩, zat 1106, 4, some .boolean, 1, 1, 9),
  (⟨zcn 9, "readTerm", "(LSpareDay$Code;)Z"⟩, zat 1110, 4, some .boolean, 1, 1, 9),
  (⟨zcn 9, "readUnit", "(LSpareDay$Code;)Z"⟩, zat 1114, 2, some .boolean, 1, 1, 9),
  (⟨zcn 5, "add", "(II)V"⟩, zat 1118, 3, none, 1, 2, 5),
  (⟨zcn 9, "isNumber", "(II)Z"⟩, zat 1122, 3, some .boolean, 1, 2, 9),
  (⟨zcn 9, "readAny", "(LSpareDay$Code;ZI)Z"⟩, zat 1127, 7, some .boolean, 1, 3, 9),
  (⟨zcn 9, "readOne", "(LSpareDay$Code;ZI)Z"⟩, zat 1131, 5, some .boolean, 1, 3, 9),
  (⟨zcn 9, "skip", "(I)Z"⟩, zat 1135, 2, some .boolean, 1, 1, 9),
  (⟨zcn 9, "readPart", "(LSpareDay$Code;)Z"⟩, zat 1139, 3, some .boolean, 1, 1, 9),
  (⟨zcn 4, "add", "(III)V"⟩, zat 1143, 4, none, 1, 3, 4),
  (⟨zcn 4, "copy", "(LSpareDay$Law;)V"⟩, zat 1147, 2, none, 1, 1, 4),
  (⟨zcn 5, "copy", "(LSpareDay$Code;)V"⟩, zat 1151, 2, none, 1, 1, 5),
  (⟨zcn 9, "readVoices", "()Z"⟩, zat 1157, 3, some .boolean, 1, 0, 9),
  (⟨zcn 1, "voices", "()I"⟩, zat 606, 3, some .int, 1, 0, 1),
  (⟨zcn 9, "readWorks", "()Z"⟩, zat 1162, 3, some .boolean, 1, 0, 9),
  (⟨zcn 9, "readEntry", "(I[III)Z"⟩, zat 1166, 5, some .boolean, 1, 4, 9),
  (⟨zcn 9, "readAfter", "()Z"⟩, zat 1170, 2, some .boolean, 1, 0, 9),
  (⟨zcn 6, "copy", "(LSpareDay$Works;)V"⟩, zat 1174, 2, none, 1, 1, 6),
  (⟨zcn 9, "readCouncil", "()Z"⟩, zat 1179, 1, some .boolean, 1, 0, 9),
  (⟨zcn 7, "copy", "(LSpareDay$Council;)V"⟩, zat 1183, 2, none, 1, 1, 7),
  (⟨zcn 10, "copy", "()LSpareDayLaw$Land;"⟩, zat 612, 3, some (.object "SpareDayLaw$Land"), 1, 0, 10),
  (⟨zcn 0, "of", "(II)I"⟩, zat 758, 3, some .int, 1, 2, 0),
  (⟨zcn 0, "weightsNaming", "(I)I"⟩, zat 762, 4, some .int, 1, 1, 0),
  (⟨zcn 0, "after", "(IIZ)I"⟩, zat 585, 4, some .int, 1, 3, 0),
  (⟨zcn 0, "work", "(II)I"⟩, zat 767, 4, some .int, 1, 2, 0),
  (⟨zcn 0, "book", "(II)I"⟩, zat 590, 3, some .int, 1, 2, 0),
  (⟨zcn 10, "<init>", "()V"⟩, zat 617, 1, none, 2, 0, 10),
  (⟨zcn 10, "passes", "(Z)I"⟩, zat 686, 8, some .int, 1, 1, 10),
  (⟨zcn 10, "notes", "(IIIZ)V"⟩, zat 691, 5, none, 1, 4, 10),
  (⟨zcn 10, "given", "()I"⟩, zat 695, 3, some .int, 1, 0, 10),
  (⟨zcn 10, "sum", "(I)I"⟩, zat 699, 4, some .int, 1, 1, 10),
  (⟨zcn 10, "weight", "(I)I"⟩, zat 703, 4, some .int, 1, 1, 10),
  (⟨zcn 14, "held", "(III)I"⟩, zat 706, 3, some .int, 0, 3, 14),
  (⟨zcn 10, "voices", "(I)I"⟩, zat 712, 4, some .int, 1, 1, 10),
  (⟨zcn 10, "does", "(I)Z"⟩, zat 716, 2, some .boolean, 1, 1, 10),
  (⟨zcn 13, "does", "(I)Z"⟩, zat 720, 2, some .boolean, 1, 1, 13),
  (⟨zcn 10, "plan", "(II)I"⟩, zat 726, 5, some .int, 1, 2, 10),
  (⟨zcn 10, "can", "(II)Z"⟩, zat 730, 4, some .boolean, 1, 2, 10),
  (⟨zcn 10, "sum", "(II)I"⟩, zat 734, 5, some .int, 1, 2, 10),
  (⟨zcn 10, "wear", "(II)I"⟩, zat 738, 4, some .int, 1, 2, 10),
  (⟨zcn 10, "notice", "(II)I"⟩, zat 743, 3, some .int, 1, 2, 10),
  (⟨zcn 10, "draw", "(I)I"⟩, zat 748, 2, some .int, 1, 1, 10),
  (⟨zcn 10, "isSame", "(LSpareDay;)Z"⟩, zat 754, 4, some .boolean, 1, 1, 10),
  (⟨zcn 14, "cell", "([II)I"⟩, zat 772, 2, some .int, 0, 2, 14),
  (⟨zcn 14, "between", "(III)I"⟩, zat 775, 3, some .int, 0, 3, 14),
  (⟨zcn 14, "texts", "(LSpareDay;LSpareDayLaw$Land;I)Z"⟩, zat 779, 10, some .boolean, 0, 3, 14),
  (⟨zcn 11, "<init>", "()V"⟩, zat 784, 1, none, 2, 0, 11),
  (⟨zcn 15, "<init>", "(I)V"⟩, zat 787, 2, none, 2, 1, 15),
  (⟨zcn 11, "append", "(I)Ljava/lang/StringBuilder;"⟩, zat 815, 2, some (.object "java/lang/StringBuilder"), 1, 1, 11)]
def zMT2 : List ZM := [
  (⟨zcn 15, "append", "(I)Ljava/lang/AbstractStringBuilder;"⟩, zat 818, 4, some (.object "java/lang/AbstractStringBuilder"), 1, 1, 15),
  (⟨zcn 16, "stringSize", "(I)I"⟩, zat 821, 4, some .int, 0, 1, 16),
  (⟨zcn 15, "ensureCapacityInternal", "(I)V"⟩, zat 825, 3, none, 1, 1, 15),
  (⟨zcn 15, "newCapacity", "(I)I"⟩, zat 829, 6, some .int, 1, 1, 15),
  (⟨zcn 19, "newLength", "(III)I"⟩, zat 832, 4, some .int, 0, 3, 19),
  (⟨zcn 18, "copyOf", "([BI)[B"⟩, zat 841, 3, some (.array .byte), 0, 2, 18),
  (⟨zcn 15, "isLatin1", "()Z"⟩, zat 853, 1, some .boolean, 1, 0, 15),
  (⟨zcn 16, "getChars", "(II[B)I"⟩, zat 856, 7, some .int, 0, 3, 16),
  (⟨zcn 11, "append", "(Ljava/lang/String;)Ljava/lang/StringBuilder;"⟩, zat 896, 2, some (.object "java/lang/StringBuilder"), 1, 1, 11),
  (⟨zcn 15, "append", "(Ljava/lang/String;)Ljava/lang/AbstractStringBuilder;"⟩, zat 899, 3, some (.object "java/lang/AbstractStringBuilder"), 1, 1, 15),
  (⟨zcn 15, "putStringAt", "(ILjava/lang/String;)V"⟩, zat 919, 3, none, 1, 2, 15),
  (⟨zcn 15, "inflateIfNeededFor", "(Ljava/lang/String;)V"⟩, zat 923, 2, none, 1, 1, 15),
  (⟨zcn 12, "getBytes", "([BIB)V"⟩, zat 947, 4, none, 1, 3, 12),
  (⟨zcn 11, "toString", "()Ljava/lang/String;"⟩, zat 954, 1, some (.object "java/lang/String"), 1, 0, 11),
  (⟨zcn 12, "<init>", "(Ljava/lang/StringBuilder;)V"⟩, zat 959, 2, none, 2, 1, 12),
  (⟨zcn 12, "<init>", "(Ljava/lang/AbstractStringBuilder;Ljava/lang/Void;)V"⟩, zat 962, 5, none, 2, 2, 12),
  (⟨zcn 15, "getValue", "()[B"⟩, zat 968, 1, some (.array .byte), 1, 0, 15),
  (⟨zcn 11, "length", "()I"⟩, zat 974, 1, some .int, 1, 0, 11),
  (⟨zcn 0, "undo", "()Z"⟩, zat 594, 1, some .boolean, 1, 0, 0),
  (⟨zcn 15, "length", "()I"⟩, zat 976, 1, some .int, 1, 0, 15),
  (⟨zcn 18, "copyOfRange", "([BII)[B"⟩, zat 980, 3, some (.array .byte), 0, 3, 18),
  (⟨zcn 18, "copyOfRangeByte", "([BII)[B"⟩, zat 983, 5, some (.array .byte), 0, 3, 18),
  (⟨zcn 18, "checkLength", "(II)V"⟩, zat 986, 2, none, 0, 2, 18),
  (⟨zcn 0, "look", "(I)I"⟩, zat 598, 2, some .int, 1, 1, 0),
  (⟨zcn 0, "lookFurther", "(I)I"⟩, zat 602, 2, some .int, 1, 1, 0),
  (⟨zcn 14, "say", "(LSpareDay;Ljava/lang/String;)V"⟩, zat 1013, 5, none, 0, 2, 14),
  (⟨zcn 14, "council", "(LSpareDay;LSpareDayLaw$Land;I)Z"⟩, zat 1194, 3, some .boolean, 0, 3, 14),
  (⟨zcn 14, "rule", "(III)LSpareDayLaw$Rule;"⟩, zat 1197, 5, some (.object "SpareDayLaw$Rule"), 0, 3, 14),
  (⟨zcn 13, "<init>", "(IILSpareDayLaw$Rule;LSpareDayLaw$Rule;)V"⟩, zat 1202, 5, none, 2, 4, 13),
  (⟨zcn 13, "text", "(Z)Ljava/lang/String;"⟩, zat 1220, 3, some (.object "java/lang/String"), 1, 1, 13),
  (⟨zcn 13, "size", "()I"⟩, zat 1236, 1, some .int, 1, 0, 13),
  (⟨zcn 14, "land", "(LSpareDay;[II)LSpareDayLaw$Land;"⟩, zat 1240, 13, some (.object "SpareDayLaw$Land"), 0, 3, 14)]
def zMTl : List ZM := [(⟨zcn 14, "law", "([I)Z"⟩, code, 16, some .boolean, 0, 1, 14)]
def zMT : List ZM := zMT0 ++ (zMT1 ++ (zMT2 ++ zMTl))
def zM0 : ZM := (⟨"", "", ""⟩, ⟨#[]⟩, 0, none, 9, 0, 0)
def zM (y : Nat) : ZM := zMT.getD y zM0
def zname (y : Nat) : MethodName := (zM y).1
def zcode (y : Nat) : ByteArray := (zM y).2.1
def zml (y : Nat) : Nat := (zM y).2.2.1
def zret (y : Nat) : Option FieldType := (zM y).2.2.2.1
def zkind (y : Nat) : Nat := (zM y).2.2.2.2.1
def znar (y : Nat) : Nat := (zM y).2.2.2.2.2.1
def zown (y : Nat) : Nat := (zM y).2.2.2.2.2.2
/-- own class, pool place, callee (1000: arraycopy), by the nest -/
def zML : List (Nat × Nat × Nat × Bool) := [(14, 175, 0, false), (0, 1, 1003, false), (0, 9, 1, true), (1, 3, 1003, false), (1, 11, 2, true), (2, 3, 1003, false), (1, 20, 3, true), (3, 3, 1003, false), (1, 27, 4, true), (4, 3, 1003, false), (4, 11, 5, true), (5, 3, 1003, false), (1, 34, 6, true), (6, 3, 1003, false), (1, 41, 7, true), (7, 1, 1003, false), (7, 9, 5, true), (1, 48, 8, true), (8, 3, 1003, false), (0, 29, 2, true), (0, 43, 9, true), (9, 3, 1003, false), (9, 30, 4, true), (9, 40, 6, true), (9, 47, 7, true), (14, 141, 12, false), (0, 61, 13, false), (0, 58, 11, false), (0, 68, 14, true), (14, 146, 15, false), (0, 72, 16, false), (0, 94, 17, true), (14, 150, 18, false), (0, 101, 19, false), (0, 105, 20, false), (0, 269, 21, true), (2, 24, 1000, false), (14, 195, 22, false), (0, 108, 23, true), (2, 52, 1002, false), (14, 192, 24, false), (0, 115, 25, true), (1, 150, 1001, false), (1, 156, 26, false), (1, 142, 27, false), (1, 128, 28, false), (1, 134, 29, true), (4, 48, 30, true), (5, 31, 1001, false), (5, 37, 31, false), (5, 41, 32, false), (5, 52, 28, false), (5, 45, 33, false), (5, 49, 34, false), (1, 138, 35, true), (0, 318, 1002, false), (0, 272, 1001, false), (1, 159, 36, false), (1, 146, 37, true), (7, 27, 30, true), (1, 162, 38, false), (1, 174, 39, true), (1, 181, 40, true), (6, 47, 41, false), (6, 51, 42, false), (6, 43, 19, true), (6, 55, 43, false), (1, 187, 42, true), (1, 195, 23, true), (1, 199, 44, true), (1, 205, 45, false), (1, 166, 46, true), (1, 212, 19, true), (1, 170, 47, true), (14, 205, 94, false), (0, 213, 27, true), (14, 209, 96, false), (14, 198, 138, false), (14, 202, 143, false), (0, 362, 144, false), (0, 162, 84, true), (0, 279, 26, true), (0, 282, 36, true), (14, 184, 91, false), (10, 28, 97, false), (10, 1, 1003, false), (10, 60, 1004, false), (14, 188, 98, false), (10, 101, 1001, false), (10, 106, 99, false), (10, 110, 100, false), (10, 87, 101, false), (10, 84, 102, false), (10, 66, 103, true), (14, 8, 1002, false), (14, 14, 1001, false), (10, 90, 104, false), (10, 93, 105, false), (10, 78, 106, false), (13, 23, 28, false), (13, 29, 106, false), (10, 114, 107, false), (10, 94, 108, false), (10, 98, 109, false), (10, 117, 110, false), (10, 72, 28, false), (10, 119, 111, false), (10, 122, 1002, false), (10, 125, 112, false), (14, 180, 113, false), (10, 128, 92, false), (0, 217, 93, false), (10, 133, 94, false), (10, 137, 95, false), (10, 139, 96, false), (10, 142, 143, false), (14, 118, 114, false), (14, 50, 115, false), (14, 163, 116, false), (14, 39, 117, false), (11, 1, 118, false), (15, 3, 1003, false), (14, 56, 119, false), (11, 53, 120, false), (15, 245, 121, false), (15, 100, 122, false), (15, 104, 123, false), (15, 114, 124, false), (19, 194, 1001, false), (15, 108, 125, false), (18, 310, 1005, false), (18, 304, 1002, false), (18, 150, 1000, false), (15, 83, 126, false), (15, 248, 127, false), (14, 62, 128, false), (11, 29, 129, false), (15, 32, 57, false), (12, 335, 58, false), (15, 208, 130, false), (15, 397, 131, false), (15, 40, 58, false), (15, 399, 132, false), (12, 212, 1000, false), (14, 67, 133, false), (11, 137, 134, false), (12, 489, 135, false), (12, 1, 1003, false), (12, 552, 136, false), (12, 549, 139, false), (11, 343, 139, false), (12, 1047, 126, false), (12, 54, 140, false), (18, 339, 141, false), (18, 343, 142, false), (14, 71, 145, false), (14, 17, 57, false), (14, 23, 59, false), (12, 492, 60, false), (12, 495, 61, false), (17, 9, 62, false), (12, 1059, 63, false), (14, 27, 48, false), (0, 119, 49, true), (0, 122, 50, true), (14, 33, 51, false), (14, 75, 52, false), (0, 128, 53, true), (9, 61, 54, false), (9, 73, 55, false), (9, 77, 56, false), (9, 97, 57, false), (9, 103, 59, false), (9, 81, 64, false), (9, 85, 65, false), (9, 88, 66, false), (9, 91, 67, false), (9, 67, 68, false), (0, 131, 69, true), (9, 113, 70, false), (9, 132, 71, false), (9, 163, 72, false), (9, 166, 73, false), (9, 153, 74, true), (9, 159, 75, false), (9, 116, 13, true), (9, 136, 76, false), (9, 150, 77, false), (9, 140, 78, false), (9, 156, 79, false), (9, 143, 80, true), (0, 140, 81, true), (4, 31, 82, true), (5, 21, 1000, false), (4, 35, 1000, false), (0, 149, 83, true), (0, 156, 1000, false), (0, 166, 85, true), (9, 175, 86, false), (9, 191, 87, false), (0, 174, 88, true), (6, 33, 1000, false), (0, 185, 89, true), (0, 193, 90, true), (7, 16, 82, true), (14, 167, 146, false), (14, 104, 147, false), (14, 101, 148, false), (13, 1, 1003, false), (14, 111, 149, false), (13, 35, 117, false), (13, 38, 128, false), (13, 42, 119, false), (13, 45, 133, false), (13, 51, 149, false), (14, 114, 150, false), (13, 63, 150, false), (14, 176, 151, false), (14, 117, 97, true), (14, 143, 92, false), (14, 173, 10, false)]
def zMP : List Nat := [26, 29, 34, 37, 40, 43, 103, 106, 126, 129, 132, 135, 176, 179, 228, 231, 233, 246, 249, 323, 326, 329, 331, 333, 335, 419, 423, 426, 430, 434, 438, 442, 446, 450, 453, 457, 461, 464, 468, 472, 475, 479, 483, 486, 490, 494, 500, 504, 508, 509, 512, 515, 516, 519, 522, 525, 526, 527, 531, 535, 536, 540, 544, 548, 552, 556, 557, 561, 562, 563, 569, 573, 577, 578, 582, 586, 587, 591, 595, 599, 603, 607, 608, 609, 615, 618, 677, 683, 687, 688, 692, 696, 700, 704, 707, 708, 709, 713, 717, 721, 722, 723, 727, 731, 735, 739, 740, 744, 745, 751, 755, 759, 763, 764, 768, 769, 770, 773, 777, 782, 785, 788, 812, 816, 819, 822, 826, 830, 833, 839, 842, 847, 848, 849, 854, 893, 897, 907, 911, 916, 920, 924, 944, 948, 951, 957, 960, 963, 964, 969, 975, 977, 978, 981, 984, 1011, 1014, 1015, 1019, 1023, 1026, 1029, 1039, 1043, 1047, 1051, 1055, 1059, 1063, 1067, 1070, 1075, 1076, 1077, 1081, 1084, 1088, 1091, 1095, 1099, 1103, 1107, 1111, 1115, 1119, 1123, 1124, 1128, 1132, 1136, 1140, 1144, 1148, 1152, 1153, 1154, 1158, 1159, 1163, 1167, 1171, 1175, 1176, 1180, 1184, 1192, 1195, 1200, 1203, 1217, 1222, 1224, 1225, 1226, 1228, 1233, 1237, 1238, 1242, 1251, 1252]
def zcal (k : Nat) : MethodName := if k = 1000 then arraycopyName else if k = 1001 then Lib.Math.max.name else if k = 1002 then Lib.Math.min.name else if k = 1003 then objectInit else if k = 1004 then ⟨"[I", "clone", "()Ljava/lang/Object;"⟩ else if k = 1005 then ⟨"[B", "clone", "()Ljava/lang/Object;"⟩ else zname k
def zMw (q : Nat × Nat × Nat × Bool) : Cond := if q.2.2.2 then .methodLinkNest (zcn q.1) q.2.1 (zcal q.2.2.1) (zho q.1) else .methodLink (zcn q.1) q.2.1 (zcal q.2.2.1)
def zres (own ix : Nat) : Option Nat := (zML.find? fun q => q.1 == own && q.2.1 == ix).map fun q => q.2.2.1
def zNL : List (Nat × Nat × Nat) := [(14, 28, 0), (0, 7, 1), (1, 9, 2), (1, 18, 3), (1, 25, 4), (4, 9, 5), (1, 32, 6), (1, 39, 7), (7, 7, 5), (1, 46, 8), (0, 23, 2), (0, 41, 9), (9, 28, 4), (9, 38, 6), (9, 45, 7), (10, 8, 10), (14, 37, 11), (11, 18, 12), (14, 99, 13), (13, 33, 11), (14, 41, 10)]
def zNP : List Nat := [24, 32, 38, 101, 124, 130, 174, 226, 232, 244, 321, 324, 330, 332, 334, 613, 780, 955, 1198, 1221, 1241]
def zNw (q : Nat × Nat × Nat) : Cond := .classLink (zcn q.1) q.2.1 (zcn q.2.2)
def znew (own ix : Nat) : Option Nat := (zNL.find? fun q => q.1 == own && q.2.1 == ix).map fun q => q.2.2
/-- class links to array classes: own class, pool place, 0 [I, 1 [B -/
def zAL : List (Nat × Nat × Nat) := [(10, 16, 0), (18, 311, 1), (14, 79, 0)]
def zAP : List Nat := [619, 846, 1185]
def zAw (q : Nat × Nat × Nat) : Cond := .classLink (zcn q.1) q.2.1 (if q.2.2 = 0 then "[I" else "[B")
def zacl (own ix : Nat) : Option Nat := (zAL.find? fun q => q.1 == own && q.2.1 == ix).map fun q => q.2.2
def zKL : List (Nat × Nat × Int32) := [(16, 265, 1431655765), (16, 266, 858993459), (16, 267, 252645135), (2, 58, 1664525), (2, 59, 1013904223), (10, 64, 1664525), (10, 65, 1013904223), (14, 7, 1048575), (19, 200, 2147483639), (15, 39, 2147483647)]
def zKP : List Nat := [497, 498, 499, 567, 568, 749, 750, 776, 834, 838]
def zKw (q : Nat × Nat × Int32) : Cond := .constant (zcn q.1) q.2.1 q.2.2
def zcon (own ix : Nat) : Option Int32 := (zKL.find? fun q => q.1 == own && q.2.1 == ix).map fun q => q.2.2
/-- the texts: own class, pool place, text -/
def zSL : List (Nat × Nat × String) := [(9, 95, "weight wear notice when or and not person age need had since worn year ties used names work for worth dust wax after most "), (14, 60, " names "), (14, 65, ";"), (14, 87, "work "), (14, 89, " for "), (14, 91, " worth "), (14, 93, " dust "), (14, 95, " wax "), (14, 97, " after "), (13, 36, ""), (13, 49, "most "), (13, 55, " and "), (13, 57, " or "), (13, 59, "("), (13, 61, ")"), (14, 125, "weight need/4+"), (14, 127, " when age>"), (14, 129, " and not (had>"), (14, 131, " or worn>9);weight since-had*"), (14, 133, ";wear used/3+ties when used>"), (14, 135, " or need<3;wear "), (14, 137, ";notice used*"), (14, 139, "+year*50-year/3*150;")]
def zSP : List Nat := [1074, 892, 950, 1186, 1187, 1188, 1189, 1190, 1191, 1223, 1227, 1229, 1230, 1231, 1232, 1243, 1244, 1245, 1246, 1247, 1248, 1249, 1250]
def zSw (q : Nat × Nat × String) : Cond := .stringRef (zcn q.1) q.2.1 q.2.2
def zSR : List (List Int32) := [[119, 101, 105, 103, 104, 116, 32, 119, 101, 97, 114, 32, 110, 111, 116, 105, 99, 101, 32, 119, 104, 101, 110, 32, 111, 114, 32, 97, 110, 100, 32, 110, 111, 116, 32, 112, 101, 114, 115, 111, 110, 32, 97, 103, 101, 32, 110, 101, 101, 100, 32, 104, 97, 100, 32, 115, 105, 110, 99, 101, 32, 119, 111, 114, 110, 32, 121, 101, 97, 114, 32, 116, 105, 101, 115, 32, 117, 115, 101, 100, 32, 110, 97, 109, 101, 115, 32, 119, 111, 114, 107, 32, 102, 111, 114, 32, 119, 111, 114, 116, 104, 32, 100, 117, 115, 116, 32, 119, 97, 120, 32, 97, 102, 116, 101, 114, 32, 109, 111, 115, 116, 32], [32, 110, 97, 109, 101, 115, 32], [59], [119, 111, 114, 107, 32], [32, 102, 111, 114, 32], [32, 119, 111, 114, 116, 104, 32], [32, 100, 117, 115, 116, 32], [32, 119, 97, 120, 32], [32, 97, 102, 116, 101, 114, 32], [], [109, 111, 115, 116, 32], [32, 97, 110, 100, 32], [32, 111, 114, 32], [40], [41], [119, 101, 105, 103, 104, 116, 32, 110, 101, 101, 100, 47, 52, 43], [32, 119, 104, 101, 110, 32, 97, 103, 101, 62], [32, 97, 110, 100, 32, 110, 111, 116, 32, 40, 104, 97, 100, 62], [32, 111, 114, 32, 119, 111, 114, 110, 62, 57, 41, 59, 119, 101, 105, 103, 104, 116, 32, 115, 105, 110, 99, 101, 45, 104, 97, 100, 42], [59, 119, 101, 97, 114, 32, 117, 115, 101, 100, 47, 51, 43, 116, 105, 101, 115, 32, 119, 104, 101, 110, 32, 117, 115, 101, 100, 62], [32, 111, 114, 32, 110, 101, 101, 100, 60, 51, 59, 119, 101, 97, 114, 32], [59, 110, 111, 116, 105, 99, 101, 32, 117, 115, 101, 100, 42], [43, 121, 101, 97, 114, 42, 53, 48, 45, 121, 101, 97, 114, 47, 51, 42, 49, 53, 48, 59]]
def zstr (own ix : Nat) : Option Nat := zSL.findIdx? fun q => q.1 == own && q.2.1 == ix
