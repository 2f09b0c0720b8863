-- ===== PART A: goes FIRST, ahead of the names: the tables' words, and 'selects' of the private methods out of them =====
/-- a private method of a class that the tables say can be made, by its rows of tables_1 -/
def lw_okq (q : MethodName × Nat) : Prop := (q.1.cls ≠ "java/lang/invoke/MethodHandle" ∧ q.1.cls ≠ "java/lang/invoke/VarHandle") ∧ Cond.instantiable q.1.cls q.2 ∈ tables_1 ∧ Cond.privateMethod q.1 ∈ tables_1 ∧ Cond.instanceMethod q.1 ∈ tables_1
theorem lw_p0 : lw_okq (⟨"SpareDay", "forgetPasts", "()V"⟩, 9) := ⟨⟨by decide +kernel, by decide +kernel⟩, List.mem_of_getElem? (i := 20) (by decide +kernel), List.mem_of_getElem? (i := 428) (by decide +kernel), List.mem_of_getElem? (i := 429) (by decide +kernel)⟩
theorem lw_p1 : lw_okq (⟨"SpareDay$Realm", "welcome", "(II)I"⟩, 16) := ⟨⟨by decide +kernel, by decide +kernel⟩, List.mem_of_getElem? (i := 28) (by decide +kernel), List.mem_of_getElem? (i := 439) (by decide +kernel), List.mem_of_getElem? (i := 440) (by decide +kernel)⟩
theorem lw_p2 : lw_okq (⟨"SpareDay", "canBeSet", "(III)Z"⟩, 9) := ⟨⟨by decide +kernel, by decide +kernel⟩, List.mem_of_getElem? (i := 20) (by decide +kernel), List.mem_of_getElem? (i := 447) (by decide +kernel), List.mem_of_getElem? (i := 448) (by decide +kernel)⟩
theorem lw_p3 : lw_okq (⟨"SpareDay$Realm", "has", "(I)Z"⟩, 16) := ⟨⟨by decide +kernel, by decide +kernel⟩, List.mem_of_getElem? (i := 28) (by decide +kernel), List.mem_of_getElem? (i := 451) (by decide +kernel), List.mem_of_getElem? (i := 452) (by decide +kernel)⟩
theorem lw_p4 : lw_okq (⟨"SpareDay", "keepPast", "()V"⟩, 9) := ⟨⟨by decide +kernel, by decide +kernel⟩, List.mem_of_getElem? (i := 20) (by decide +kernel), List.mem_of_getElem? (i := 462) (by decide +kernel), List.mem_of_getElem? (i := 463) (by decide +kernel)⟩
theorem lw_p5 : lw_okq (⟨"SpareDay$Moment", "copy", "(LSpareDay$Moment;)V"⟩, 11) := ⟨⟨by decide +kernel, by decide +kernel⟩, List.mem_of_getElem? (i := 34) (by decide +kernel), List.mem_of_getElem? (i := 466) (by decide +kernel), List.mem_of_getElem? (i := 467) (by decide +kernel)⟩
theorem lw_p6 : lw_okq (⟨"SpareDay$Moment", "wearBy", "(I)V"⟩, 11) := ⟨⟨by decide +kernel, by decide +kernel⟩, List.mem_of_getElem? (i := 34) (by decide +kernel), List.mem_of_getElem? (i := 477) (by decide +kernel), List.mem_of_getElem? (i := 478) (by decide +kernel)⟩
theorem lw_p7 : lw_okq (⟨"SpareDay$Realm", "pass", "(LSpareDay$Moment;Z)I"⟩, 16) := ⟨⟨by decide +kernel, by decide +kernel⟩, List.mem_of_getElem? (i := 28) (by decide +kernel), List.mem_of_getElem? (i := 488) (by decide +kernel), List.mem_of_getElem? (i := 489) (by decide +kernel)⟩
theorem lw_p8 : lw_okq (⟨"SpareDay$Realm", "weigh", "(LSpareDay$Moment;)V"⟩, 16) := ⟨⟨by decide +kernel, by decide +kernel⟩, List.mem_of_getElem? (i := 28) (by decide +kernel), List.mem_of_getElem? (i := 495) (by decide +kernel), List.mem_of_getElem? (i := 496) (by decide +kernel)⟩
theorem lw_p9 : lw_okq (⟨"SpareDay$Realm", "asks", "(LSpareDay$Moment;III)I"⟩, 16) := ⟨⟨by decide +kernel, by decide +kernel⟩, List.mem_of_getElem? (i := 28) (by decide +kernel), List.mem_of_getElem? (i := 499) (by decide +kernel), List.mem_of_getElem? (i := 500) (by decide +kernel)⟩
theorem lw_p10 : lw_okq (⟨"SpareDay$Law", "tells", "(I[I)I"⟩, 6) := ⟨⟨by decide +kernel, by decide +kernel⟩, List.mem_of_getElem? (i := 120) (by decide +kernel), List.mem_of_getElem? (i := 509) (by decide +kernel), List.mem_of_getElem? (i := 510) (by decide +kernel)⟩
theorem lw_p11 : lw_okq (⟨"SpareDay$Code", "run", "(II[II)I"⟩, 4) := ⟨⟨by decide +kernel, by decide +kernel⟩, List.mem_of_getElem? (i := 126) (by decide +kernel), List.mem_of_getElem? (i := 513) (by decide +kernel), List.mem_of_getElem? (i := 514) (by decide +kernel)⟩
theorem lw_p12 : lw_okq (⟨"SpareDay$Realm", "elect", "(II)I"⟩, 16) := ⟨⟨by decide +kernel, by decide +kernel⟩, List.mem_of_getElem? (i := 28) (by decide +kernel), List.mem_of_getElem? (i := 536) (by decide +kernel), List.mem_of_getElem? (i := 537) (by decide +kernel)⟩
theorem lw_p13 : lw_okq (⟨"SpareDay$Council", "isMetBy", "(I)Z"⟩, 2) := ⟨⟨by decide +kernel, by decide +kernel⟩, List.mem_of_getElem? (i := 226) (by decide +kernel), List.mem_of_getElem? (i := 540) (by decide +kernel), List.mem_of_getElem? (i := 541) (by decide +kernel)⟩
theorem lw_p14 : lw_okq (⟨"SpareDay$Realm", "giveTo", "(LSpareDay$Moment;IZ)V"⟩, 16) := ⟨⟨by decide +kernel, by decide +kernel⟩, List.mem_of_getElem? (i := 28) (by decide +kernel), List.mem_of_getElem? (i := 545) (by decide +kernel), List.mem_of_getElem? (i := 546) (by decide +kernel)⟩
theorem lw_p15 : lw_okq (⟨"SpareDay$Moment", "hoursLeft", "()I"⟩, 11) := ⟨⟨by decide +kernel, by decide +kernel⟩, List.mem_of_getElem? (i := 34) (by decide +kernel), List.mem_of_getElem? (i := 549) (by decide +kernel), List.mem_of_getElem? (i := 550) (by decide +kernel)⟩
def lw_privs_1 : List (MethodName × Nat) := [(⟨"SpareDay", "forgetPasts", "()V"⟩, 9), (⟨"SpareDay$Realm", "welcome", "(II)I"⟩, 16), (⟨"SpareDay", "canBeSet", "(III)Z"⟩, 9), (⟨"SpareDay$Realm", "has", "(I)Z"⟩, 16), (⟨"SpareDay", "keepPast", "()V"⟩, 9), (⟨"SpareDay$Moment", "copy", "(LSpareDay$Moment;)V"⟩, 11), (⟨"SpareDay$Moment", "wearBy", "(I)V"⟩, 11), (⟨"SpareDay$Realm", "pass", "(LSpareDay$Moment;Z)I"⟩, 16), (⟨"SpareDay$Realm", "weigh", "(LSpareDay$Moment;)V"⟩, 16), (⟨"SpareDay$Realm", "asks", "(LSpareDay$Moment;III)I"⟩, 16), (⟨"SpareDay$Law", "tells", "(I[I)I"⟩, 6), (⟨"SpareDay$Code", "run", "(II[II)I"⟩, 4), (⟨"SpareDay$Realm", "elect", "(II)I"⟩, 16), (⟨"SpareDay$Council", "isMetBy", "(I)Z"⟩, 2), (⟨"SpareDay$Realm", "giveTo", "(LSpareDay$Moment;IZ)V"⟩, 16), (⟨"SpareDay$Moment", "hoursLeft", "()I"⟩, 11)]
theorem lw_r1 : ∀ q ∈ lw_privs_1, lw_okq q := List.forall_mem_cons.mpr ⟨lw_p0, List.forall_mem_cons.mpr ⟨lw_p1, List.forall_mem_cons.mpr ⟨lw_p2, List.forall_mem_cons.mpr ⟨lw_p3, List.forall_mem_cons.mpr ⟨lw_p4, List.forall_mem_cons.mpr ⟨lw_p5, List.forall_mem_cons.mpr ⟨lw_p6, List.forall_mem_cons.mpr ⟨lw_p7, List.forall_mem_cons.mpr ⟨lw_p8, List.forall_mem_cons.mpr ⟨lw_p9, List.forall_mem_cons.mpr ⟨lw_p10, List.forall_mem_cons.mpr ⟨lw_p11, List.forall_mem_cons.mpr ⟨lw_p12, List.forall_mem_cons.mpr ⟨lw_p13, List.forall_mem_cons.mpr ⟨lw_p14, List.forall_mem_cons.mpr ⟨lw_p15, fun _ h => absurd h List.not_mem_nil⟩⟩⟩⟩⟩⟩⟩⟩⟩⟩⟩⟩⟩⟩⟩⟩
theorem lw_p16 : lw_okq (⟨"SpareDay$Works", "bestSet", "(III)I"⟩, 10) := ⟨⟨by decide +kernel, by decide +kernel⟩, List.mem_of_getElem? (i := 170) (by decide +kernel), List.mem_of_getElem? (i := 553) (by decide +kernel), List.mem_of_getElem? (i := 554) (by decide +kernel)⟩
theorem lw_p17 : lw_okq (⟨"SpareDay$Works", "ownedBy", "(II)I"⟩, 10) := ⟨⟨by decide +kernel, by decide +kernel⟩, List.mem_of_getElem? (i := 170) (by decide +kernel), List.mem_of_getElem? (i := 557) (by decide +kernel), List.mem_of_getElem? (i := 558) (by decide +kernel)⟩
theorem lw_p18 : lw_okq (⟨"SpareDay$Works", "sum", "(I[I)I"⟩, 10) := ⟨⟨by decide +kernel, by decide +kernel⟩, List.mem_of_getElem? (i := 170) (by decide +kernel), List.mem_of_getElem? (i := 561) (by decide +kernel), List.mem_of_getElem? (i := 562) (by decide +kernel)⟩
theorem lw_p19 : lw_okq (⟨"SpareDay$Works", "isWhole", "(II)Z"⟩, 10) := ⟨⟨by decide +kernel, by decide +kernel⟩, List.mem_of_getElem? (i := 170) (by decide +kernel), List.mem_of_getElem? (i := 566) (by decide +kernel), List.mem_of_getElem? (i := 567) (by decide +kernel)⟩
theorem lw_p20 : lw_okq (⟨"SpareDay$Moment", "draw", "(I)I"⟩, 11) := ⟨⟨by decide +kernel, by decide +kernel⟩, List.mem_of_getElem? (i := 34) (by decide +kernel), List.mem_of_getElem? (i := 572) (by decide +kernel), List.mem_of_getElem? (i := 573) (by decide +kernel)⟩
theorem lw_p21 : lw_okq (⟨"SpareDay$Realm", "enter", "(LSpareDay$Moment;IIZ)V"⟩, 16) := ⟨⟨by decide +kernel, by decide +kernel⟩, List.mem_of_getElem? (i := 28) (by decide +kernel), List.mem_of_getElem? (i := 578) (by decide +kernel), List.mem_of_getElem? (i := 579) (by decide +kernel)⟩
theorem lw_p22 : lw_okq (⟨"SpareDay$Book", "write", "(LSpareDay$Moment;III)V"⟩, 4) := ⟨⟨by decide +kernel, by decide +kernel⟩, List.mem_of_getElem? (i := 97) (by decide +kernel), List.mem_of_getElem? (i := 582) (by decide +kernel), List.mem_of_getElem? (i := 583) (by decide +kernel)⟩
theorem lw_p23 : lw_okq (⟨"SpareDay$Moment", "growOlder", "(II)V"⟩, 11) := ⟨⟨by decide +kernel, by decide +kernel⟩, List.mem_of_getElem? (i := 34) (by decide +kernel), List.mem_of_getElem? (i := 587) (by decide +kernel), List.mem_of_getElem? (i := 588) (by decide +kernel)⟩
theorem lw_p24 : lw_okq (⟨"SpareDay$Reader", "hasRoom", "(I)Z"⟩, 16) := ⟨⟨by decide +kernel, by decide +kernel⟩, List.mem_of_getElem? (i := 327) (by decide +kernel), List.mem_of_getElem? (i := 595) (by decide +kernel), List.mem_of_getElem? (i := 596) (by decide +kernel)⟩
theorem lw_p25 : lw_okq (⟨"SpareDay$Reader", "append", "(I)V"⟩, 16) := ⟨⟨by decide +kernel, by decide +kernel⟩, List.mem_of_getElem? (i := 327) (by decide +kernel), List.mem_of_getElem? (i := 599) (by decide +kernel), List.mem_of_getElem? (i := 600) (by decide +kernel)⟩
theorem lw_p26 : lw_okq (⟨"SpareDay$Reader", "begin", "(I)V"⟩, 16) := ⟨⟨by decide +kernel, by decide +kernel⟩, List.mem_of_getElem? (i := 327) (by decide +kernel), List.mem_of_getElem? (i := 611) (by decide +kernel), List.mem_of_getElem? (i := 612) (by decide +kernel)⟩
theorem lw_p27 : lw_okq (⟨"SpareDay$Reader", "findTokens", "()V"⟩, 16) := ⟨⟨by decide +kernel, by decide +kernel⟩, List.mem_of_getElem? (i := 327) (by decide +kernel), List.mem_of_getElem? (i := 615) (by decide +kernel), List.mem_of_getElem? (i := 616) (by decide +kernel)⟩
theorem lw_p28 : lw_okq (⟨"SpareDay$Reader", "wordKind", "(II)I"⟩, 16) := ⟨⟨by decide +kernel, by decide +kernel⟩, List.mem_of_getElem? (i := 327) (by decide +kernel), List.mem_of_getElem? (i := 622) (by decide +kernel), List.mem_of_getElem? (i := 623) (by decide +kernel)⟩
theorem lw_p29 : lw_okq (⟨"SpareDay$Reader", "addToken", "(III)V"⟩, 16) := ⟨⟨by decide +kernel, by decide +kernel⟩, List.mem_of_getElem? (i := 327) (by decide +kernel), List.mem_of_getElem? (i := 675) (by decide +kernel), List.mem_of_getElem? (i := 676) (by decide +kernel)⟩
theorem lw_p30 : lw_okq (⟨"SpareDay$Reader", "numberAt", "(II)I"⟩, 16) := ⟨⟨by decide +kernel, by decide +kernel⟩, List.mem_of_getElem? (i := 327) (by decide +kernel), List.mem_of_getElem? (i := 682) (by decide +kernel), List.mem_of_getElem? (i := 683) (by decide +kernel)⟩
theorem lw_p31 : lw_okq (⟨"SpareDay$Reader", "forward", "()V"⟩, 16) := ⟨⟨by decide +kernel, by decide +kernel⟩, List.mem_of_getElem? (i := 327) (by decide +kernel), List.mem_of_getElem? (i := 689) (by decide +kernel), List.mem_of_getElem? (i := 690) (by decide +kernel)⟩
def lw_privs_2 : List (MethodName × Nat) := [(⟨"SpareDay$Works", "bestSet", "(III)I"⟩, 10), (⟨"SpareDay$Works", "ownedBy", "(II)I"⟩, 10), (⟨"SpareDay$Works", "sum", "(I[I)I"⟩, 10), (⟨"SpareDay$Works", "isWhole", "(II)Z"⟩, 10), (⟨"SpareDay$Moment", "draw", "(I)I"⟩, 11), (⟨"SpareDay$Realm", "enter", "(LSpareDay$Moment;IIZ)V"⟩, 16), (⟨"SpareDay$Book", "write", "(LSpareDay$Moment;III)V"⟩, 4), (⟨"SpareDay$Moment", "growOlder", "(II)V"⟩, 11), (⟨"SpareDay$Reader", "hasRoom", "(I)Z"⟩, 16), (⟨"SpareDay$Reader", "append", "(I)V"⟩, 16), (⟨"SpareDay$Reader", "begin", "(I)V"⟩, 16), (⟨"SpareDay$Reader", "findTokens", "()V"⟩, 16), (⟨"SpareDay$Reader", "wordKind", "(II)I"⟩, 16), (⟨"SpareDay$Reader", "addToken", "(III)V"⟩, 16), (⟨"SpareDay$Reader", "numberAt", "(II)I"⟩, 16), (⟨"SpareDay$Reader", "forward", "()V"⟩, 16)]
theorem lw_r2 : ∀ q ∈ lw_privs_2, lw_okq q := List.forall_mem_cons.mpr ⟨lw_p16, List.forall_mem_cons.mpr ⟨lw_p17, List.forall_mem_cons.mpr ⟨lw_p18, List.forall_mem_cons.mpr ⟨lw_p19, List.forall_mem_cons.mpr ⟨lw_p20, List.forall_mem_cons.mpr ⟨lw_p21, List.forall_mem_cons.mpr ⟨lw_p22, List.forall_mem_cons.mpr ⟨lw_p23, List.forall_mem_cons.mpr ⟨lw_p24, List.forall_mem_cons.mpr ⟨lw_p25, List.forall_mem_cons.mpr ⟨lw_p26, List.forall_mem_cons.mpr ⟨lw_p27, List.forall_mem_cons.mpr ⟨lw_p28, List.forall_mem_cons.mpr ⟨lw_p29, List.forall_mem_cons.mpr ⟨lw_p30, List.forall_mem_cons.mpr ⟨lw_p31, fun _ h => absurd h List.not_mem_nil⟩⟩⟩⟩⟩⟩⟩⟩⟩⟩⟩⟩⟩⟩⟩⟩
theorem lw_p32 : lw_okq (⟨"SpareDay$Reader", "readLaw", "()Z"⟩, 16) := ⟨⟨by decide +kernel, by decide +kernel⟩, List.mem_of_getElem? (i := 327) (by decide +kernel), List.mem_of_getElem? (i := 693) (by decide +kernel), List.mem_of_getElem? (i := 694) (by decide +kernel)⟩
theorem lw_p33 : lw_okq (⟨"SpareDay$Reader", "refuse", "(I)Z"⟩, 16) := ⟨⟨by decide +kernel, by decide +kernel⟩, List.mem_of_getElem? (i := 327) (by decide +kernel), List.mem_of_getElem? (i := 697) (by decide +kernel), List.mem_of_getElem? (i := 698) (by decide +kernel)⟩
theorem lw_p34 : lw_okq (⟨"SpareDay$Reader", "readSum", "(LSpareDay$Code;)Z"⟩, 16) := ⟨⟨by decide +kernel, by decide +kernel⟩, List.mem_of_getElem? (i := 327) (by decide +kernel), List.mem_of_getElem? (i := 701) (by decide +kernel), List.mem_of_getElem? (i := 702) (by decide +kernel)⟩
theorem lw_p35 : lw_okq (⟨"SpareDay$Reader", "readTerm", "(LSpareDay$Code;)Z"⟩, 16) := ⟨⟨by decide +kernel, by decide +kernel⟩, List.mem_of_getElem? (i := 327) (by decide +kernel), List.mem_of_getElem? (i := 705) (by decide +kernel), List.mem_of_getElem? (i := 706) (by decide +kernel)⟩
theorem lw_p36 : lw_okq (⟨"SpareDay$Reader", "readUnit", "(LSpareDay$Code;)Z"⟩, 16) := ⟨⟨by decide +kernel, by decide +kernel⟩, List.mem_of_getElem? (i := 327) (by decide +kernel), List.mem_of_getElem? (i := 709) (by decide +kernel), List.mem_of_getElem? (i := 710) (by decide +kernel)⟩
theorem lw_p37 : lw_okq (⟨"SpareDay$Code", "add", "(II)V"⟩, 4) := ⟨⟨by decide +kernel, by decide +kernel⟩, List.mem_of_getElem? (i := 126) (by decide +kernel), List.mem_of_getElem? (i := 713) (by decide +kernel), List.mem_of_getElem? (i := 714) (by decide +kernel)⟩
theorem lw_p38 : lw_okq (⟨"SpareDay$Reader", "isNumber", "(II)Z"⟩, 16) := ⟨⟨by decide +kernel, by decide +kernel⟩, List.mem_of_getElem? (i := 327) (by decide +kernel), List.mem_of_getElem? (i := 717) (by decide +kernel), List.mem_of_getElem? (i := 718) (by decide +kernel)⟩
theorem lw_p39 : lw_okq (⟨"SpareDay$Reader", "readAny", "(LSpareDay$Code;ZI)Z"⟩, 16) := ⟨⟨by decide +kernel, by decide +kernel⟩, List.mem_of_getElem? (i := 327) (by decide +kernel), List.mem_of_getElem? (i := 722) (by decide +kernel), List.mem_of_getElem? (i := 723) (by decide +kernel)⟩
theorem lw_p40 : lw_okq (⟨"SpareDay$Reader", "readOne", "(LSpareDay$Code;ZI)Z"⟩, 16) := ⟨⟨by decide +kernel, by decide +kernel⟩, List.mem_of_getElem? (i := 327) (by decide +kernel), List.mem_of_getElem? (i := 726) (by decide +kernel), List.mem_of_getElem? (i := 727) (by decide +kernel)⟩
theorem lw_p41 : lw_okq (⟨"SpareDay$Reader", "skip", "(I)Z"⟩, 16) := ⟨⟨by decide +kernel, by decide +kernel⟩, List.mem_of_getElem? (i := 327) (by decide +kernel), List.mem_of_getElem? (i := 730) (by decide +kernel), List.mem_of_getElem? (i := 731) (by decide +kernel)⟩
theorem lw_p42 : lw_okq (⟨"SpareDay$Reader", "readPart", "(LSpareDay$Code;)Z"⟩, 16) := ⟨⟨by decide +kernel, by decide +kernel⟩, List.mem_of_getElem? (i := 327) (by decide +kernel), List.mem_of_getElem? (i := 734) (by decide +kernel), List.mem_of_getElem? (i := 735) (by decide +kernel)⟩
theorem lw_p43 : lw_okq (⟨"SpareDay$Law", "add", "(III)V"⟩, 6) := ⟨⟨by decide +kernel, by decide +kernel⟩, List.mem_of_getElem? (i := 120) (by decide +kernel), List.mem_of_getElem? (i := 738) (by decide +kernel), List.mem_of_getElem? (i := 739) (by decide +kernel)⟩
theorem lw_p44 : lw_okq (⟨"SpareDay$Law", "copy", "(LSpareDay$Law;)V"⟩, 6) := ⟨⟨by decide +kernel, by decide +kernel⟩, List.mem_of_getElem? (i := 120) (by decide +kernel), List.mem_of_getElem? (i := 742) (by decide +kernel), List.mem_of_getElem? (i := 743) (by decide +kernel)⟩
theorem lw_p45 : lw_okq (⟨"SpareDay$Code", "copy", "(LSpareDay$Code;)V"⟩, 4) := ⟨⟨by decide +kernel, by decide +kernel⟩, List.mem_of_getElem? (i := 126) (by decide +kernel), List.mem_of_getElem? (i := 746) (by decide +kernel), List.mem_of_getElem? (i := 747) (by decide +kernel)⟩
theorem lw_p46 : lw_okq (⟨"SpareDay$Reader", "readVoices", "()Z"⟩, 16) := ⟨⟨by decide +kernel, by decide +kernel⟩, List.mem_of_getElem? (i := 327) (by decide +kernel), List.mem_of_getElem? (i := 752) (by decide +kernel), List.mem_of_getElem? (i := 753) (by decide +kernel)⟩
theorem lw_p47 : lw_okq (⟨"SpareDay$Realm", "voices", "()I"⟩, 16) := ⟨⟨by decide +kernel, by decide +kernel⟩, List.mem_of_getElem? (i := 28) (by decide +kernel), List.mem_of_getElem? (i := 757) (by decide +kernel), List.mem_of_getElem? (i := 758) (by decide +kernel)⟩
def lw_privs_3 : List (MethodName × Nat) := [(⟨"SpareDay$Reader", "readLaw", "()Z"⟩, 16), (⟨"SpareDay$Reader", "refuse", "(I)Z"⟩, 16), (⟨"SpareDay$Reader", "readSum", "(LSpareDay$Code;)Z"⟩, 16), (⟨"SpareDay$Reader", "readTerm", "(LSpareDay$Code;)Z"⟩, 16), (⟨"SpareDay$Reader", "readUnit", "(LSpareDay$Code;)Z"⟩, 16), (⟨"SpareDay$Code", "add", "(II)V"⟩, 4), (⟨"SpareDay$Reader", "isNumber", "(II)Z"⟩, 16), (⟨"SpareDay$Reader", "readAny", "(LSpareDay$Code;ZI)Z"⟩, 16), (⟨"SpareDay$Reader", "readOne", "(LSpareDay$Code;ZI)Z"⟩, 16), (⟨"SpareDay$Reader", "skip", "(I)Z"⟩, 16), (⟨"SpareDay$Reader", "readPart", "(LSpareDay$Code;)Z"⟩, 16), (⟨"SpareDay$Law", "add", "(III)V"⟩, 6), (⟨"SpareDay$Law", "copy", "(LSpareDay$Law;)V"⟩, 6), (⟨"SpareDay$Code", "copy", "(LSpareDay$Code;)V"⟩, 4), (⟨"SpareDay$Reader", "readVoices", "()Z"⟩, 16), (⟨"SpareDay$Realm", "voices", "()I"⟩, 16)]
theorem lw_r3 : ∀ q ∈ lw_privs_3, lw_okq q := List.forall_mem_cons.mpr ⟨lw_p32, List.forall_mem_cons.mpr ⟨lw_p33, List.forall_mem_cons.mpr ⟨lw_p34, List.forall_mem_cons.mpr ⟨lw_p35, List.forall_mem_cons.mpr ⟨lw_p36, List.forall_mem_cons.mpr ⟨lw_p37, List.forall_mem_cons.mpr ⟨lw_p38, List.forall_mem_cons.mpr ⟨lw_p39, List.forall_mem_cons.mpr ⟨lw_p40, List.forall_mem_cons.mpr ⟨lw_p41, List.forall_mem_cons.mpr ⟨lw_p42, List.forall_mem_cons.mpr ⟨lw_p43, List.forall_mem_cons.mpr ⟨lw_p44, List.forall_mem_cons.mpr ⟨lw_p45, List.forall_mem_cons.mpr ⟨lw_p46, List.forall_mem_cons.mpr ⟨lw_p47, fun _ h => absurd h List.not_mem_nil⟩⟩⟩⟩⟩⟩⟩⟩⟩⟩⟩⟩⟩⟩⟩⟩
theorem lw_p48 : lw_okq (⟨"SpareDay$Reader", "readWorks", "()Z"⟩, 16) := ⟨⟨by decide +kernel, by decide +kernel⟩, List.mem_of_getElem? (i := 327) (by decide +kernel), List.mem_of_getElem? (i := 761) (by decide +kernel), List.mem_of_getElem? (i := 762) (by decide +kernel)⟩
theorem lw_p49 : lw_okq (⟨"SpareDay$Reader", "readEntry", "(I[III)Z"⟩, 16) := ⟨⟨by decide +kernel, by decide +kernel⟩, List.mem_of_getElem? (i := 327) (by decide +kernel), List.mem_of_getElem? (i := 765) (by decide +kernel), List.mem_of_getElem? (i := 766) (by decide +kernel)⟩
theorem lw_p50 : lw_okq (⟨"SpareDay$Reader", "readAfter", "()Z"⟩, 16) := ⟨⟨by decide +kernel, by decide +kernel⟩, List.mem_of_getElem? (i := 327) (by decide +kernel), List.mem_of_getElem? (i := 769) (by decide +kernel), List.mem_of_getElem? (i := 770) (by decide +kernel)⟩
theorem lw_p51 : lw_okq (⟨"SpareDay$Works", "copy", "(LSpareDay$Works;)V"⟩, 10) := ⟨⟨by decide +kernel, by decide +kernel⟩, List.mem_of_getElem? (i := 170) (by decide +kernel), List.mem_of_getElem? (i := 773) (by decide +kernel), List.mem_of_getElem? (i := 774) (by decide +kernel)⟩
theorem lw_p52 : lw_okq (⟨"SpareDay$Reader", "readCouncil", "()Z"⟩, 16) := ⟨⟨by decide +kernel, by decide +kernel⟩, List.mem_of_getElem? (i := 327) (by decide +kernel), List.mem_of_getElem? (i := 778) (by decide +kernel), List.mem_of_getElem? (i := 779) (by decide +kernel)⟩
theorem lw_p53 : lw_okq (⟨"SpareDay$Council", "copy", "(LSpareDay$Council;)V"⟩, 2) := ⟨⟨by decide +kernel, by decide +kernel⟩, List.mem_of_getElem? (i := 226) (by decide +kernel), List.mem_of_getElem? (i := 782) (by decide +kernel), List.mem_of_getElem? (i := 783) (by decide +kernel)⟩
theorem lw_p54 : lw_okq (⟨"SpareDay", "weightsNaming", "(I)I"⟩, 9) := ⟨⟨by decide +kernel, by decide +kernel⟩, List.mem_of_getElem? (i := 20) (by decide +kernel), List.mem_of_getElem? (i := 797) (by decide +kernel), List.mem_of_getElem? (i := 798) (by decide +kernel)⟩
theorem lw_p55 : lw_okq (⟨"SpareDay$Realm", "everyone", "()I"⟩, 16) := ⟨⟨by decide +kernel, by decide +kernel⟩, List.mem_of_getElem? (i := 28) (by decide +kernel), List.mem_of_getElem? (i := 817) (by decide +kernel), List.mem_of_getElem? (i := 818) (by decide +kernel)⟩
theorem lw_p56 : lw_okq (⟨"SpareDay", "fillDoing", "()V"⟩, 9) := ⟨⟨by decide +kernel, by decide +kernel⟩, List.mem_of_getElem? (i := 20) (by decide +kernel), List.mem_of_getElem? (i := 842) (by decide +kernel), List.mem_of_getElem? (i := 843) (by decide +kernel)⟩
theorem lw_p57 : lw_okq (⟨"SpareDay", "mostTurns", "(III)I"⟩, 9) := ⟨⟨by decide +kernel, by decide +kernel⟩, List.mem_of_getElem? (i := 20) (by decide +kernel), List.mem_of_getElem? (i := 855) (by decide +kernel), List.mem_of_getElem? (i := 856) (by decide +kernel)⟩
theorem lw_p58 : lw_okq (⟨"SpareDay", "firstInTurn", "(III)I"⟩, 9) := ⟨⟨by decide +kernel, by decide +kernel⟩, List.mem_of_getElem? (i := 20) (by decide +kernel), List.mem_of_getElem? (i := 859) (by decide +kernel), List.mem_of_getElem? (i := 860) (by decide +kernel)⟩
theorem lw_p59 : lw_okq (⟨"SpareDay$Realm", "countFits", "(I)V"⟩, 16) := ⟨⟨by decide +kernel, by decide +kernel⟩, List.mem_of_getElem? (i := 28) (by decide +kernel), List.mem_of_getElem? (i := 871) (by decide +kernel), List.mem_of_getElem? (i := 872) (by decide +kernel)⟩
theorem lw_p60 : lw_okq (⟨"SpareDay$Works", "countFits", "(IIII)V"⟩, 10) := ⟨⟨by decide +kernel, by decide +kernel⟩, List.mem_of_getElem? (i := 170) (by decide +kernel), List.mem_of_getElem? (i := 875) (by decide +kernel), List.mem_of_getElem? (i := 876) (by decide +kernel)⟩
theorem lw_p61 : lw_okq (⟨"SpareDay$Works", "countFit", "(I)V"⟩, 10) := ⟨⟨by decide +kernel, by decide +kernel⟩, List.mem_of_getElem? (i := 170) (by decide +kernel), List.mem_of_getElem? (i := 879) (by decide +kernel), List.mem_of_getElem? (i := 880) (by decide +kernel)⟩
theorem lw_p62 : lw_okq (⟨"SpareDay$Works", "mostTelling", "(I)I"⟩, 10) := ⟨⟨by decide +kernel, by decide +kernel⟩, List.mem_of_getElem? (i := 170) (by decide +kernel), List.mem_of_getElem? (i := 887) (by decide +kernel), List.mem_of_getElem? (i := 888) (by decide +kernel)⟩
theorem lw_p63 : lw_okq (⟨"SpareDay$Bids", "add", "(II)V"⟩, 3) := ⟨⟨by decide +kernel, by decide +kernel⟩, List.mem_of_getElem? (i := 244) (by decide +kernel), List.mem_of_getElem? (i := 901) (by decide +kernel), List.mem_of_getElem? (i := 902) (by decide +kernel)⟩
def lw_privs_4 : List (MethodName × Nat) := [(⟨"SpareDay$Reader", "readWorks", "()Z"⟩, 16), (⟨"SpareDay$Reader", "readEntry", "(I[III)Z"⟩, 16), (⟨"SpareDay$Reader", "readAfter", "()Z"⟩, 16), (⟨"SpareDay$Works", "copy", "(LSpareDay$Works;)V"⟩, 10), (⟨"SpareDay$Reader", "readCouncil", "()Z"⟩, 16), (⟨"SpareDay$Council", "copy", "(LSpareDay$Council;)V"⟩, 2), (⟨"SpareDay", "weightsNaming", "(I)I"⟩, 9), (⟨"SpareDay$Realm", "everyone", "()I"⟩, 16), (⟨"SpareDay", "fillDoing", "()V"⟩, 9), (⟨"SpareDay", "mostTurns", "(III)I"⟩, 9), (⟨"SpareDay", "firstInTurn", "(III)I"⟩, 9), (⟨"SpareDay$Realm", "countFits", "(I)V"⟩, 16), (⟨"SpareDay$Works", "countFits", "(IIII)V"⟩, 10), (⟨"SpareDay$Works", "countFit", "(I)V"⟩, 10), (⟨"SpareDay$Works", "mostTelling", "(I)I"⟩, 10), (⟨"SpareDay$Bids", "add", "(II)V"⟩, 3)]
theorem lw_r4 : ∀ q ∈ lw_privs_4, lw_okq q := List.forall_mem_cons.mpr ⟨lw_p48, List.forall_mem_cons.mpr ⟨lw_p49, List.forall_mem_cons.mpr ⟨lw_p50, List.forall_mem_cons.mpr ⟨lw_p51, List.forall_mem_cons.mpr ⟨lw_p52, List.forall_mem_cons.mpr ⟨lw_p53, List.forall_mem_cons.mpr ⟨lw_p54, List.forall_mem_cons.mpr ⟨lw_p55, List.forall_mem_cons.mpr ⟨lw_p56, List.forall_mem_cons.mpr ⟨lw_p57, List.forall_mem_cons.mpr ⟨lw_p58, List.forall_mem_cons.mpr ⟨lw_p59, List.forall_mem_cons.mpr ⟨lw_p60, List.forall_mem_cons.mpr ⟨lw_p61, List.forall_mem_cons.mpr ⟨lw_p62, List.forall_mem_cons.mpr ⟨lw_p63, fun _ h => absurd h List.not_mem_nil⟩⟩⟩⟩⟩⟩⟩⟩⟩⟩⟩⟩⟩⟩⟩⟩
theorem lw_p64 : lw_okq (⟨"SpareDay$Bids", "winner", "()I"⟩, 3) := ⟨⟨by decide +kernel, by decide +kernel⟩, List.mem_of_getElem? (i := 244) (by decide +kernel), List.mem_of_getElem? (i := 909) (by decide +kernel), List.mem_of_getElem? (i := 910) (by decide +kernel)⟩
theorem lw_p65 : lw_okq (⟨"SpareDay$Bids", "greatest", "()I"⟩, 3) := ⟨⟨by decide +kernel, by decide +kernel⟩, List.mem_of_getElem? (i := 244) (by decide +kernel), List.mem_of_getElem? (i := 913) (by decide +kernel), List.mem_of_getElem? (i := 914) (by decide +kernel)⟩
theorem lw_p66 : lw_okq (⟨"SpareDay$Bids", "price", "()I"⟩, 3) := ⟨⟨by decide +kernel, by decide +kernel⟩, List.mem_of_getElem? (i := 244) (by decide +kernel), List.mem_of_getElem? (i := 917) (by decide +kernel), List.mem_of_getElem? (i := 918) (by decide +kernel)⟩
theorem lw_p67 : lw_okq (⟨"SpareDay", "comesBefore", "(II)Z"⟩, 9) := ⟨⟨by decide +kernel, by decide +kernel⟩, List.mem_of_getElem? (i := 20) (by decide +kernel), List.mem_of_getElem? (i := 934) (by decide +kernel), List.mem_of_getElem? (i := 935) (by decide +kernel)⟩
theorem lw_p68 : lw_okq (⟨"SpareDay", "needsEachOne", "(I)Z"⟩, 9) := ⟨⟨by decide +kernel, by decide +kernel⟩, List.mem_of_getElem? (i := 20) (by decide +kernel), List.mem_of_getElem? (i := 946) (by decide +kernel), List.mem_of_getElem? (i := 947) (by decide +kernel)⟩
theorem lw_p69 : lw_okq (⟨"SpareDay", "spreadOfHad", "()I"⟩, 9) := ⟨⟨by decide +kernel, by decide +kernel⟩, List.mem_of_getElem? (i := 20) (by decide +kernel), List.mem_of_getElem? (i := 962) (by decide +kernel), List.mem_of_getElem? (i := 963) (by decide +kernel)⟩
theorem lw_p70 : lw_okq (⟨"SpareDay", "latestGiven", "()I"⟩, 9) := ⟨⟨by decide +kernel, by decide +kernel⟩, List.mem_of_getElem? (i := 20) (by decide +kernel), List.mem_of_getElem? (i := 966) (by decide +kernel), List.mem_of_getElem? (i := 967) (by decide +kernel)⟩
theorem lw_p71 : lw_okq (⟨"SpareDay", "tiedTo", "(I)I"⟩, 9) := ⟨⟨by decide +kernel, by decide +kernel⟩, List.mem_of_getElem? (i := 20) (by decide +kernel), List.mem_of_getElem? (i := 974) (by decide +kernel), List.mem_of_getElem? (i := 975) (by decide +kernel)⟩
theorem lw_p72 : lw_okq (⟨"SpareDay", "isClique", "(I)Z"⟩, 9) := ⟨⟨by decide +kernel, by decide +kernel⟩, List.mem_of_getElem? (i := 20) (by decide +kernel), List.mem_of_getElem? (i := 982) (by decide +kernel), List.mem_of_getElem? (i := 983) (by decide +kernel)⟩
theorem lw_p73 : lw_okq (⟨"SpareDay$Realm", "copy", "(LSpareDay$Realm;)V"⟩, 16) := ⟨⟨by decide +kernel, by decide +kernel⟩, List.mem_of_getElem? (i := 28) (by decide +kernel), List.mem_of_getElem? (i := 994) (by decide +kernel), List.mem_of_getElem? (i := 995) (by decide +kernel)⟩
theorem lw_p74 : lw_okq (⟨"SpareDay$Book", "copy", "(LSpareDay$Book;)V"⟩, 4) := ⟨⟨by decide +kernel, by decide +kernel⟩, List.mem_of_getElem? (i := 97) (by decide +kernel), List.mem_of_getElem? (i := 999) (by decide +kernel), List.mem_of_getElem? (i := 1000) (by decide +kernel)⟩
theorem lw_p75 : lw_okq (⟨"SpareDay$Bids", "copy", "(LSpareDay$Bids;)V"⟩, 3) := ⟨⟨by decide +kernel, by decide +kernel⟩, List.mem_of_getElem? (i := 244) (by decide +kernel), List.mem_of_getElem? (i := 1007) (by decide +kernel), List.mem_of_getElem? (i := 1008) (by decide +kernel)⟩
theorem lw_p76 : lw_okq (⟨"SpareDay", "lookFurther", "(I)I"⟩, 9) := ⟨⟨by decide +kernel, by decide +kernel⟩, List.mem_of_getElem? (i := 20) (by decide +kernel), List.mem_of_getElem? (i := 1017) (by decide +kernel), List.mem_of_getElem? (i := 1018) (by decide +kernel)⟩
theorem lw_p77 : lw_okq (⟨"SpareDayModel", "forgets", "()V"⟩, 32) := ⟨⟨by decide +kernel, by decide +kernel⟩, List.mem_of_getElem? (i := 1021) (by decide +kernel), List.mem_of_getElem? (i := 1128) (by decide +kernel), List.mem_of_getElem? (i := 1129) (by decide +kernel)⟩
theorem lw_p78 : lw_okq (⟨"SpareDayModel", "canSet", "(III)Z"⟩, 32) := ⟨⟨by decide +kernel, by decide +kernel⟩, List.mem_of_getElem? (i := 1021) (by decide +kernel), List.mem_of_getElem? (i := 1143) (by decide +kernel), List.mem_of_getElem? (i := 1144) (by decide +kernel)⟩
theorem lw_p79 : lw_okq (⟨"SpareDayModel", "isPerson", "(I)Z"⟩, 32) := ⟨⟨by decide +kernel, by decide +kernel⟩, List.mem_of_getElem? (i := 1021) (by decide +kernel), List.mem_of_getElem? (i := 1147) (by decide +kernel), List.mem_of_getElem? (i := 1148) (by decide +kernel)⟩
def lw_privs_5 : List (MethodName × Nat) := [(⟨"SpareDay$Bids", "winner", "()I"⟩, 3), (⟨"SpareDay$Bids", "greatest", "()I"⟩, 3), (⟨"SpareDay$Bids", "price", "()I"⟩, 3), (⟨"SpareDay", "comesBefore", "(II)Z"⟩, 9), (⟨"SpareDay", "needsEachOne", "(I)Z"⟩, 9), (⟨"SpareDay", "spreadOfHad", "()I"⟩, 9), (⟨"SpareDay", "latestGiven", "()I"⟩, 9), (⟨"SpareDay", "tiedTo", "(I)I"⟩, 9), (⟨"SpareDay", "isClique", "(I)Z"⟩, 9), (⟨"SpareDay$Realm", "copy", "(LSpareDay$Realm;)V"⟩, 16), (⟨"SpareDay$Book", "copy", "(LSpareDay$Book;)V"⟩, 4), (⟨"SpareDay$Bids", "copy", "(LSpareDay$Bids;)V"⟩, 3), (⟨"SpareDay", "lookFurther", "(I)I"⟩, 9), (⟨"SpareDayModel", "forgets", "()V"⟩, 32), (⟨"SpareDayModel", "canSet", "(III)Z"⟩, 32), (⟨"SpareDayModel", "isPerson", "(I)Z"⟩, 32)]
theorem lw_r5 : ∀ q ∈ lw_privs_5, lw_okq q := List.forall_mem_cons.mpr ⟨lw_p64, List.forall_mem_cons.mpr ⟨lw_p65, List.forall_mem_cons.mpr ⟨lw_p66, List.forall_mem_cons.mpr ⟨lw_p67, List.forall_mem_cons.mpr ⟨lw_p68, List.forall_mem_cons.mpr ⟨lw_p69, List.forall_mem_cons.mpr ⟨lw_p70, List.forall_mem_cons.mpr ⟨lw_p71, List.forall_mem_cons.mpr ⟨lw_p72, List.forall_mem_cons.mpr ⟨lw_p73, List.forall_mem_cons.mpr ⟨lw_p74, List.forall_mem_cons.mpr ⟨lw_p75, List.forall_mem_cons.mpr ⟨lw_p76, List.forall_mem_cons.mpr ⟨lw_p77, List.forall_mem_cons.mpr ⟨lw_p78, List.forall_mem_cons.mpr ⟨lw_p79, fun _ h => absurd h List.not_mem_nil⟩⟩⟩⟩⟩⟩⟩⟩⟩⟩⟩⟩⟩⟩⟩⟩
theorem lw_p80 : lw_okq (⟨"SpareDayModel", "next0", "()V"⟩, 32) := ⟨⟨by decide +kernel, by decide +kernel⟩, List.mem_of_getElem? (i := 1021) (by decide +kernel), List.mem_of_getElem? (i := 1166) (by decide +kernel), List.mem_of_getElem? (i := 1167) (by decide +kernel)⟩
theorem lw_p81 : lw_okq (⟨"SpareDayModel", "see", "(I)I"⟩, 32) := ⟨⟨by decide +kernel, by decide +kernel⟩, List.mem_of_getElem? (i := 1021) (by decide +kernel), List.mem_of_getElem? (i := 1170) (by decide +kernel), List.mem_of_getElem? (i := 1171) (by decide +kernel)⟩
theorem lw_p82 : lw_okq (⟨"SpareDayModel", "word", "()I"⟩, 32) := ⟨⟨by decide +kernel, by decide +kernel⟩, List.mem_of_getElem? (i := 1021) (by decide +kernel), List.mem_of_getElem? (i := 1177) (by decide +kernel), List.mem_of_getElem? (i := 1178) (by decide +kernel)⟩
theorem lw_p83 : lw_okq (⟨"SpareDayModel", "lawWord", "()I"⟩, 32) := ⟨⟨by decide +kernel, by decide +kernel⟩, List.mem_of_getElem? (i := 1021) (by decide +kernel), List.mem_of_getElem? (i := 1181) (by decide +kernel), List.mem_of_getElem? (i := 1182) (by decide +kernel)⟩
theorem lw_p84 : lw_okq (⟨"SpareDayModel", "is", "(Ljava/lang/String;)Z"⟩, 32) := ⟨⟨by decide +kernel, by decide +kernel⟩, List.mem_of_getElem? (i := 1021) (by decide +kernel), List.mem_of_getElem? (i := 1186) (by decide +kernel), List.mem_of_getElem? (i := 1187) (by decide +kernel)⟩
theorem lw_p85 : lw_okq (⟨"SpareDayModel", "asked", "()I"⟩, 32) := ⟨⟨by decide +kernel, by decide +kernel⟩, List.mem_of_getElem? (i := 1021) (by decide +kernel), List.mem_of_getElem? (i := 1198) (by decide +kernel), List.mem_of_getElem? (i := 1199) (by decide +kernel)⟩
theorem lw_p86 : lw_okq (⟨"SpareDayModel", "workWord", "()I"⟩, 32) := ⟨⟨by decide +kernel, by decide +kernel⟩, List.mem_of_getElem? (i := 1021) (by decide +kernel), List.mem_of_getElem? (i := 1212) (by decide +kernel), List.mem_of_getElem? (i := 1213) (by decide +kernel)⟩
theorem lw_p87 : lw_okq (⟨"SpareDayModel", "councilWord", "()I"⟩, 32) := ⟨⟨by decide +kernel, by decide +kernel⟩, List.mem_of_getElem? (i := 1021) (by decide +kernel), List.mem_of_getElem? (i := 1222) (by decide +kernel), List.mem_of_getElem? (i := 1223) (by decide +kernel)⟩
theorem lw_p88 : lw_okq (⟨"SpareDayModel", "reads", "(I)Z"⟩, 32) := ⟨⟨by decide +kernel, by decide +kernel⟩, List.mem_of_getElem? (i := 1021) (by decide +kernel), List.mem_of_getElem? (i := 1230) (by decide +kernel), List.mem_of_getElem? (i := 1231) (by decide +kernel)⟩
theorem lw_p89 : lw_okq (⟨"SpareDayModel", "readsLaw", "()Z"⟩, 32) := ⟨⟨by decide +kernel, by decide +kernel⟩, List.mem_of_getElem? (i := 1021) (by decide +kernel), List.mem_of_getElem? (i := 1234) (by decide +kernel), List.mem_of_getElem? (i := 1235) (by decide +kernel)⟩
theorem lw_p90 : lw_okq (⟨"SpareDayModel", "aLine", "()Z"⟩, 32) := ⟨⟨by decide +kernel, by decide +kernel⟩, List.mem_of_getElem? (i := 1021) (by decide +kernel), List.mem_of_getElem? (i := 1238) (by decide +kernel), List.mem_of_getElem? (i := 1239) (by decide +kernel)⟩
theorem lw_p91 : lw_okq (⟨"SpareDayModel", "bad", "(I)Z"⟩, 32) := ⟨⟨by decide +kernel, by decide +kernel⟩, List.mem_of_getElem? (i := 1021) (by decide +kernel), List.mem_of_getElem? (i := 1242) (by decide +kernel), List.mem_of_getElem? (i := 1243) (by decide +kernel)⟩
theorem lw_p92 : lw_okq (⟨"SpareDayModel", "sumUp", "()Z"⟩, 32) := ⟨⟨by decide +kernel, by decide +kernel⟩, List.mem_of_getElem? (i := 1021) (by decide +kernel), List.mem_of_getElem? (i := 1246) (by decide +kernel), List.mem_of_getElem? (i := 1247) (by decide +kernel)⟩
theorem lw_p93 : lw_okq (⟨"SpareDayModel", "product", "()Z"⟩, 32) := ⟨⟨by decide +kernel, by decide +kernel⟩, List.mem_of_getElem? (i := 1021) (by decide +kernel), List.mem_of_getElem? (i := 1250) (by decide +kernel), List.mem_of_getElem? (i := 1251) (by decide +kernel)⟩
theorem lw_p94 : lw_okq (⟨"SpareDayModel", "unit", "()Z"⟩, 32) := ⟨⟨by decide +kernel, by decide +kernel⟩, List.mem_of_getElem? (i := 1021) (by decide +kernel), List.mem_of_getElem? (i := 1254) (by decide +kernel), List.mem_of_getElem? (i := 1255) (by decide +kernel)⟩
theorem lw_p95 : lw_okq (⟨"SpareDayModel", "lay", "(II)V"⟩, 32) := ⟨⟨by decide +kernel, by decide +kernel⟩, List.mem_of_getElem? (i := 1021) (by decide +kernel), List.mem_of_getElem? (i := 1258) (by decide +kernel), List.mem_of_getElem? (i := 1259) (by decide +kernel)⟩
def lw_privs_6 : List (MethodName × Nat) := [(⟨"SpareDayModel", "next0", "()V"⟩, 32), (⟨"SpareDayModel", "see", "(I)I"⟩, 32), (⟨"SpareDayModel", "word", "()I"⟩, 32), (⟨"SpareDayModel", "lawWord", "()I"⟩, 32), (⟨"SpareDayModel", "is", "(Ljava/lang/String;)Z"⟩, 32), (⟨"SpareDayModel", "asked", "()I"⟩, 32), (⟨"SpareDayModel", "workWord", "()I"⟩, 32), (⟨"SpareDayModel", "councilWord", "()I"⟩, 32), (⟨"SpareDayModel", "reads", "(I)Z"⟩, 32), (⟨"SpareDayModel", "readsLaw", "()Z"⟩, 32), (⟨"SpareDayModel", "aLine", "()Z"⟩, 32), (⟨"SpareDayModel", "bad", "(I)Z"⟩, 32), (⟨"SpareDayModel", "sumUp", "()Z"⟩, 32), (⟨"SpareDayModel", "product", "()Z"⟩, 32), (⟨"SpareDayModel", "unit", "()Z"⟩, 32), (⟨"SpareDayModel", "lay", "(II)V"⟩, 32)]
theorem lw_r6 : ∀ q ∈ lw_privs_6, lw_okq q := List.forall_mem_cons.mpr ⟨lw_p80, List.forall_mem_cons.mpr ⟨lw_p81, List.forall_mem_cons.mpr ⟨lw_p82, List.forall_mem_cons.mpr ⟨lw_p83, List.forall_mem_cons.mpr ⟨lw_p84, List.forall_mem_cons.mpr ⟨lw_p85, List.forall_mem_cons.mpr ⟨lw_p86, List.forall_mem_cons.mpr ⟨lw_p87, List.forall_mem_cons.mpr ⟨lw_p88, List.forall_mem_cons.mpr ⟨lw_p89, List.forall_mem_cons.mpr ⟨lw_p90, List.forall_mem_cons.mpr ⟨lw_p91, List.forall_mem_cons.mpr ⟨lw_p92, List.forall_mem_cons.mpr ⟨lw_p93, List.forall_mem_cons.mpr ⟨lw_p94, List.forall_mem_cons.mpr ⟨lw_p95, fun _ h => absurd h List.not_mem_nil⟩⟩⟩⟩⟩⟩⟩⟩⟩⟩⟩⟩⟩⟩⟩⟩
theorem lw_p96 : lw_okq (⟨"SpareDayModel", "any", "()Z"⟩, 32) := ⟨⟨by decide +kernel, by decide +kernel⟩, List.mem_of_getElem? (i := 1021) (by decide +kernel), List.mem_of_getElem? (i := 1262) (by decide +kernel), List.mem_of_getElem? (i := 1263) (by decide +kernel)⟩
theorem lw_p97 : lw_okq (⟨"SpareDayModel", "every", "()Z"⟩, 32) := ⟨⟨by decide +kernel, by decide +kernel⟩, List.mem_of_getElem? (i := 1021) (by decide +kernel), List.mem_of_getElem? (i := 1266) (by decide +kernel), List.mem_of_getElem? (i := 1267) (by decide +kernel)⟩
theorem lw_p98 : lw_okq (⟨"SpareDayModel", "oneTest", "()Z"⟩, 32) := ⟨⟨by decide +kernel, by decide +kernel⟩, List.mem_of_getElem? (i := 1021) (by decide +kernel), List.mem_of_getElem? (i := 1270) (by decide +kernel), List.mem_of_getElem? (i := 1271) (by decide +kernel)⟩
theorem lw_p99 : lw_okq (⟨"SpareDayModel", "opens", "()Z"⟩, 32) := ⟨⟨by decide +kernel, by decide +kernel⟩, List.mem_of_getElem? (i := 1021) (by decide +kernel), List.mem_of_getElem? (i := 1274) (by decide +kernel), List.mem_of_getElem? (i := 1275) (by decide +kernel)⟩
theorem lw_p100 : lw_okq (⟨"SpareDayModel", "need", "(I)Z"⟩, 32) := ⟨⟨by decide +kernel, by decide +kernel⟩, List.mem_of_getElem? (i := 1021) (by decide +kernel), List.mem_of_getElem? (i := 1278) (by decide +kernel), List.mem_of_getElem? (i := 1279) (by decide +kernel)⟩
theorem lw_p101 : lw_okq (⟨"SpareDayModel", "readsVoices", "()Z"⟩, 32) := ⟨⟨by decide +kernel, by decide +kernel⟩, List.mem_of_getElem? (i := 1021) (by decide +kernel), List.mem_of_getElem? (i := 1282) (by decide +kernel), List.mem_of_getElem? (i := 1283) (by decide +kernel)⟩
theorem lw_p102 : lw_okq (⟨"SpareDayModel", "aVoice", "()Z"⟩, 32) := ⟨⟨by decide +kernel, by decide +kernel⟩, List.mem_of_getElem? (i := 1021) (by decide +kernel), List.mem_of_getElem? (i := 1286) (by decide +kernel), List.mem_of_getElem? (i := 1287) (by decide +kernel)⟩
theorem lw_p103 : lw_okq (⟨"SpareDayModel", "number", "(II)Z"⟩, 32) := ⟨⟨by decide +kernel, by decide +kernel⟩, List.mem_of_getElem? (i := 1021) (by decide +kernel), List.mem_of_getElem? (i := 1290) (by decide +kernel), List.mem_of_getElem? (i := 1291) (by decide +kernel)⟩
theorem lw_p104 : lw_okq (⟨"SpareDayModel", "readsWorks", "()Z"⟩, 32) := ⟨⟨by decide +kernel, by decide +kernel⟩, List.mem_of_getElem? (i := 1021) (by decide +kernel), List.mem_of_getElem? (i := 1294) (by decide +kernel), List.mem_of_getElem? (i := 1295) (by decide +kernel)⟩
theorem lw_p105 : lw_okq (⟨"SpareDayModel", "aWork", "()Z"⟩, 32) := ⟨⟨by decide +kernel, by decide +kernel⟩, List.mem_of_getElem? (i := 1021) (by decide +kernel), List.mem_of_getElem? (i := 1298) (by decide +kernel), List.mem_of_getElem? (i := 1299) (by decide +kernel)⟩
theorem lw_p106 : lw_okq (⟨"SpareDayModel", "told", "(IIII)Z"⟩, 32) := ⟨⟨by decide +kernel, by decide +kernel⟩, List.mem_of_getElem? (i := 1021) (by decide +kernel), List.mem_of_getElem? (i := 1302) (by decide +kernel), List.mem_of_getElem? (i := 1303) (by decide +kernel)⟩
theorem lw_p107 : lw_okq (⟨"SpareDayModel", "anAfter", "()Z"⟩, 32) := ⟨⟨by decide +kernel, by decide +kernel⟩, List.mem_of_getElem? (i := 1021) (by decide +kernel), List.mem_of_getElem? (i := 1306) (by decide +kernel), List.mem_of_getElem? (i := 1307) (by decide +kernel)⟩
theorem lw_p108 : lw_okq (⟨"SpareDayModel", "readsCouncil", "()Z"⟩, 32) := ⟨⟨by decide +kernel, by decide +kernel⟩, List.mem_of_getElem? (i := 1021) (by decide +kernel), List.mem_of_getElem? (i := 1310) (by decide +kernel), List.mem_of_getElem? (i := 1311) (by decide +kernel)⟩
theorem lw_p109 : lw_okq (⟨"SpareDayModel", "aRule", "()Z"⟩, 32) := ⟨⟨by decide +kernel, by decide +kernel⟩, List.mem_of_getElem? (i := 1021) (by decide +kernel), List.mem_of_getElem? (i := 1314) (by decide +kernel), List.mem_of_getElem? (i := 1315) (by decide +kernel)⟩
theorem lw_p110 : lw_okq (⟨"SpareDayModel", "anyOf", "()Z"⟩, 32) := ⟨⟨by decide +kernel, by decide +kernel⟩, List.mem_of_getElem? (i := 1021) (by decide +kernel), List.mem_of_getElem? (i := 1318) (by decide +kernel), List.mem_of_getElem? (i := 1319) (by decide +kernel)⟩
theorem lw_p111 : lw_okq (⟨"SpareDayModel", "oneOf", "()Z"⟩, 32) := ⟨⟨by decide +kernel, by decide +kernel⟩, List.mem_of_getElem? (i := 1021) (by decide +kernel), List.mem_of_getElem? (i := 1322) (by decide +kernel), List.mem_of_getElem? (i := 1323) (by decide +kernel)⟩
def lw_privs_7 : List (MethodName × Nat) := [(⟨"SpareDayModel", "any", "()Z"⟩, 32), (⟨"SpareDayModel", "every", "()Z"⟩, 32), (⟨"SpareDayModel", "oneTest", "()Z"⟩, 32), (⟨"SpareDayModel", "opens", "()Z"⟩, 32), (⟨"SpareDayModel", "need", "(I)Z"⟩, 32), (⟨"SpareDayModel", "readsVoices", "()Z"⟩, 32), (⟨"SpareDayModel", "aVoice", "()Z"⟩, 32), (⟨"SpareDayModel", "number", "(II)Z"⟩, 32), (⟨"SpareDayModel", "readsWorks", "()Z"⟩, 32), (⟨"SpareDayModel", "aWork", "()Z"⟩, 32), (⟨"SpareDayModel", "told", "(IIII)Z"⟩, 32), (⟨"SpareDayModel", "anAfter", "()Z"⟩, 32), (⟨"SpareDayModel", "readsCouncil", "()Z"⟩, 32), (⟨"SpareDayModel", "aRule", "()Z"⟩, 32), (⟨"SpareDayModel", "anyOf", "()Z"⟩, 32), (⟨"SpareDayModel", "oneOf", "()Z"⟩, 32)]
theorem lw_r7 : ∀ q ∈ lw_privs_7, lw_okq q := List.forall_mem_cons.mpr ⟨lw_p96, List.forall_mem_cons.mpr ⟨lw_p97, List.forall_mem_cons.mpr ⟨lw_p98, List.forall_mem_cons.mpr ⟨lw_p99, List.forall_mem_cons.mpr ⟨lw_p100, List.forall_mem_cons.mpr ⟨lw_p101, List.forall_mem_cons.mpr ⟨lw_p102, List.forall_mem_cons.mpr ⟨lw_p103, List.forall_mem_cons.mpr ⟨lw_p104, List.forall_mem_cons.mpr ⟨lw_p105, List.forall_mem_cons.mpr ⟨lw_p106, List.forall_mem_cons.mpr ⟨lw_p107, List.forall_mem_cons.mpr ⟨lw_p108, List.forall_mem_cons.mpr ⟨lw_p109, List.forall_mem_cons.mpr ⟨lw_p110, List.forall_mem_cons.mpr ⟨lw_p111, fun _ h => absurd h List.not_mem_nil⟩⟩⟩⟩⟩⟩⟩⟩⟩⟩⟩⟩⟩⟩⟩⟩
theorem lw_p112 : lw_okq (⟨"SpareDayModel", "rules", "(I)V"⟩, 32) := ⟨⟨by decide +kernel, by decide +kernel⟩, List.mem_of_getElem? (i := 1021) (by decide +kernel), List.mem_of_getElem? (i := 1326) (by decide +kernel), List.mem_of_getElem? (i := 1327) (by decide +kernel)⟩
theorem lw_p113 : lw_okq (⟨"SpareDayModel", "putsText", "(I)I"⟩, 32) := ⟨⟨by decide +kernel, by decide +kernel⟩, List.mem_of_getElem? (i := 1021) (by decide +kernel), List.mem_of_getElem? (i := 1330) (by decide +kernel), List.mem_of_getElem? (i := 1331) (by decide +kernel)⟩
theorem lw_p114 : lw_okq (⟨"SpareDayModel", "putsLaw", "()I"⟩, 32) := ⟨⟨by decide +kernel, by decide +kernel⟩, List.mem_of_getElem? (i := 1021) (by decide +kernel), List.mem_of_getElem? (i := 1334) (by decide +kernel), List.mem_of_getElem? (i := 1335) (by decide +kernel)⟩
theorem lw_p115 : lw_okq (⟨"SpareDayModel", "putsVoices", "()I"⟩, 32) := ⟨⟨by decide +kernel, by decide +kernel⟩, List.mem_of_getElem? (i := 1021) (by decide +kernel), List.mem_of_getElem? (i := 1338) (by decide +kernel), List.mem_of_getElem? (i := 1339) (by decide +kernel)⟩
theorem lw_p116 : lw_okq (⟨"SpareDayModel", "putsWorks", "()I"⟩, 32) := ⟨⟨by decide +kernel, by decide +kernel⟩, List.mem_of_getElem? (i := 1021) (by decide +kernel), List.mem_of_getElem? (i := 1342) (by decide +kernel), List.mem_of_getElem? (i := 1343) (by decide +kernel)⟩
theorem lw_p117 : lw_okq (⟨"SpareDayModel", "putsCouncil", "()I"⟩, 32) := ⟨⟨by decide +kernel, by decide +kernel⟩, List.mem_of_getElem? (i := 1021) (by decide +kernel), List.mem_of_getElem? (i := 1346) (by decide +kernel), List.mem_of_getElem? (i := 1347) (by decide +kernel)⟩
theorem lw_p118 : lw_okq (⟨"SpareDayModel", "keeps", "()V"⟩, 32) := ⟨⟨by decide +kernel, by decide +kernel⟩, List.mem_of_getElem? (i := 1021) (by decide +kernel), List.mem_of_getElem? (i := 1362) (by decide +kernel), List.mem_of_getElem? (i := 1363) (by decide +kernel)⟩
theorem lw_p119 : lw_okq (⟨"SpareDayModel", "aYear", "()I"⟩, 32) := ⟨⟨by decide +kernel, by decide +kernel⟩, List.mem_of_getElem? (i := 1021) (by decide +kernel), List.mem_of_getElem? (i := 1377) (by decide +kernel), List.mem_of_getElem? (i := 1378) (by decide +kernel)⟩
theorem lw_p120 : lw_okq (⟨"SpareDayModel", "givenNow", "()I"⟩, 32) := ⟨⟨by decide +kernel, by decide +kernel⟩, List.mem_of_getElem? (i := 1021) (by decide +kernel), List.mem_of_getElem? (i := 1381) (by decide +kernel), List.mem_of_getElem? (i := 1382) (by decide +kernel)⟩
theorem lw_p121 : lw_okq (⟨"SpareDayModel", "sumFor", "(I)I"⟩, 32) := ⟨⟨by decide +kernel, by decide +kernel⟩, List.mem_of_getElem? (i := 1021) (by decide +kernel), List.mem_of_getElem? (i := 1385) (by decide +kernel), List.mem_of_getElem? (i := 1386) (by decide +kernel)⟩
theorem lw_p122 : lw_okq (⟨"SpareDayModel", "weightOf", "(I)I"⟩, 32) := ⟨⟨by decide +kernel, by decide +kernel⟩, List.mem_of_getElem? (i := 1021) (by decide +kernel), List.mem_of_getElem? (i := 1389) (by decide +kernel), List.mem_of_getElem? (i := 1390) (by decide +kernel)⟩
theorem lw_p123 : lw_okq (⟨"SpareDayModel", "says", "(IIIII)I"⟩, 32) := ⟨⟨by decide +kernel, by decide +kernel⟩, List.mem_of_getElem? (i := 1021) (by decide +kernel), List.mem_of_getElem? (i := 1393) (by decide +kernel), List.mem_of_getElem? (i := 1394) (by decide +kernel)⟩
theorem lw_p124 : lw_okq (⟨"SpareDayModel", "isSo", "(I)Z"⟩, 32) := ⟨⟨by decide +kernel, by decide +kernel⟩, List.mem_of_getElem? (i := 1021) (by decide +kernel), List.mem_of_getElem? (i := 1400) (by decide +kernel), List.mem_of_getElem? (i := 1401) (by decide +kernel)⟩
theorem lw_p125 : lw_okq (⟨"SpareDayModel", "comesTo", "(III)I"⟩, 32) := ⟨⟨by decide +kernel, by decide +kernel⟩, List.mem_of_getElem? (i := 1021) (by decide +kernel), List.mem_of_getElem? (i := 1404) (by decide +kernel), List.mem_of_getElem? (i := 1405) (by decide +kernel)⟩
theorem lw_p126 : lw_okq (⟨"SpareDayModel", "voicesFor", "(I)I"⟩, 32) := ⟨⟨by decide +kernel, by decide +kernel⟩, List.mem_of_getElem? (i := 1021) (by decide +kernel), List.mem_of_getElem? (i := 1414) (by decide +kernel), List.mem_of_getElem? (i := 1415) (by decide +kernel)⟩
theorem lw_p127 : lw_okq (⟨"SpareDayModel", "satisfies", "(I)Z"⟩, 32) := ⟨⟨by decide +kernel, by decide +kernel⟩, List.mem_of_getElem? (i := 1021) (by decide +kernel), List.mem_of_getElem? (i := 1418) (by decide +kernel), List.mem_of_getElem? (i := 1419) (by decide +kernel)⟩
def lw_privs_8 : List (MethodName × Nat) := [(⟨"SpareDayModel", "rules", "(I)V"⟩, 32), (⟨"SpareDayModel", "putsText", "(I)I"⟩, 32), (⟨"SpareDayModel", "putsLaw", "()I"⟩, 32), (⟨"SpareDayModel", "putsVoices", "()I"⟩, 32), (⟨"SpareDayModel", "putsWorks", "()I"⟩, 32), (⟨"SpareDayModel", "putsCouncil", "()I"⟩, 32), (⟨"SpareDayModel", "keeps", "()V"⟩, 32), (⟨"SpareDayModel", "aYear", "()I"⟩, 32), (⟨"SpareDayModel", "givenNow", "()I"⟩, 32), (⟨"SpareDayModel", "sumFor", "(I)I"⟩, 32), (⟨"SpareDayModel", "weightOf", "(I)I"⟩, 32), (⟨"SpareDayModel", "says", "(IIIII)I"⟩, 32), (⟨"SpareDayModel", "isSo", "(I)Z"⟩, 32), (⟨"SpareDayModel", "comesTo", "(III)I"⟩, 32), (⟨"SpareDayModel", "voicesFor", "(I)I"⟩, 32), (⟨"SpareDayModel", "satisfies", "(I)Z"⟩, 32)]
theorem lw_r8 : ∀ q ∈ lw_privs_8, lw_okq q := List.forall_mem_cons.mpr ⟨lw_p112, List.forall_mem_cons.mpr ⟨lw_p113, List.forall_mem_cons.mpr ⟨lw_p114, List.forall_mem_cons.mpr ⟨lw_p115, List.forall_mem_cons.mpr ⟨lw_p116, List.forall_mem_cons.mpr ⟨lw_p117, List.forall_mem_cons.mpr ⟨lw_p118, List.forall_mem_cons.mpr ⟨lw_p119, List.forall_mem_cons.mpr ⟨lw_p120, List.forall_mem_cons.mpr ⟨lw_p121, List.forall_mem_cons.mpr ⟨lw_p122, List.forall_mem_cons.mpr ⟨lw_p123, List.forall_mem_cons.mpr ⟨lw_p124, List.forall_mem_cons.mpr ⟨lw_p125, List.forall_mem_cons.mpr ⟨lw_p126, List.forall_mem_cons.mpr ⟨lw_p127, fun _ h => absurd h List.not_mem_nil⟩⟩⟩⟩⟩⟩⟩⟩⟩⟩⟩⟩⟩⟩⟩⟩
theorem lw_p128 : lw_okq (⟨"SpareDayModel", "isBefore", "(II)Z"⟩, 32) := ⟨⟨by decide +kernel, by decide +kernel⟩, List.mem_of_getElem? (i := 1021) (by decide +kernel), List.mem_of_getElem? (i := 1422) (by decide +kernel), List.mem_of_getElem? (i := 1423) (by decide +kernel)⟩
theorem lw_p129 : lw_okq (⟨"SpareDayModel", "notes", "(III)V"⟩, 32) := ⟨⟨by decide +kernel, by decide +kernel⟩, List.mem_of_getElem? (i := 1021) (by decide +kernel), List.mem_of_getElem? (i := 1426) (by decide +kernel), List.mem_of_getElem? (i := 1427) (by decide +kernel)⟩
theorem lw_p130 : lw_okq (⟨"SpareDayModel", "gets", "(I)V"⟩, 32) := ⟨⟨by decide +kernel, by decide +kernel⟩, List.mem_of_getElem? (i := 1021) (by decide +kernel), List.mem_of_getElem? (i := 1430) (by decide +kernel), List.mem_of_getElem? (i := 1431) (by decide +kernel)⟩
theorem lw_p131 : lw_okq (⟨"SpareDayModel", "hoursNow", "()I"⟩, 32) := ⟨⟨by decide +kernel, by decide +kernel⟩, List.mem_of_getElem? (i := 1021) (by decide +kernel), List.mem_of_getElem? (i := 1434) (by decide +kernel), List.mem_of_getElem? (i := 1435) (by decide +kernel)⟩
theorem lw_p132 : lw_okq (⟨"SpareDayModel", "planOf", "(II)I"⟩, 32) := ⟨⟨by decide +kernel, by decide +kernel⟩, List.mem_of_getElem? (i := 1021) (by decide +kernel), List.mem_of_getElem? (i := 1438) (by decide +kernel), List.mem_of_getElem? (i := 1439) (by decide +kernel)⟩
theorem lw_p133 : lw_okq (⟨"SpareDayModel", "sumOf", "(II)I"⟩, 32) := ⟨⟨by decide +kernel, by decide +kernel⟩, List.mem_of_getElem? (i := 1021) (by decide +kernel), List.mem_of_getElem? (i := 1442) (by decide +kernel), List.mem_of_getElem? (i := 1443) (by decide +kernel)⟩
theorem lw_p134 : lw_okq (⟨"SpareDayModel", "ofWork", "(II)I"⟩, 32) := ⟨⟨by decide +kernel, by decide +kernel⟩, List.mem_of_getElem? (i := 1021) (by decide +kernel), List.mem_of_getElem? (i := 1446) (by decide +kernel), List.mem_of_getElem? (i := 1447) (by decide +kernel)⟩
theorem lw_p135 : lw_okq (⟨"SpareDayModel", "goTogether", "(II)Z"⟩, 32) := ⟨⟨by decide +kernel, by decide +kernel⟩, List.mem_of_getElem? (i := 1021) (by decide +kernel), List.mem_of_getElem? (i := 1450) (by decide +kernel), List.mem_of_getElem? (i := 1451) (by decide +kernel)⟩
theorem lw_p136 : lw_okq (⟨"SpareDayModel", "isDone", "(I)Z"⟩, 32) := ⟨⟨by decide +kernel, by decide +kernel⟩, List.mem_of_getElem? (i := 1021) (by decide +kernel), List.mem_of_getElem? (i := 1454) (by decide +kernel), List.mem_of_getElem? (i := 1455) (by decide +kernel)⟩
theorem lw_p137 : lw_okq (⟨"SpareDayModel", "wearOf", "(II)I"⟩, 32) := ⟨⟨by decide +kernel, by decide +kernel⟩, List.mem_of_getElem? (i := 1021) (by decide +kernel), List.mem_of_getElem? (i := 1458) (by decide +kernel), List.mem_of_getElem? (i := 1459) (by decide +kernel)⟩
theorem lw_p138 : lw_okq (⟨"SpareDayModel", "noticeOf", "(II)I"⟩, 32) := ⟨⟨by decide +kernel, by decide +kernel⟩, List.mem_of_getElem? (i := 1021) (by decide +kernel), List.mem_of_getElem? (i := 1462) (by decide +kernel), List.mem_of_getElem? (i := 1463) (by decide +kernel)⟩
theorem lw_p139 : lw_okq (⟨"SpareDayModel", "draw", "(I)I"⟩, 32) := ⟨⟨by decide +kernel, by decide +kernel⟩, List.mem_of_getElem? (i := 1021) (by decide +kernel), List.mem_of_getElem? (i := 1466) (by decide +kernel), List.mem_of_getElem? (i := 1467) (by decide +kernel)⟩
theorem lw_p140 : lw_okq (⟨"SpareDayModel", "all", "()I"⟩, 32) := ⟨⟨by decide +kernel, by decide +kernel⟩, List.mem_of_getElem? (i := 1021) (by decide +kernel), List.mem_of_getElem? (i := 1496) (by decide +kernel), List.mem_of_getElem? (i := 1497) (by decide +kernel)⟩
theorem lw_p141 : lw_okq (⟨"SpareDayModel", "isNeedier", "(II)Z"⟩, 32) := ⟨⟨by decide +kernel, by decide +kernel⟩, List.mem_of_getElem? (i := 1021) (by decide +kernel), List.mem_of_getElem? (i := 1512) (by decide +kernel), List.mem_of_getElem? (i := 1513) (by decide +kernel)⟩
theorem lw_p142 : lw_okq (⟨"SpareDayModel", "needsAll", "(I)Z"⟩, 32) := ⟨⟨by decide +kernel, by decide +kernel⟩, List.mem_of_getElem? (i := 1021) (by decide +kernel), List.mem_of_getElem? (i := 1537) (by decide +kernel), List.mem_of_getElem? (i := 1538) (by decide +kernel)⟩
theorem lw_p143 : lw_okq (⟨"SpareDayModel", "laysTurns", "(I)V"⟩, 32) := ⟨⟨by decide +kernel, by decide +kernel⟩, List.mem_of_getElem? (i := 1021) (by decide +kernel), List.mem_of_getElem? (i := 1549) (by decide +kernel), List.mem_of_getElem? (i := 1550) (by decide +kernel)⟩
def lw_privs_9 : List (MethodName × Nat) := [(⟨"SpareDayModel", "isBefore", "(II)Z"⟩, 32), (⟨"SpareDayModel", "notes", "(III)V"⟩, 32), (⟨"SpareDayModel", "gets", "(I)V"⟩, 32), (⟨"SpareDayModel", "hoursNow", "()I"⟩, 32), (⟨"SpareDayModel", "planOf", "(II)I"⟩, 32), (⟨"SpareDayModel", "sumOf", "(II)I"⟩, 32), (⟨"SpareDayModel", "ofWork", "(II)I"⟩, 32), (⟨"SpareDayModel", "goTogether", "(II)Z"⟩, 32), (⟨"SpareDayModel", "isDone", "(I)Z"⟩, 32), (⟨"SpareDayModel", "wearOf", "(II)I"⟩, 32), (⟨"SpareDayModel", "noticeOf", "(II)I"⟩, 32), (⟨"SpareDayModel", "draw", "(I)I"⟩, 32), (⟨"SpareDayModel", "all", "()I"⟩, 32), (⟨"SpareDayModel", "isNeedier", "(II)Z"⟩, 32), (⟨"SpareDayModel", "needsAll", "(I)Z"⟩, 32), (⟨"SpareDayModel", "laysTurns", "(I)V"⟩, 32)]
theorem lw_r9 : ∀ q ∈ lw_privs_9, lw_okq q := List.forall_mem_cons.mpr ⟨lw_p128, List.forall_mem_cons.mpr ⟨lw_p129, List.forall_mem_cons.mpr ⟨lw_p130, List.forall_mem_cons.mpr ⟨lw_p131, List.forall_mem_cons.mpr ⟨lw_p132, List.forall_mem_cons.mpr ⟨lw_p133, List.forall_mem_cons.mpr ⟨lw_p134, List.forall_mem_cons.mpr ⟨lw_p135, List.forall_mem_cons.mpr ⟨lw_p136, List.forall_mem_cons.mpr ⟨lw_p137, List.forall_mem_cons.mpr ⟨lw_p138, List.forall_mem_cons.mpr ⟨lw_p139, List.forall_mem_cons.mpr ⟨lw_p140, List.forall_mem_cons.mpr ⟨lw_p141, List.forall_mem_cons.mpr ⟨lw_p142, List.forall_mem_cons.mpr ⟨lw_p143, fun _ h => absurd h List.not_mem_nil⟩⟩⟩⟩⟩⟩⟩⟩⟩⟩⟩⟩⟩⟩⟩⟩
theorem lw_p144 : lw_okq (⟨"SpareDayModel", "isInTime", "(II)Z"⟩, 32) := ⟨⟨by decide +kernel, by decide +kernel⟩, List.mem_of_getElem? (i := 1021) (by decide +kernel), List.mem_of_getElem? (i := 1553) (by decide +kernel), List.mem_of_getElem? (i := 1554) (by decide +kernel)⟩
theorem lw_p145 : lw_okq (⟨"SpareDayModel", "takerIn", "(II)I"⟩, 32) := ⟨⟨by decide +kernel, by decide +kernel⟩, List.mem_of_getElem? (i := 1021) (by decide +kernel), List.mem_of_getElem? (i := 1557) (by decide +kernel), List.mem_of_getElem? (i := 1558) (by decide +kernel)⟩
theorem lw_p146 : lw_okq (⟨"SpareDayModel", "fitsWith", "(II)I"⟩, 32) := ⟨⟨by decide +kernel, by decide +kernel⟩, List.mem_of_getElem? (i := 1021) (by decide +kernel), List.mem_of_getElem? (i := 1569) (by decide +kernel), List.mem_of_getElem? (i := 1570) (by decide +kernel)⟩
theorem lw_p147 : lw_okq (⟨"SpareDayModel", "fitsTraces", "(II)Z"⟩, 32) := ⟨⟨by decide +kernel, by decide +kernel⟩, List.mem_of_getElem? (i := 1021) (by decide +kernel), List.mem_of_getElem? (i := 1573) (by decide +kernel), List.mem_of_getElem? (i := 1574) (by decide +kernel)⟩
theorem lw_p148 : lw_okq (⟨"SpareDayModel", "isClique", "(I)Z"⟩, 32) := ⟨⟨by decide +kernel, by decide +kernel⟩, List.mem_of_getElem? (i := 1021) (by decide +kernel), List.mem_of_getElem? (i := 1617) (by decide +kernel), List.mem_of_getElem? (i := 1618) (by decide +kernel)⟩
def lw_privs_10 : List (MethodName × Nat) := [(⟨"SpareDayModel", "isInTime", "(II)Z"⟩, 32), (⟨"SpareDayModel", "takerIn", "(II)I"⟩, 32), (⟨"SpareDayModel", "fitsWith", "(II)I"⟩, 32), (⟨"SpareDayModel", "fitsTraces", "(II)Z"⟩, 32), (⟨"SpareDayModel", "isClique", "(I)Z"⟩, 32)]
theorem lw_r10 : ∀ q ∈ lw_privs_10, lw_okq q := List.forall_mem_cons.mpr ⟨lw_p144, List.forall_mem_cons.mpr ⟨lw_p145, List.forall_mem_cons.mpr ⟨lw_p146, List.forall_mem_cons.mpr ⟨lw_p147, List.forall_mem_cons.mpr ⟨lw_p148, fun _ h => absurd h List.not_mem_nil⟩⟩⟩⟩⟩
def lw_privs : List (MethodName × Nat) := lw_privs_1 ++ (lw_privs_2 ++ (lw_privs_3 ++ (lw_privs_4 ++ (lw_privs_5 ++ (lw_privs_6 ++ (lw_privs_7 ++ (lw_privs_8 ++ (lw_privs_9 ++ (lw_privs_10)))))))))
def lw_tbl : List Cond := k2_sels lw_privs ++ tables_1
theorem lw_privs_ok : ∀ q ∈ lw_privs, lw_okq q := by
  show ∀ q ∈ lw_privs_1 ++ (lw_privs_2 ++ (lw_privs_3 ++ (lw_privs_4 ++ (lw_privs_5 ++ (lw_privs_6 ++ (lw_privs_7 ++ (lw_privs_8 ++ (lw_privs_9 ++ (lw_privs_10))))))))), lw_okq q
  exact List.forall_mem_append.mpr ⟨lw_r1, List.forall_mem_append.mpr ⟨lw_r2, List.forall_mem_append.mpr ⟨lw_r3, List.forall_mem_append.mpr ⟨lw_r4, List.forall_mem_append.mpr ⟨lw_r5, List.forall_mem_append.mpr ⟨lw_r6, List.forall_mem_append.mpr ⟨lw_r7, List.forall_mem_append.mpr ⟨lw_r8, List.forall_mem_append.mpr ⟨lw_r9, lw_r10⟩⟩⟩⟩⟩⟩⟩⟩⟩

-- ===== classes, fields, methods of the claim, by number =====
def zCN : List String := ["SpareDay", "SpareDay$Realm", "SpareDay$Moment", "SpareDay$Book", "SpareDay$Law", "SpareDay$Code", "SpareDay$Works", "SpareDay$Council", "SpareDay$Bids", "SpareDay$Reader", "SpareDayModel", "SpareDayLaw", "java/lang/Integer", "java/lang/String", "java/lang/StringLatin1", "jdk/internal/util/Preconditions"]
def zcn (c : Nat) : String := zCN.getD c ""
def zFD : List (List (String × String × String × Bool)) := [[("SpareDay", "realm", "LSpareDay$Realm;", true), ("SpareDay", "likeness", "LSpareDay$Realm;", true), ("SpareDay", "hasLikeness", "Z", false), ("SpareDay", "pasts", "[LSpareDay$Moment;", true), ("SpareDay", "oldest", "I", false), ("SpareDay", "kept", "I", false), ("SpareDay", "thought", "LSpareDay$Moment;", true), ("SpareDay", "reader", "LSpareDay$Reader;", true), ("SpareDay", "doing", "[Z", true)],
  [("SpareDay$Realm", "now", "LSpareDay$Moment;", true), ("SpareDay$Realm", "book", "LSpareDay$Book;", true), ("SpareDay$Realm", "law", "LSpareDay$Law;", true), ("SpareDay$Realm", "works", "LSpareDay$Works;", true), ("SpareDay$Realm", "council", "LSpareDay$Council;", true), ("SpareDay$Realm", "bids", "LSpareDay$Bids;", true), ("SpareDay$Realm", "need", "[I", true), ("SpareDay$Realm", "by", "[I", true), ("SpareDay$Realm", "names", "[I", true), ("SpareDay$Realm", "weights", "[I", true), ("SpareDay$Realm", "facts", "[I", true), ("SpareDay$Realm", "people", "I", false), ("SpareDay$Realm", "rest", "I", false), ("SpareDay$Realm", "limit", "I", false), ("SpareDay$Realm", "dust", "I", false), ("SpareDay$Realm", "wax", "I", false)],
  [("SpareDay$Moment", "age", "[I", true), ("SpareDay$Moment", "had", "[I", true), ("SpareDay$Moment", "since", "[I", true), ("SpareDay$Moment", "tied", "[I", true), ("SpareDay$Moment", "wear", "I", false), ("SpareDay$Moment", "year", "I", false), ("SpareDay$Moment", "noticed", "I", false), ("SpareDay$Moment", "worth", "I", false), ("SpareDay$Moment", "done", "I", false), ("SpareDay$Moment", "draws", "I", false), ("SpareDay$Moment", "lines", "I", false)],
  [("SpareDay$Book", "year", "[I", true), ("SpareDay$Book", "kind", "[I", true), ("SpareDay$Book", "whom", "[I", true), ("SpareDay$Book", "hours", "[I", true)],
  [("SpareDay$Law", "code", "LSpareDay$Code;", true), ("SpareDay$Law", "words", "[I", true), ("SpareDay$Law", "starts", "[I", true), ("SpareDay$Law", "whens", "[I", true), ("SpareDay$Law", "ends", "[I", true), ("SpareDay$Law", "lines", "I", false)],
  [("SpareDay$Code", "ops", "[I", true), ("SpareDay$Code", "args", "[I", true), ("SpareDay$Code", "stack", "[I", true), ("SpareDay$Code", "size", "I", false)],
  [("SpareDay$Works", "owner", "[I", true), ("SpareDay$Works", "hours", "[I", true), ("SpareDay$Works", "worth", "[I", true), ("SpareDay$Works", "dust", "[I", true), ("SpareDay$Works", "wax", "[I", true), ("SpareDay$Works", "behind", "[I", true), ("SpareDay$Works", "count", "I", false), ("SpareDay$Works", "fitsWith", "[I", true), ("SpareDay$Works", "fitSets", "I", false), ("SpareDay$Works", "leastFit", "I", false)],
  [("SpareDay$Council", "code", "LSpareDay$Code;", true), ("SpareDay$Council", "parts", "I", false)],
  [("SpareDay$Bids", "bidder", "[I", true), ("SpareDay$Bids", "amount", "[I", true), ("SpareDay$Bids", "count", "I", false)],
  [("SpareDay$Reader", "tape", "[I", true), ("SpareDay$Reader", "bytes", "I", false), ("SpareDay$Reader", "kinds", "[I", true), ("SpareDay$Reader", "values", "[I", true), ("SpareDay$Reader", "places", "[I", true), ("SpareDay$Reader", "tokens", "I", false), ("SpareDay$Reader", "at", "I", false), ("SpareDay$Reader", "kind", "I", false), ("SpareDay$Reader", "value", "I", false), ("SpareDay$Reader", "people", "I", false), ("SpareDay$Reader", "fault", "I", false), ("SpareDay$Reader", "faultPlace", "I", false), ("SpareDay$Reader", "law", "LSpareDay$Law;", true), ("SpareDay$Reader", "names", "[I", true), ("SpareDay$Reader", "works", "LSpareDay$Works;", true), ("SpareDay$Reader", "council", "LSpareDay$Council;", true)],
  [("SpareDayModel", "w", "[I", true), ("SpareDayModel", "kept", "[I", true), ("SpareDayModel", "back", "[I", true), ("SpareDayModel", "lying", "[I", true), ("SpareDayModel", "backMany", "I", false), ("SpareDayModel", "hasImage", "Z", false), ("SpareDayModel", "freshLine", "[I", true), ("SpareDayModel", "freshStep", "[I", true), ("SpareDayModel", "freshVoice", "[I", true), ("SpareDayModel", "freshWork", "[I", true), ("SpareDayModel", "freshRule", "[I", true), ("SpareDayModel", "tape", "[I", true), ("SpareDayModel", "pile", "[I", true), ("SpareDayModel", "facts", "[I", true), ("SpareDayModel", "reading", "I", false), ("SpareDayModel", "lines", "I", false), ("SpareDayModel", "steps", "I", false), ("SpareDayModel", "rows", "I", false), ("SpareDayModel", "rules", "I", false), ("SpareDayModel", "taped", "I", false), ("SpareDayModel", "at", "I", false), ("SpareDayModel", "token", "I", false), ("SpareDayModel", "tokenAt", "I", false), ("SpareDayModel", "value", "I", false), ("SpareDayModel", "wrong", "I", false), ("SpareDayModel", "wrongAt", "I", false), ("SpareDayModel", "faultKind", "I", false), ("SpareDayModel", "depth", "I", false), ("SpareDayModel", "faultPlace", "I", false), ("SpareDayModel", "numbered", "I", false), ("SpareDayModel", "isTrue", "Z", false), ("SpareDayModel", "mostFrom", "[I", true)]]
def zFK : List (List Nat) := [[2, 2, 1, 2, 0, 0, 2, 2, 2], [2, 2, 2, 2, 2, 2, 2, 2, 2, 2, 2, 0, 0, 0, 0, 0], [2, 2, 2, 2, 0, 0, 0, 0, 0, 0, 0], [2, 2, 2, 2], [2, 2, 2, 2, 2, 0], [2, 2, 2, 0], [2, 2, 2, 2, 2, 2, 0, 2, 0, 0], [2, 0], [2, 2, 0], [2, 0, 2, 2, 2, 0, 0, 0, 0, 0, 0, 0, 2, 2, 2, 2], [2, 2, 2, 2, 0, 1, 2, 2, 2, 2, 2, 2, 2, 2, 0, 0, 0, 0, 0, 0, 0, 0, 0, 0, 0, 0, 0, 0, 0, 0, 1, 2]]
def zfk (c k : Nat) : Nat := (zFK.getD c []).getD k 9
def zfin (c k : Nat) : Bool := ((zFD.getD c []).getD k ("", "", "", false)).2.2.2
def zT (c : Nat) : u_T := fun k => (zFD.getD c []).getD k ("", "", "", false)
def zN (c : Nat) : Nat := (zFD.getD c []).length
def zCL : List vw_C := (List.range 11).map fun c => (zcn c, zT c, zN c)
/-- own class, pool place, class, field, by the nest -/
def zFL : List (Nat × Nat × Nat × Nat × Bool) := [(2, 9, 2, 0, false), (0, 91, 2, 0, true), (1, 110, 2, 0, true), (2, 15, 2, 1, false), (1, 113, 2, 1, true), (0, 207, 2, 1, true), (2, 18, 2, 2, false), (1, 116, 2, 2, true), (0, 210, 2, 2, true), (2, 21, 2, 3, false), (0, 98, 2, 3, true), (1, 119, 2, 3, true), (2, 30, 2, 4, false), (0, 75, 2, 4, true), (1, 122, 2, 4, true), (2, 34, 2, 5, false), (3, 36, 2, 5, true), (1, 125, 2, 5, true), (0, 112, 2, 5, true), (2, 37, 2, 6, false), (1, 202, 2, 6, true), (0, 359, 2, 6, true), (2, 40, 2, 7, false), (1, 190, 2, 7, true), (0, 277, 2, 7, true), (2, 43, 2, 8, false), (1, 178, 2, 8, true), (0, 179, 2, 8, true), (0, 55, 2, 9, true), (2, 46, 2, 9, false), (2, 49, 2, 10, false), (3, 30, 2, 10, true), (0, 239, 2, 10, true), (3, 9, 3, 0, false), (0, 244, 3, 0, true), (3, 15, 3, 1, false), (0, 248, 3, 1, true), (3, 18, 3, 2, false), (0, 251, 3, 2, true), (3, 21, 3, 3, false), (0, 254, 3, 3, true), (5, 9, 5, 0, false), (5, 15, 5, 1, false), (5, 18, 5, 2, false), (5, 27, 5, 3, false), (7, 24, 5, 3, true), (4, 45, 5, 3, true), (9, 127, 5, 3, true), (4, 12, 4, 0, false), (9, 123, 4, 0, true), (4, 18, 4, 1, false), (4, 22, 4, 2, false), (4, 25, 4, 3, false), (4, 28, 4, 4, false), (4, 41, 4, 5, false), (0, 146, 4, 5, true), (9, 120, 4, 5, true), (6, 9, 6, 0, false), (0, 221, 6, 0, true), (9, 172, 6, 0, true), (6, 15, 6, 1, false), (1, 184, 6, 1, true), (0, 224, 6, 1, true), (9, 179, 6, 1, true), (6, 18, 6, 2, false), (1, 193, 6, 2, true), (0, 227, 6, 2, true), (9, 182, 6, 2, true), (6, 21, 6, 3, false), (0, 230, 6, 3, true), (9, 185, 6, 3, true), (6, 24, 6, 4, false), (0, 233, 6, 4, true), (9, 188, 6, 4, true), (6, 27, 6, 5, false), (0, 236, 6, 5, true), (9, 195, 6, 5, true), (6, 39, 6, 6, false), (0, 182, 6, 6, true), (1, 209, 6, 6, true), (9, 169, 6, 6, true), (6, 30, 6, 7, false), (6, 58, 6, 8, false), (0, 306, 6, 8, true), (6, 61, 6, 9, false), (0, 309, 6, 9, true), (7, 10, 7, 0, false), (9, 149, 7, 0, true), (7, 20, 7, 1, false), (0, 198, 7, 1, true), (9, 146, 7, 1, true), (8, 9, 8, 0, false), (8, 15, 8, 1, false), (8, 24, 8, 2, false), (0, 325, 8, 2, true), (1, 12, 1, 0, false), (0, 52, 1, 0, true), (1, 21, 1, 1, false), (0, 240, 1, 1, true), (1, 28, 1, 2, false), (0, 135, 1, 2, true), (1, 35, 1, 3, false), (0, 169, 1, 3, true), (1, 42, 1, 4, false), (0, 188, 1, 4, true), (1, 49, 1, 5, false), (0, 321, 1, 5, true), (1, 53, 1, 6, false), (0, 84, 1, 6, true), (1, 57, 1, 7, false), (0, 88, 1, 7, true), (1, 60, 1, 8, false), (0, 155, 1, 8, true), (1, 63, 1, 9, false), (1, 66, 1, 10, false), (1, 101, 1, 11, false), (0, 65, 1, 11, true), (1, 69, 1, 12, false), (0, 78, 1, 12, true), (1, 73, 1, 13, false), (0, 81, 1, 13, true), (1, 104, 1, 14, false), (0, 299, 1, 14, true), (1, 107, 1, 15, false), (0, 301, 1, 15, true), (9, 9, 9, 0, false), (9, 52, 9, 1, false), (0, 125, 9, 1, true), (9, 15, 9, 2, false), (9, 18, 9, 3, false), (9, 21, 9, 4, false), (9, 70, 9, 5, false), (9, 64, 9, 6, false), (9, 107, 9, 7, false), (9, 110, 9, 8, false), (9, 55, 9, 9, false), (9, 58, 9, 10, false), (0, 201, 9, 10, true), (9, 24, 9, 11, false), (0, 204, 9, 11, true), (9, 31, 9, 12, false), (0, 139, 9, 12, true), (9, 35, 9, 13, false), (0, 152, 9, 13, true), (9, 41, 9, 14, false), (0, 173, 9, 14, true), (9, 48, 9, 15, false), (0, 192, 9, 15, true), (0, 10, 0, 0, false), (0, 16, 0, 1, false), (0, 19, 0, 2, false), (0, 25, 0, 3, false), (0, 30, 0, 4, false), (0, 34, 0, 5, false), (0, 37, 0, 6, false), (0, 44, 0, 7, false), (0, 48, 0, 8, false), (10, 7, 10, 0, false), (10, 13, 10, 1, false), (10, 16, 10, 2, false), (10, 19, 10, 3, false), (10, 57, 10, 4, false), (10, 423, 10, 5, false), (10, 22, 10, 6, false), (10, 25, 10, 7, false), (10, 28, 10, 8, false), (10, 31, 10, 9, false), (10, 34, 10, 10, false), (10, 37, 10, 11, false), (10, 40, 10, 12, false), (10, 43, 10, 13, false), (10, 148, 10, 14, false), (10, 227, 10, 15, false), (10, 193, 10, 16, false), (10, 240, 10, 17, false), (10, 256, 10, 18, false), (10, 76, 10, 19, false), (10, 79, 10, 20, false), (10, 166, 10, 21, false), (10, 82, 10, 22, false), (10, 178, 10, 23, false), (10, 181, 10, 24, false), (10, 184, 10, 25, false), (10, 295, 10, 26, false), (10, 196, 10, 27, false), (10, 46, 10, 28, false), (10, 233, 10, 29, false), (10, 342, 10, 30, false), (10, 50, 10, 31, false)]
def zFP : List Nat := [39, 40, 41, 42, 43, 44, 45, 46, 47, 48, 49, 50, 51, 52, 53, 54, 55, 56, 57, 58, 59, 60, 61, 62, 63, 64, 65, 66, 67, 68, 69, 70, 71, 102, 103, 104, 105, 106, 107, 108, 109, 131, 132, 133, 134, 135, 136, 137, 147, 148, 149, 150, 151, 152, 153, 154, 155, 175, 176, 177, 178, 179, 180, 181, 182, 183, 184, 185, 186, 187, 188, 189, 190, 191, 192, 193, 194, 195, 196, 197, 198, 199, 200, 201, 202, 203, 233, 234, 235, 236, 237, 249, 250, 251, 252, 260, 261, 262, 263, 264, 265, 266, 267, 268, 269, 270, 271, 272, 273, 274, 275, 276, 277, 278, 279, 280, 281, 282, 283, 284, 285, 286, 287, 288, 289, 338, 339, 340, 341, 342, 343, 344, 345, 346, 347, 348, 349, 350, 351, 352, 353, 354, 355, 356, 357, 358, 359, 360, 394, 395, 396, 397, 398, 399, 400, 401, 402, 1026, 1027, 1028, 1029, 1030, 1031, 1032, 1033, 1034, 1035, 1036, 1037, 1038, 1039, 1040, 1041, 1042, 1043, 1044, 1045, 1046, 1047, 1048, 1049, 1050, 1051, 1052, 1053, 1054, 1055, 1056, 1057]
def zFw (q : Nat × Nat × Nat × Nat × Bool) : Cond := if q.2.2.2.2 then .fieldLinkNest (zcn q.1) q.2.1 (zcn q.2.2.1) (zT q.2.2.1 q.2.2.2.1).2.1 (zT q.2.2.1 q.2.2.2.1).2.2.1 "SpareDay" else .fieldLink (zcn q.1) q.2.1 (zcn q.2.2.1) (zT q.2.2.1 q.2.2.2.1).2.1 (zT q.2.2.1 q.2.2.2.1).2.2.1
def zfld (own ix : Nat) : Option (Nat × Nat) := (zFL.find? fun q => q.1 == own && q.2.1 == ix).map fun q => (q.2.2.1, q.2.2.2.1)
def zat (i : Nat) : ByteArray := match tables_1[i]? with
  | some (.code _ b _ _) => b
  | _ => ⟨#[]⟩
abbrev ZM : Type := MethodName × ByteArray × Nat × Option FieldType × Nat × Nat × Nat
/-- name, code, locals, answer, kind (0 static, 1 of an object, 2 constructor), parameters, own class -/
def zMT0 : List ZM := [
  (⟨zcn 0, "<init>", "()V"⟩, zat 23, 2, none, 2, 0, 0),
  (⟨zcn 1, "<init>", "()V"⟩, zat 31, 1, none, 2, 0, 1),
  (⟨zcn 2, "<init>", "()V"⟩, zat 37, 1, none, 2, 0, 2),
  (⟨zcn 3, "<init>", "()V"⟩, zat 100, 1, none, 2, 0, 3),
  (⟨zcn 4, "<init>", "()V"⟩, zat 123, 1, none, 2, 0, 4),
  (⟨zcn 5, "<init>", "()V"⟩, zat 129, 1, none, 2, 0, 5),
  (⟨zcn 6, "<init>", "()V"⟩, zat 173, 1, none, 2, 0, 6),
  (⟨zcn 7, "<init>", "()V"⟩, zat 229, 1, none, 2, 0, 7),
  (⟨zcn 8, "<init>", "()V"⟩, zat 247, 1, none, 2, 0, 8),
  (⟨zcn 9, "<init>", "()V"⟩, zat 330, 1, none, 2, 0, 9),
  (⟨zcn 0, "state", "(I)I"⟩, zat 426, 3, some .int, 1, 1, 0),
  (⟨zcn 0, "forgetPasts", "()V"⟩, zat 430, 1, none, 1, 0, 0),
  (⟨zcn 0, "person", "(II)I"⟩, zat 434, 3, some .int, 1, 2, 0),
  (⟨zcn 0, "within", "(III)Z"⟩, zat 437, 3, some .boolean, 0, 3, 0),
  (⟨zcn 1, "welcome", "(II)I"⟩, zat 441, 4, some .int, 1, 2, 1),
  (⟨zcn 0, "set", "(III)Z"⟩, zat 445, 4, some .boolean, 1, 3, 0),
  (⟨zcn 0, "canBeSet", "(III)Z"⟩, zat 449, 4, some .boolean, 1, 3, 0),
  (⟨zcn 1, "has", "(I)Z"⟩, zat 453, 2, some .boolean, 1, 1, 1),
  (⟨zcn 0, "tie", "(IIZ)Z"⟩, zat 457, 4, some .boolean, 1, 3, 0),
  (⟨zcn 0, "isIn", "(II)Z"⟩, zat 460, 2, some .boolean, 0, 2, 0),
  (⟨zcn 0, "keepPast", "()V"⟩, zat 464, 2, none, 1, 0, 0),
  (⟨zcn 2, "copy", "(LSpareDay$Moment;)V"⟩, zat 468, 2, none, 1, 1, 2),
  (⟨zcn 0, "sit", "(I)I"⟩, zat 475, 2, some .int, 1, 1, 0),
  (⟨zcn 2, "wearBy", "(I)V"⟩, zat 479, 2, none, 1, 1, 2),
  (⟨zcn 0, "years", "(I)I"⟩, zat 486, 4, some .int, 1, 1, 0),
  (⟨zcn 1, "pass", "(LSpareDay$Moment;Z)I"⟩, zat 490, 4, some .int, 1, 2, 1),
  (⟨zcn 1, "weigh", "(LSpareDay$Moment;)V"⟩, zat 497, 3, none, 1, 1, 1),
  (⟨zcn 1, "asks", "(LSpareDay$Moment;III)I"⟩, zat 501, 5, some .int, 1, 4, 1),
  (⟨zcn 12, "bitCount", "(I)I"⟩, zat 504, 1, some .int, 0, 1, 12),
  (⟨zcn 4, "tells", "(I[I)I"⟩, zat 511, 5, some .int, 1, 2, 4),
  (⟨zcn 5, "run", "(II[II)I"⟩, zat 515, 8, some .int, 1, 4, 5),
  (⟨zcn 5, "isValue", "(I)Z"⟩, zat 519, 1, some .boolean, 0, 1, 5),
  (⟨zcn 5, "value", "(II[II)I"⟩, zat 522, 4, some .int, 0, 4, 5),
  (⟨zcn 5, "changed", "(III)I"⟩, zat 526, 3, some .int, 0, 3, 5),
  (⟨zcn 5, "joined", "(III)I"⟩, zat 529, 3, some .int, 0, 3, 5),
  (⟨zcn 0, "held", "(III)I"⟩, zat 532, 3, some .int, 0, 3, 0),
  (⟨zcn 1, "elect", "(II)I"⟩, zat 538, 9, some .int, 1, 2, 1),
  (⟨zcn 7, "isMetBy", "(I)Z"⟩, zat 542, 2, some .boolean, 1, 1, 7),
  (⟨zcn 1, "giveTo", "(LSpareDay$Moment;IZ)V"⟩, zat 547, 9, none, 1, 3, 1),
  (⟨zcn 2, "hoursLeft", "()I"⟩, zat 551, 1, some .int, 1, 0, 2),
  (⟨zcn 6, "bestSet", "(III)I"⟩, zat 555, 12, some .int, 1, 3, 6),
  (⟨zcn 6, "ownedBy", "(II)I"⟩, zat 559, 5, some .int, 1, 2, 6),
  (⟨zcn 6, "sum", "(I[I)I"⟩, zat 563, 5, some .int, 1, 2, 6),
  (⟨zcn 6, "isWhole", "(II)Z"⟩, zat 568, 4, some .boolean, 1, 2, 6),
  (⟨zcn 2, "draw", "(I)I"⟩, zat 574, 2, some .int, 1, 1, 2),
  (⟨zcn 1, "enter", "(LSpareDay$Moment;IIZ)V"⟩, zat 580, 6, none, 1, 4, 1),
  (⟨zcn 3, "write", "(LSpareDay$Moment;III)V"⟩, zat 584, 6, none, 1, 4, 3),
  (⟨zcn 2, "growOlder", "(II)V"⟩, zat 589, 4, none, 1, 2, 2),
  (⟨zcn 0, "feed", "(IIIII)I"⟩, zat 593, 6, some .int, 1, 5, 0),
  (⟨zcn 9, "hasRoom", "(I)Z"⟩, zat 597, 2, some .boolean, 1, 1, 9),
  (⟨zcn 9, "append", "(I)V"⟩, zat 601, 3, none, 1, 1, 9),
  (⟨zcn 0, "end", "(I)Z"⟩, zat 605, 2, some .boolean, 1, 1, 0),
  (⟨zcn 0, "text", "(I)I"⟩, zat 609, 2, some .int, 1, 1, 0),
  (⟨zcn 9, "begin", "(I)V"⟩, zat 613, 2, none, 1, 1, 9),
  (⟨zcn 9, "findTokens", "()V"⟩, zat 617, 4, none, 1, 0, 9),
  (⟨zcn 9, "isLetter", "(I)Z"⟩, zat 620, 1, some .boolean, 0, 1, 9),
  (⟨zcn 9, "wordKind", "(II)I"⟩, zat 624, 8, some .int, 1, 2, 9),
  (⟨zcn 13, "length", "()I"⟩, zat 629, 1, some .int, 1, 0, 13),
  (⟨zcn 13, "coder", "()B"⟩, zat 633, 1, some .byte, 1, 0, 13),
  (⟨zcn 13, "charAt", "(I)C"⟩, zat 639, 2, some .char, 1, 1, 13)]
def zMT1 : List ZM := [
  (⟨zcn 13, "isLatin1", "()Z"⟩, zat 643, 1, some .boolean, 1, 0, 13),
  (⟨zcn 14, "charAt", "([BI)C"⟩, zat 646, 2, some .char, 0, 2, 14),
  (⟨zcn 13, "checkIndex", "(II)V"⟩, zat 649, 2, none, 0, 2, 13),
  (⟨zcn 15, "checkIndex", "(IILjava/util/function/BiFunction;)I"⟩, zat 654, 3, some .int, 0, 3, 15),
  (⟨zcn 9, "addToken", "(III)V"⟩, zat 677, 4, none, 1, 3, 9),
  (⟨zcn 9, "isDigit", "(I)Z"⟩, zat 680, 1, some .boolean, 0, 1, 9),
  (⟨zcn 9, "numberAt", "(II)I"⟩, zat 684, 5, some .int, 1, 2, 9),
  (⟨zcn 9, "signKind", "(I)I"⟩, zat 687, 1, some .int, 0, 1, 9),
  (⟨zcn 9, "forward", "()V"⟩, zat 691, 1, none, 1, 0, 9),
  (⟨zcn 9, "readLaw", "()Z"⟩, zat 695, 5, some .boolean, 1, 0, 9),
  (⟨zcn 9, "refuse", "(I)Z"⟩, zat 699, 2, some .boolean, 1, 1, 9),
  (⟨zcn 9, "readSum", "(LSpareDay$Code;)Z"⟩, zat 703, 4, some .boolean, 1, 1, 9),
  (⟨zcn 9, "readTerm", "(LSpareDay$Code;)Z"⟩, zat 707, 4, some .boolean, 1, 1, 9),
  (⟨zcn 9, "readUnit", "(LSpareDay$Code;)Z"⟩, zat 711, 2, some .boolean, 1, 1, 9),
  (⟨zcn 5, "add", "(II)V"⟩, zat 715, 3, none, 1, 2, 5),
  (⟨zcn 9, "isNumber", "(II)Z"⟩, zat 719, 3, some .boolean, 1, 2, 9),
  (⟨zcn 9, "readAny", "(LSpareDay$Code;ZI)Z"⟩, zat 724, 7, some .boolean, 1, 3, 9),
  (⟨zcn 9, "readOne", "(LSpareDay$Code;ZI)Z"⟩, zat 728, 5, some .boolean, 1, 3, 9),
  (⟨zcn 9, "skip", "(I)Z"⟩, zat 732, 2, some .boolean, 1, 1, 9),
  (⟨zcn 9, "readPart", "(LSpareDay$Code;)Z"⟩, zat 736, 3, some .boolean, 1, 1, 9),
  (⟨zcn 4, "add", "(III)V"⟩, zat 740, 4, none, 1, 3, 4),
  (⟨zcn 4, "copy", "(LSpareDay$Law;)V"⟩, zat 744, 2, none, 1, 1, 4),
  (⟨zcn 5, "copy", "(LSpareDay$Code;)V"⟩, zat 748, 2, none, 1, 1, 5),
  (⟨zcn 9, "readVoices", "()Z"⟩, zat 754, 3, some .boolean, 1, 0, 9),
  (⟨zcn 1, "voices", "()I"⟩, zat 759, 3, some .int, 1, 0, 1),
  (⟨zcn 9, "readWorks", "()Z"⟩, zat 763, 3, some .boolean, 1, 0, 9),
  (⟨zcn 9, "readEntry", "(I[III)Z"⟩, zat 767, 5, some .boolean, 1, 4, 9),
  (⟨zcn 9, "readAfter", "()Z"⟩, zat 771, 2, some .boolean, 1, 0, 9),
  (⟨zcn 6, "copy", "(LSpareDay$Works;)V"⟩, zat 775, 2, none, 1, 1, 6),
  (⟨zcn 9, "readCouncil", "()Z"⟩, zat 780, 1, some .boolean, 1, 0, 9),
  (⟨zcn 7, "copy", "(LSpareDay$Council;)V"⟩, zat 784, 2, none, 1, 1, 7),
  (⟨zcn 0, "fault", "(I)I"⟩, zat 790, 2, some .int, 1, 1, 0),
  (⟨zcn 0, "of", "(II)I"⟩, zat 794, 3, some .int, 1, 2, 0),
  (⟨zcn 0, "weightsNaming", "(I)I"⟩, zat 799, 4, some .int, 1, 1, 0),
  (⟨zcn 0, "after", "(IIZ)I"⟩, zat 803, 4, some .int, 1, 3, 0),
  (⟨zcn 0, "work", "(II)I"⟩, zat 807, 4, some .int, 1, 2, 0),
  (⟨zcn 0, "book", "(II)I"⟩, zat 811, 3, some .int, 1, 2, 0),
  (⟨zcn 0, "does", "(I)Z"⟩, zat 815, 2, some .boolean, 1, 1, 0),
  (⟨zcn 1, "everyone", "()I"⟩, zat 819, 1, some .int, 1, 0, 1),
  (⟨zcn 0, "plan", "(III)I"⟩, zat 824, 6, some .int, 1, 3, 0),
  (⟨zcn 0, "given", "(II)I"⟩, zat 830, 6, some .int, 1, 2, 0),
  (⟨zcn 0, "can", "(I)I"⟩, zat 834, 5, some .int, 1, 1, 0),
  (⟨zcn 0, "fewest", "(II)I"⟩, zat 840, 6, some .int, 1, 2, 0),
  (⟨zcn 0, "fillDoing", "()V"⟩, zat 844, 3, none, 1, 0, 0),
  (⟨zcn 0, "hinge", "(I)I"⟩, zat 849, 5, some .int, 1, 1, 0),
  (⟨zcn 0, "turnsOf", "(II)I"⟩, zat 853, 6, some .int, 1, 2, 0),
  (⟨zcn 0, "mostTurns", "(III)I"⟩, zat 857, 8, some .int, 1, 3, 0),
  (⟨zcn 0, "firstInTurn", "(III)I"⟩, zat 861, 6, some .int, 1, 3, 0),
  (⟨zcn 0, "traces", "(II)Z"⟩, zat 865, 3, some .boolean, 1, 2, 0),
  (⟨zcn 0, "fits", "(II)I"⟩, zat 869, 3, some .int, 1, 2, 0),
  (⟨zcn 1, "countFits", "(I)V"⟩, zat 873, 2, none, 1, 1, 1),
  (⟨zcn 6, "countFits", "(IIII)V"⟩, zat 877, 8, none, 1, 4, 6),
  (⟨zcn 6, "countFit", "(I)V"⟩, zat 881, 3, none, 1, 1, 6),
  (⟨zcn 0, "lookAt", "(I)I"⟩, zat 885, 2, some .int, 1, 1, 0),
  (⟨zcn 6, "mostTelling", "(I)I"⟩, zat 889, 6, some .int, 1, 1, 6),
  (⟨zcn 0, "share", "(III)I"⟩, zat 894, 8, some .int, 1, 3, 0),
  (⟨zcn 0, "bid", "(II)I"⟩, zat 899, 4, some .int, 1, 2, 0),
  (⟨zcn 8, "add", "(II)V"⟩, zat 903, 3, none, 1, 2, 8),
  (⟨zcn 0, "sold", "(I)I"⟩, zat 907, 3, some .int, 1, 1, 0),
  (⟨zcn 8, "winner", "()I"⟩, zat 911, 1, some .int, 1, 0, 8)]
def zMT2 : List ZM := [
  (⟨zcn 8, "greatest", "()I"⟩, zat 915, 3, some .int, 1, 0, 8),
  (⟨zcn 8, "price", "()I"⟩, zat 919, 4, some .int, 1, 0, 8),
  (⟨zcn 0, "rests", "(I)I"⟩, zat 924, 3, some .int, 1, 1, 0),
  (⟨zcn 0, "weekday", "(IIII)I"⟩, zat 928, 6, some .int, 1, 4, 0),
  (⟨zcn 0, "next", "()I"⟩, zat 932, 3, some .int, 1, 0, 0),
  (⟨zcn 0, "comesBefore", "(II)Z"⟩, zat 936, 3, some .boolean, 1, 2, 0),
  (⟨zcn 0, "due", "(I)I"⟩, zat 940, 6, some .int, 1, 1, 0),
  (⟨zcn 0, "doers", "(I)I"⟩, zat 944, 7, some .int, 1, 1, 0),
  (⟨zcn 0, "needsEachOne", "(I)Z"⟩, zat 948, 3, some .boolean, 1, 1, 0),
  (⟨zcn 0, "thieves", "()I"⟩, zat 952, 3, some .int, 1, 0, 0),
  (⟨zcn 0, "soonest", "(I)I"⟩, zat 956, 3, some .int, 1, 1, 0),
  (⟨zcn 0, "spread", "(I)I"⟩, zat 960, 2, some .int, 1, 1, 0),
  (⟨zcn 0, "spreadOfHad", "()I"⟩, zat 964, 5, some .int, 1, 0, 0),
  (⟨zcn 0, "latestGiven", "()I"⟩, zat 968, 3, some .int, 1, 0, 0),
  (⟨zcn 0, "way", "(II)I"⟩, zat 972, 5, some .int, 1, 2, 0),
  (⟨zcn 0, "tiedTo", "(I)I"⟩, zat 976, 4, some .int, 1, 1, 0),
  (⟨zcn 0, "clique", "(I)I"⟩, zat 980, 5, some .int, 1, 1, 0),
  (⟨zcn 0, "isClique", "(I)Z"⟩, zat 984, 3, some .boolean, 1, 1, 0),
  (⟨zcn 0, "undo", "()Z"⟩, zat 988, 1, some .boolean, 1, 0, 0),
  (⟨zcn 0, "image", "(Z)Z"⟩, zat 992, 2, some .boolean, 1, 1, 0),
  (⟨zcn 1, "copy", "(LSpareDay$Realm;)V"⟩, zat 996, 2, none, 1, 1, 1),
  (⟨zcn 3, "copy", "(LSpareDay$Book;)V"⟩, zat 1001, 2, none, 1, 1, 3),
  (⟨zcn 8, "copy", "(LSpareDay$Bids;)V"⟩, zat 1009, 2, none, 1, 1, 8),
  (⟨zcn 0, "look", "(I)I"⟩, zat 1015, 2, some .int, 1, 1, 0),
  (⟨zcn 0, "lookFurther", "(I)I"⟩, zat 1019, 2, some .int, 1, 1, 0),
  (⟨zcn 10, "<init>", "()V"⟩, zat 1024, 1, none, 2, 0, 10),
  (⟨zcn 10, "state", "(I)I"⟩, zat 1126, 3, some .int, 1, 1, 10),
  (⟨zcn 10, "forgets", "()V"⟩, zat 1130, 1, none, 1, 0, 10),
  (⟨zcn 10, "person", "(II)I"⟩, zat 1134, 4, some .int, 1, 2, 10),
  (⟨zcn 10, "isIn", "(III)Z"⟩, zat 1137, 3, some .boolean, 0, 3, 10),
  (⟨zcn 10, "set", "(III)Z"⟩, zat 1141, 4, some .boolean, 1, 3, 10),
  (⟨zcn 10, "canSet", "(III)Z"⟩, zat 1145, 4, some .boolean, 1, 3, 10),
  (⟨zcn 10, "isPerson", "(I)Z"⟩, zat 1149, 2, some .boolean, 1, 1, 10),
  (⟨zcn 10, "placeOf", "(II)I"⟩, zat 1152, 2, some .int, 0, 2, 10),
  (⟨zcn 10, "feed", "(IIIII)I"⟩, zat 1156, 8, some .int, 1, 5, 10),
  (⟨zcn 10, "end", "(I)Z"⟩, zat 1160, 2, some .boolean, 1, 1, 10),
  (⟨zcn 10, "text", "(I)I"⟩, zat 1164, 3, some .int, 1, 1, 10),
  (⟨zcn 10, "next0", "()V"⟩, zat 1168, 3, none, 1, 0, 10),
  (⟨zcn 10, "see", "(I)I"⟩, zat 1172, 2, some .int, 1, 1, 10),
  (⟨zcn 10, "isLetter", "(I)Z"⟩, zat 1175, 1, some .boolean, 0, 1, 10),
  (⟨zcn 10, "word", "()I"⟩, zat 1179, 1, some .int, 1, 0, 10),
  (⟨zcn 10, "lawWord", "()I"⟩, zat 1183, 1, some .int, 1, 0, 10),
  (⟨zcn 10, "is", "(Ljava/lang/String;)Z"⟩, zat 1188, 4, some .boolean, 1, 1, 10),
  (⟨zcn 10, "asked", "()I"⟩, zat 1200, 1, some .int, 1, 0, 10),
  (⟨zcn 10, "workWord", "()I"⟩, zat 1214, 1, some .int, 1, 0, 10),
  (⟨zcn 10, "councilWord", "()I"⟩, zat 1224, 1, some .int, 1, 0, 10),
  (⟨zcn 10, "isDigit", "(I)Z"⟩, zat 1228, 1, some .boolean, 0, 1, 10),
  (⟨zcn 10, "reads", "(I)Z"⟩, zat 1232, 2, some .boolean, 1, 1, 10),
  (⟨zcn 10, "readsLaw", "()Z"⟩, zat 1236, 2, some .boolean, 1, 0, 10),
  (⟨zcn 10, "aLine", "()Z"⟩, zat 1240, 1, some .boolean, 1, 0, 10),
  (⟨zcn 10, "bad", "(I)Z"⟩, zat 1244, 2, some .boolean, 1, 1, 10),
  (⟨zcn 10, "sumUp", "()Z"⟩, zat 1248, 2, some .boolean, 1, 0, 10),
  (⟨zcn 10, "product", "()Z"⟩, zat 1252, 3, some .boolean, 1, 0, 10),
  (⟨zcn 10, "unit", "()Z"⟩, zat 1256, 2, some .boolean, 1, 0, 10),
  (⟨zcn 10, "lay", "(II)V"⟩, zat 1260, 3, none, 1, 2, 10),
  (⟨zcn 10, "any", "()Z"⟩, zat 1264, 1, some .boolean, 1, 0, 10),
  (⟨zcn 10, "every", "()Z"⟩, zat 1268, 1, some .boolean, 1, 0, 10),
  (⟨zcn 10, "oneTest", "()Z"⟩, zat 1272, 2, some .boolean, 1, 0, 10),
  (⟨zcn 10, "opens", "()Z"⟩, zat 1276, 1, some .boolean, 1, 0, 10),
  (⟨zcn 10, "need", "(I)Z"⟩, zat 1280, 2, some .boolean, 1, 1, 10)]
def zMT3 : List ZM := [
  (⟨zcn 10, "readsVoices", "()Z"⟩, zat 1284, 2, some .boolean, 1, 0, 10),
  (⟨zcn 10, "aVoice", "()Z"⟩, zat 1288, 2, some .boolean, 1, 0, 10),
  (⟨zcn 10, "number", "(II)Z"⟩, zat 1292, 3, some .boolean, 1, 2, 10),
  (⟨zcn 10, "readsWorks", "()Z"⟩, zat 1296, 2, some .boolean, 1, 0, 10),
  (⟨zcn 10, "aWork", "()Z"⟩, zat 1300, 1, some .boolean, 1, 0, 10),
  (⟨zcn 10, "told", "(IIII)Z"⟩, zat 1304, 5, some .boolean, 1, 4, 10),
  (⟨zcn 10, "anAfter", "()Z"⟩, zat 1308, 1, some .boolean, 1, 0, 10),
  (⟨zcn 10, "readsCouncil", "()Z"⟩, zat 1312, 1, some .boolean, 1, 0, 10),
  (⟨zcn 10, "aRule", "()Z"⟩, zat 1316, 1, some .boolean, 1, 0, 10),
  (⟨zcn 10, "anyOf", "()Z"⟩, zat 1320, 1, some .boolean, 1, 0, 10),
  (⟨zcn 10, "oneOf", "()Z"⟩, zat 1324, 2, some .boolean, 1, 0, 10),
  (⟨zcn 10, "rules", "(I)V"⟩, zat 1328, 2, none, 1, 1, 10),
  (⟨zcn 10, "putsText", "(I)I"⟩, zat 1332, 2, some .int, 1, 1, 10),
  (⟨zcn 10, "putsLaw", "()I"⟩, zat 1336, 2, some .int, 1, 0, 10),
  (⟨zcn 10, "putsVoices", "()I"⟩, zat 1340, 2, some .int, 1, 0, 10),
  (⟨zcn 10, "putsWorks", "()I"⟩, zat 1344, 2, some .int, 1, 0, 10),
  (⟨zcn 10, "putsCouncil", "()I"⟩, zat 1348, 2, some .int, 1, 0, 10),
  (⟨zcn 10, "fault", "(I)I"⟩, zat 1352, 2, some .int, 1, 1, 10),
  (⟨zcn 10, "undo", "()Z"⟩, zat 1356, 2, some .boolean, 1, 0, 10),
  (⟨zcn 10, "tie", "(IIZ)Z"⟩, zat 1360, 4, some .boolean, 1, 3, 10),
  (⟨zcn 10, "keeps", "()V"⟩, zat 1364, 2, none, 1, 0, 10),
  (⟨zcn 10, "sit", "(I)I"⟩, zat 1368, 2, some .int, 1, 1, 10),
  (⟨zcn 10, "lesser", "(II)I"⟩, zat 1371, 2, some .int, 0, 2, 10),
  (⟨zcn 10, "years", "(I)I"⟩, zat 1375, 4, some .int, 1, 1, 10),
  (⟨zcn 10, "aYear", "()I"⟩, zat 1379, 4, some .int, 1, 0, 10),
  (⟨zcn 10, "givenNow", "()I"⟩, zat 1383, 3, some .int, 1, 0, 10),
  (⟨zcn 10, "sumFor", "(I)I"⟩, zat 1387, 4, some .int, 1, 1, 10),
  (⟨zcn 10, "weightOf", "(I)I"⟩, zat 1391, 2, some .int, 1, 1, 10),
  (⟨zcn 10, "says", "(IIIII)I"⟩, zat 1395, 7, some .int, 1, 5, 10),
  (⟨zcn 10, "count", "(I)I"⟩, zat 1398, 3, some .int, 0, 1, 10),
  (⟨zcn 10, "isSo", "(I)Z"⟩, zat 1402, 2, some .boolean, 1, 1, 10),
  (⟨zcn 10, "comesTo", "(III)I"⟩, zat 1406, 8, some .int, 1, 3, 10),
  (⟨zcn 10, "both", "(III)I"⟩, zat 1409, 3, some .int, 0, 3, 10),
  (⟨zcn 10, "greater", "(II)I"⟩, zat 1412, 2, some .int, 0, 2, 10),
  (⟨zcn 10, "voicesFor", "(I)I"⟩, zat 1416, 4, some .int, 1, 1, 10),
  (⟨zcn 10, "satisfies", "(I)Z"⟩, zat 1420, 5, some .boolean, 1, 1, 10),
  (⟨zcn 10, "isBefore", "(II)Z"⟩, zat 1424, 4, some .boolean, 1, 2, 10),
  (⟨zcn 10, "notes", "(III)V"⟩, zat 1428, 5, none, 1, 3, 10),
  (⟨zcn 10, "gets", "(I)V"⟩, zat 1432, 7, none, 1, 1, 10),
  (⟨zcn 10, "hoursNow", "()I"⟩, zat 1436, 1, some .int, 1, 0, 10),
  (⟨zcn 10, "planOf", "(II)I"⟩, zat 1440, 6, some .int, 1, 2, 10),
  (⟨zcn 10, "sumOf", "(II)I"⟩, zat 1444, 5, some .int, 1, 2, 10),
  (⟨zcn 10, "ofWork", "(II)I"⟩, zat 1448, 3, some .int, 1, 2, 10),
  (⟨zcn 10, "goTogether", "(II)Z"⟩, zat 1452, 5, some .boolean, 1, 2, 10),
  (⟨zcn 10, "isDone", "(I)Z"⟩, zat 1456, 2, some .boolean, 1, 1, 10),
  (⟨zcn 10, "wearOf", "(II)I"⟩, zat 1460, 3, some .int, 1, 2, 10),
  (⟨zcn 10, "noticeOf", "(II)I"⟩, zat 1464, 3, some .int, 1, 2, 10),
  (⟨zcn 10, "draw", "(I)I"⟩, zat 1468, 2, some .int, 1, 1, 10),
  (⟨zcn 10, "plan", "(III)I"⟩, zat 1474, 5, some .int, 1, 3, 10),
  (⟨zcn 10, "of", "(II)I"⟩, zat 1478, 3, some .int, 1, 2, 10),
  (⟨zcn 10, "after", "(IIZ)I"⟩, zat 1482, 4, some .int, 1, 3, 10),
  (⟨zcn 10, "work", "(II)I"⟩, zat 1486, 3, some .int, 1, 2, 10),
  (⟨zcn 10, "book", "(II)I"⟩, zat 1490, 3, some .int, 1, 2, 10),
  (⟨zcn 10, "does", "(I)Z"⟩, zat 1494, 2, some .boolean, 1, 1, 10),
  (⟨zcn 10, "all", "()I"⟩, zat 1498, 1, some .int, 1, 0, 10),
  (⟨zcn 10, "given", "(II)I"⟩, zat 1502, 7, some .int, 1, 2, 10),
  (⟨zcn 10, "soonest", "(I)I"⟩, zat 1506, 4, some .int, 1, 1, 10),
  (⟨zcn 10, "next", "()I"⟩, zat 1510, 3, some .int, 1, 0, 10),
  (⟨zcn 10, "isNeedier", "(II)Z"⟩, zat 1514, 4, some .boolean, 1, 2, 10),
  (⟨zcn 10, "due", "(I)I"⟩, zat 1518, 5, some .int, 1, 1, 10)]
def zMT4 : List ZM := [
  (⟨zcn 10, "spread", "(I)I"⟩, zat 1523, 6, some .int, 1, 1, 10),
  (⟨zcn 10, "can", "(I)I"⟩, zat 1527, 6, some .int, 1, 1, 10),
  (⟨zcn 10, "fewest", "(II)I"⟩, zat 1531, 5, some .int, 1, 2, 10),
  (⟨zcn 10, "doers", "(I)I"⟩, zat 1535, 6, some .int, 1, 1, 10),
  (⟨zcn 10, "needsAll", "(I)Z"⟩, zat 1539, 3, some .boolean, 1, 1, 10),
  (⟨zcn 10, "hinge", "(I)I"⟩, zat 1543, 4, some .int, 1, 1, 10),
  (⟨zcn 10, "turnsOf", "(II)I"⟩, zat 1547, 6, some .int, 1, 2, 10),
  (⟨zcn 10, "laysTurns", "(I)V"⟩, zat 1551, 6, none, 1, 1, 10),
  (⟨zcn 10, "isInTime", "(II)Z"⟩, zat 1555, 3, some .boolean, 1, 2, 10),
  (⟨zcn 10, "takerIn", "(II)I"⟩, zat 1559, 4, some .int, 1, 2, 10),
  (⟨zcn 10, "traces", "(II)Z"⟩, zat 1563, 3, some .boolean, 1, 2, 10),
  (⟨zcn 10, "fits", "(II)I"⟩, zat 1567, 4, some .int, 1, 2, 10),
  (⟨zcn 10, "fitsWith", "(II)I"⟩, zat 1571, 5, some .int, 1, 2, 10),
  (⟨zcn 10, "fitsTraces", "(II)Z"⟩, zat 1575, 3, some .boolean, 1, 2, 10),
  (⟨zcn 10, "thieves", "()I"⟩, zat 1579, 3, some .int, 1, 0, 10),
  (⟨zcn 10, "lookAt", "(I)I"⟩, zat 1584, 7, some .int, 1, 1, 10),
  (⟨zcn 10, "share", "(III)I"⟩, zat 1588, 8, some .int, 1, 3, 10),
  (⟨zcn 10, "ownOf", "(III)I"⟩, zat 1591, 3, some .int, 0, 3, 10),
  (⟨zcn 10, "bid", "(II)I"⟩, zat 1595, 3, some .int, 1, 2, 10),
  (⟨zcn 10, "sold", "(I)I"⟩, zat 1599, 5, some .int, 1, 1, 10),
  (⟨zcn 10, "rests", "(I)I"⟩, zat 1603, 2, some .int, 1, 1, 10),
  (⟨zcn 10, "weekday", "(IIII)I"⟩, zat 1607, 5, some .int, 1, 4, 10),
  (⟨zcn 10, "way", "(II)I"⟩, zat 1611, 7, some .int, 1, 2, 10),
  (⟨zcn 10, "clique", "(I)I"⟩, zat 1615, 4, some .int, 1, 1, 10),
  (⟨zcn 10, "isClique", "(I)Z"⟩, zat 1619, 3, some .boolean, 1, 1, 10),
  (⟨zcn 10, "image", "(Z)Z"⟩, zat 1623, 3, some .boolean, 1, 1, 10),
  (⟨zcn 10, "look", "(I)I"⟩, zat 1627, 2, some .int, 1, 1, 10)]
def zMTl : List ZM := [(⟨zcn 11, "law", "([I)Z"⟩, code, 4, some .boolean, 0, 1, 11)]
def zMT : List ZM := zMT0 ++ (zMT1 ++ (zMT2 ++ (zMT3 ++ (zMT4 ++ zMTl))))
def zM0 : ZM := (⟨"", "", ""⟩, ⟨#[]⟩, 0, none, 9, 0, 0)
def zM (y : Nat) : ZM := zMT.getD y zM0
def zname (y : Nat) : MethodName := (zM y).1
def zcode (y : Nat) : ByteArray := (zM y).2.1
def zml (y : Nat) : Nat := (zM y).2.2.1
def zret (y : Nat) : Option FieldType := (zM y).2.2.2.1
def zkind (y : Nat) : Nat := (zM y).2.2.2.2.1
def znar (y : Nat) : Nat := (zM y).2.2.2.2.2.1
def zown (y : Nat) : Nat := (zM y).2.2.2.2.2.2
/-- own class, pool place, callee (1000: arraycopy), by the nest -/
def zML : List (Nat × Nat × Nat × Bool) := [(11, 9, 0, false), (0, 1, 1003, false), (0, 9, 1, true), (1, 3, 1003, false), (1, 11, 2, true), (2, 3, 1003, false), (1, 20, 3, true), (3, 3, 1003, false), (1, 27, 4, true), (4, 3, 1003, false), (4, 11, 5, true), (5, 3, 1003, false), (1, 34, 6, true), (6, 3, 1003, false), (1, 41, 7, true), (7, 1, 1003, false), (7, 9, 5, true), (1, 48, 8, true), (8, 3, 1003, false), (0, 29, 2, true), (0, 43, 9, true), (9, 3, 1003, false), (9, 30, 4, true), (9, 40, 6, true), (9, 47, 7, true), (11, 13, 10, false), (0, 58, 11, false), (11, 18, 12, false), (0, 61, 13, false), (0, 68, 14, true), (11, 23, 15, false), (0, 72, 16, false), (0, 94, 17, true), (11, 28, 18, false), (0, 101, 19, false), (0, 105, 20, false), (0, 269, 21, true), (2, 24, 1000, false), (11, 33, 22, false), (0, 108, 23, true), (2, 52, 1002, false), (11, 37, 24, false), (0, 115, 25, true), (1, 150, 1001, false), (1, 156, 26, false), (1, 142, 27, false), (1, 128, 28, false), (1, 134, 29, true), (4, 48, 30, true), (5, 31, 1001, false), (5, 37, 31, false), (5, 41, 32, false), (5, 52, 28, false), (5, 45, 33, false), (5, 49, 34, false), (1, 138, 35, true), (0, 318, 1002, false), (0, 272, 1001, false), (1, 159, 36, false), (1, 146, 37, true), (7, 27, 30, true), (1, 162, 38, false), (1, 174, 39, true), (1, 181, 40, true), (6, 47, 41, false), (6, 51, 42, false), (6, 43, 19, true), (6, 55, 43, false), (1, 187, 42, true), (1, 195, 23, true), (1, 199, 44, true), (1, 205, 45, false), (1, 166, 46, true), (1, 212, 19, true), (1, 170, 47, true), (11, 41, 48, false), (0, 119, 49, true), (0, 122, 50, true), (11, 46, 51, false), (11, 51, 52, false), (0, 128, 53, true), (9, 61, 54, false), (9, 73, 55, false), (9, 77, 56, false), (9, 97, 57, false), (13, 335, 58, false), (9, 103, 59, false), (13, 492, 60, false), (13, 495, 61, false), (14, 9, 62, false), (13, 1059, 63, false), (9, 81, 64, false), (9, 85, 65, false), (9, 88, 66, false), (9, 91, 67, false), (9, 67, 68, false), (0, 131, 69, true), (9, 113, 70, false), (9, 132, 71, false), (9, 163, 72, false), (9, 166, 73, false), (9, 153, 74, true), (9, 159, 75, false), (9, 116, 13, true), (9, 136, 76, false), (9, 150, 77, false), (9, 140, 78, false), (9, 156, 79, false), (9, 143, 80, true), (0, 140, 81, true), (4, 31, 82, true), (5, 21, 1000, false), (4, 35, 1000, false), (0, 149, 83, true), (0, 156, 1000, false), (0, 162, 84, true), (0, 166, 85, true), (9, 175, 86, false), (9, 191, 87, false), (0, 174, 88, true), (6, 33, 1000, false), (0, 185, 89, true), (0, 193, 90, true), (7, 16, 82, true), (11, 55, 91, false), (11, 59, 92, false), (0, 213, 27, true), (0, 217, 93, false), (11, 63, 94, false), (11, 68, 95, false), (11, 72, 96, false), (11, 76, 97, false), (0, 255, 98, true), (0, 258, 37, true), (11, 80, 99, false), (0, 261, 40, true), (0, 265, 42, true), (11, 85, 100, false), (11, 89, 101, false), (0, 279, 26, true), (0, 282, 36, true), (11, 93, 102, false), (0, 285, 103, false), (0, 288, 28, false), (11, 97, 104, false), (11, 101, 105, false), (0, 293, 106, false), (0, 296, 107, false), (11, 105, 108, false), (11, 110, 109, false), (0, 303, 110, true), (1, 216, 111, true), (6, 64, 112, false), (11, 114, 113, false), (0, 312, 114, true), (6, 68, 1001, false), (11, 118, 115, false), (0, 315, 39, true), (11, 122, 116, false), (0, 328, 117, true), (11, 126, 118, false), (0, 332, 119, true), (8, 28, 120, false), (0, 335, 121, true), (8, 32, 1001, false), (11, 130, 122, false), (11, 134, 123, false), (11, 139, 124, false), (0, 338, 125, false), (11, 144, 126, false), (11, 148, 127, false), (0, 341, 128, false), (11, 152, 129, false), (11, 156, 130, false), (11, 160, 131, false), (0, 344, 132, false), (0, 347, 133, false), (11, 164, 134, false), (0, 350, 135, false), (11, 168, 136, false), (0, 353, 137, false), (11, 172, 138, false), (11, 177, 139, false), (0, 356, 140, true), (1, 76, 21, true), (1, 80, 141, true), (3, 24, 1000, false), (1, 83, 81, true), (1, 86, 88, true), (1, 89, 90, true), (1, 92, 142, true), (8, 18, 1000, false), (1, 95, 1000, false), (11, 182, 143, false), (0, 362, 144, false), (11, 12, 145, false), (10, 1, 1003, false), (11, 17, 146, false), (10, 60, 147, false), (11, 22, 148, false), (10, 53, 149, false), (11, 27, 150, false), (10, 69, 151, false), (10, 65, 152, false), (10, 72, 153, false), (11, 45, 154, false), (11, 50, 155, false), (11, 54, 156, false), (10, 190, 157, false), (10, 162, 158, false), (10, 169, 159, false), (10, 172, 160, false), (10, 151, 161, false), (10, 97, 162, false), (10, 85, 57, false), (10, 91, 59, false), (10, 131, 163, false), (10, 156, 164, false), (10, 159, 165, false), (10, 175, 166, false), (10, 298, 167, false), (10, 271, 168, false), (10, 230, 169, false), (10, 187, 170, false), (10, 224, 171, false), (10, 199, 172, false), (10, 207, 173, false), (10, 203, 174, false), (10, 219, 175, false), (10, 210, 176, false), (10, 213, 177, false), (10, 216, 178, false), (10, 222, 179, false), (10, 274, 180, false), (10, 243, 181, false), (10, 236, 182, false), (10, 277, 183, false), (10, 253, 184, false), (10, 246, 185, false), (10, 250, 186, false), (10, 280, 187, false), (10, 268, 188, false), (10, 259, 189, false), (10, 265, 190, false), (10, 262, 191, false), (10, 301, 192, false), (10, 283, 193, false), (10, 286, 194, false), (10, 289, 195, false), (10, 292, 196, false), (11, 58, 197, false), (11, 176, 198, false), (11, 32, 199, false), (10, 346, 200, false), (11, 36, 201, false), (10, 317, 202, false), (11, 40, 203, false), (10, 380, 204, false), (10, 374, 205, false), (10, 330, 206, false), (10, 327, 207, false), (10, 323, 208, false), (10, 311, 209, false), (10, 314, 210, false), (10, 308, 211, false), (10, 304, 212, false), (10, 320, 213, false), (10, 333, 214, false), (10, 336, 215, false), (10, 339, 216, false), (10, 364, 217, false), (10, 377, 218, false), (10, 349, 219, false), (10, 352, 220, false), (10, 355, 221, false), (10, 368, 222, false), (10, 386, 223, false), (10, 383, 224, false), (10, 358, 225, false), (10, 361, 226, false), (10, 371, 227, false), (11, 84, 228, false), (11, 62, 229, false), (11, 67, 230, false), (11, 71, 231, false), (11, 75, 232, false), (11, 79, 233, false), (10, 389, 234, false), (11, 88, 235, false), (11, 159, 236, false), (11, 143, 237, false), (10, 392, 238, false), (11, 147, 239, false), (11, 163, 240, false), (11, 92, 241, false), (11, 96, 242, false), (11, 151, 243, false), (10, 396, 244, false), (11, 100, 245, false), (11, 104, 246, false), (10, 402, 247, false), (10, 399, 248, false), (10, 405, 249, false), (11, 109, 250, false), (11, 113, 251, false), (10, 411, 252, false), (10, 408, 253, false), (11, 155, 254, false), (10, 414, 251, false), (11, 117, 255, false), (11, 121, 256, false), (10, 417, 257, false), (11, 125, 258, false), (11, 129, 259, false), (11, 133, 260, false), (11, 138, 261, false), (11, 167, 262, false), (11, 171, 263, false), (10, 420, 264, false), (11, 181, 265, false), (11, 185, 266, false)]
def zMP : List Nat := [21, 24, 29, 32, 35, 38, 98, 101, 121, 124, 127, 130, 171, 174, 227, 230, 232, 245, 248, 325, 328, 331, 333, 335, 337, 423, 427, 431, 435, 438, 442, 446, 450, 454, 458, 461, 465, 469, 472, 476, 480, 483, 487, 491, 494, 498, 502, 508, 512, 516, 517, 520, 523, 524, 527, 530, 533, 534, 535, 539, 543, 544, 548, 552, 556, 560, 564, 565, 569, 570, 571, 577, 581, 585, 586, 590, 594, 598, 602, 606, 610, 614, 618, 621, 626, 630, 636, 640, 644, 647, 652, 674, 678, 681, 685, 688, 692, 696, 700, 704, 708, 712, 716, 720, 721, 725, 729, 733, 737, 741, 745, 749, 750, 751, 755, 756, 760, 764, 768, 772, 776, 777, 781, 785, 787, 791, 795, 796, 800, 804, 808, 812, 816, 820, 821, 825, 826, 827, 831, 835, 836, 837, 841, 845, 846, 850, 854, 858, 862, 866, 870, 874, 878, 882, 886, 890, 891, 895, 896, 900, 904, 908, 912, 916, 920, 921, 925, 929, 933, 937, 941, 945, 949, 953, 957, 961, 965, 969, 973, 977, 981, 985, 989, 993, 997, 998, 1002, 1003, 1004, 1005, 1006, 1010, 1011, 1012, 1016, 1022, 1025, 1123, 1127, 1131, 1135, 1138, 1142, 1146, 1150, 1153, 1157, 1161, 1165, 1169, 1173, 1176, 1180, 1185, 1189, 1190, 1197, 1211, 1221, 1226, 1229, 1233, 1237, 1241, 1245, 1249, 1253, 1257, 1261, 1265, 1269, 1273, 1277, 1281, 1285, 1289, 1293, 1297, 1301, 1305, 1309, 1313, 1317, 1321, 1325, 1329, 1333, 1337, 1341, 1345, 1349, 1353, 1357, 1361, 1365, 1369, 1372, 1376, 1380, 1384, 1388, 1392, 1396, 1399, 1403, 1407, 1410, 1413, 1417, 1421, 1425, 1429, 1433, 1437, 1441, 1445, 1449, 1453, 1457, 1461, 1465, 1471, 1475, 1479, 1483, 1487, 1491, 1495, 1499, 1503, 1507, 1511, 1515, 1520, 1524, 1528, 1532, 1536, 1540, 1544, 1548, 1552, 1556, 1560, 1564, 1568, 1572, 1576, 1580, 1581, 1585, 1589, 1592, 1596, 1600, 1604, 1608, 1612, 1616, 1620, 1624]
def zcal (k : Nat) : MethodName := if k = 1000 then arraycopyName else if k = 1001 then Lib.Math.max.name else if k = 1002 then Lib.Math.min.name else if k = 1003 then objectInit else zname k
def zMw (q : Nat × Nat × Nat × Bool) : Cond := if q.2.2.2 then .methodLinkNest (zcn q.1) q.2.1 (zcal q.2.2.1) "SpareDay" else .methodLink (zcn q.1) q.2.1 (zcal q.2.2.1)
def zres (own ix : Nat) : Option Nat := (zML.find? fun q => q.1 == own && q.2.1 == ix).map fun q => q.2.2.1
def zNL : List (Nat × Nat × Nat) := [(11, 7, 0), (0, 7, 1), (1, 9, 2), (1, 18, 3), (1, 25, 4), (4, 9, 5), (1, 32, 6), (1, 39, 7), (7, 7, 5), (1, 46, 8), (0, 23, 2), (0, 41, 9), (9, 28, 4), (9, 38, 6), (9, 45, 7), (11, 10, 10)]
def zNP : List Nat := [19, 27, 33, 96, 119, 125, 169, 225, 231, 243, 323, 326, 332, 334, 336, 1020]
def zNw (q : Nat × Nat × Nat) : Cond := .classLink (zcn q.1) q.2.1 (zcn q.2.2)
def znew (own ix : Nat) : Option Nat := (zNL.find? fun q => q.1 == own && q.2.1 == ix).map fun q => q.2.2
def zKL : List (Nat × Nat × Int32) := [(12, 265, 1431655765), (12, 266, 858993459), (12, 267, 252645135), (2, 58, 1664525), (2, 59, 1013904223), (10, 63, 1664525), (10, 64, 1013904223), (10, 395, 100000)]
def zKP : List Nat := [505, 506, 507, 575, 576, 1469, 1470, 1519]
def zKw (q : Nat × Nat × Int32) : Cond := .constant (zcn q.1) q.2.1 q.2.2
def zcon (own ix : Nat) : Option Int32 := (zKL.find? fun q => q.1 == own && q.2.1 == ix).map fun q => q.2.2
/-- the texts: own class, pool place, text -/
def zSL : List (Nat × Nat × String) := [(9, 95, "weight wear notice when or and not person age need had since worn year ties used names work for worth dust wax after most "), (10, 117, "when"), (10, 119, "or"), (10, 121, "and"), (10, 123, "not"), (10, 125, "weight"), (10, 127, "wear"), (10, 129, "notice"), (10, 95, "person"), (10, 101, "age"), (10, 103, "need"), (10, 105, "had"), (10, 107, "since"), (10, 109, "worn"), (10, 111, "year"), (10, 113, "ties"), (10, 115, "used"), (10, 154, "names"), (10, 134, "work"), (10, 136, "for"), (10, 138, "worth"), (10, 140, "dust"), (10, 142, "wax"), (10, 144, "after"), (10, 146, "most")]
def zSP : List Nat := [625, 1184, 1191, 1192, 1193, 1194, 1195, 1196, 1201, 1202, 1203, 1204, 1205, 1206, 1207, 1208, 1209, 1210, 1215, 1216, 1217, 1218, 1219, 1220, 1225]
def zSw (q : Nat × Nat × String) : Cond := .stringRef (zcn q.1) q.2.1 q.2.2
def zSB : List (List Int32) := [[119, 101, 105, 103, 104, 116, 32, 119, 101, 97, 114, 32, 110, 111, 116, 105, 99, 101, 32, 119, 104, 101, 110, 32, 111, 114, 32, 97, 110, 100, 32, 110, 111, 116, 32, 112, 101, 114, 115, 111, 110, 32, 97, 103, 101, 32, 110, 101, 101, 100, 32, 104, 97, 100, 32, 115, 105, 110, 99, 101, 32, 119, 111, 114, 110, 32, 121, 101, 97, 114, 32, 116, 105, 101, 115, 32, 117, 115, 101, 100, 32, 110, 97, 109, 101, 115, 32, 119, 111, 114, 107, 32, 102, 111, 114, 32, 119, 111, 114, 116, 104, 32, 100, 117, 115, 116, 32, 119, 97, 120, 32, 97, 102, 116, 101, 114, 32, 109, 111, 115, 116, 32], [119, 104, 101, 110], [111, 114], [97, 110, 100], [110, 111, 116], [119, 101, 105, 103, 104, 116], [119, 101, 97, 114], [110, 111, 116, 105, 99, 101], [112, 101, 114, 115, 111, 110], [97, 103, 101], [110, 101, 101, 100], [104, 97, 100], [115, 105, 110, 99, 101], [119, 111, 114, 110], [121, 101, 97, 114], [116, 105, 101, 115], [117, 115, 101, 100], [110, 97, 109, 101, 115], [119, 111, 114, 107], [102, 111, 114], [119, 111, 114, 116, 104], [100, 117, 115, 116], [119, 97, 120], [97, 102, 116, 101, 114], [109, 111, 115, 116]]
def zstr (own ix : Nat) : Option Nat := zSL.findIdx? fun q => q.1 == own && q.2.1 == ix
