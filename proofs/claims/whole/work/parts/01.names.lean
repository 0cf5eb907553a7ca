-- begun from kit/laws/SKELETON.whole (PART A) and claim/NAMES.whole (names)
-- ===== PART A: goes FIRST, ahead of the names: the tables' words, and 'selects' of the private methods out of them =====
/-- a private method of a class that the tables say can be made, by its rows of tables_1 -/
def lw_okq (q : MethodName × Nat) : Prop := (q.1.cls ≠ "java/lang/invoke/MethodHandle" ∧ q.1.cls ≠ "java/lang/invoke/VarHandle") ∧ Cond.instantiable q.1.cls q.2 ∈ tables_1 ∧ Cond.privateMethod q.1 ∈ tables_1 ∧ Cond.instanceMethod q.1 ∈ tables_1
theorem lw_p0 : lw_okq (⟨"CometKin$Text", "readClause", "(LCometKin$Country;)V"⟩, 5) := ⟨⟨by decide +kernel, by decide +kernel⟩, List.mem_of_getElem? (i := 24) (by decide +kernel), List.mem_of_getElem? (i := 313) (by decide +kernel), List.mem_of_getElem? (i := 314) (by decide +kernel)⟩
theorem lw_p1 : lw_okq (⟨"CometKin$Text", "readWord", "(LCometKin$Country;)I"⟩, 5) := ⟨⟨by decide +kernel, by decide +kernel⟩, List.mem_of_getElem? (i := 24) (by decide +kernel), List.mem_of_getElem? (i := 317) (by decide +kernel), List.mem_of_getElem? (i := 318) (by decide +kernel)⟩
theorem lw_p2 : lw_okq (⟨"CometKin$Text", "skipBlanks", "()V"⟩, 5) := ⟨⟨by decide +kernel, by decide +kernel⟩, List.mem_of_getElem? (i := 24) (by decide +kernel), List.mem_of_getElem? (i := 321) (by decide +kernel), List.mem_of_getElem? (i := 322) (by decide +kernel)⟩
theorem lw_p3 : lw_okq (⟨"CometKin$Text", "isSpelled", "(Ljava/lang/String;I)Z"⟩, 5) := ⟨⟨by decide +kernel, by decide +kernel⟩, List.mem_of_getElem? (i := 24) (by decide +kernel), List.mem_of_getElem? (i := 345) (by decide +kernel), List.mem_of_getElem? (i := 346) (by decide +kernel)⟩
theorem lw_p4 : lw_okq (⟨"CometKin$Text", "readNumber", "(II)I"⟩, 5) := ⟨⟨by decide +kernel, by decide +kernel⟩, List.mem_of_getElem? (i := 24) (by decide +kernel), List.mem_of_getElem? (i := 403) (by decide +kernel), List.mem_of_getElem? (i := 404) (by decide +kernel)⟩
theorem lw_p5 : lw_okq (⟨"CometKin$Text", "readParents", "(LCometKin$Country;Z)V"⟩, 5) := ⟨⟨by decide +kernel, by decide +kernel⟩, List.mem_of_getElem? (i := 24) (by decide +kernel), List.mem_of_getElem? (i := 426) (by decide +kernel), List.mem_of_getElem? (i := 427) (by decide +kernel)⟩
theorem lw_p6 : lw_okq (⟨"CometKin$Text", "readSeparator", "()Z"⟩, 5) := ⟨⟨by decide +kernel, by decide +kernel⟩, List.mem_of_getElem? (i := 24) (by decide +kernel), List.mem_of_getElem? (i := 435) (by decide +kernel), List.mem_of_getElem? (i := 436) (by decide +kernel)⟩
theorem lw_p7 : lw_okq (⟨"CometKin$Country", "latestAheadOf", "(I)I"⟩, 14) := ⟨⟨by decide +kernel, by decide +kernel⟩, List.mem_of_getElem? (i := 63) (by decide +kernel), List.mem_of_getElem? (i := 444) (by decide +kernel), List.mem_of_getElem? (i := 445) (by decide +kernel)⟩
theorem lw_p8 : lw_okq (⟨"CometKin$Country", "isAhead", "(II)Z"⟩, 14) := ⟨⟨by decide +kernel, by decide +kernel⟩, List.mem_of_getElem? (i := 63) (by decide +kernel), List.mem_of_getElem? (i := 448) (by decide +kernel), List.mem_of_getElem? (i := 449) (by decide +kernel)⟩
theorem lw_p9 : lw_okq (⟨"CometKin$Country", "latestYear", "(II)I"⟩, 14) := ⟨⟨by decide +kernel, by decide +kernel⟩, List.mem_of_getElem? (i := 63) (by decide +kernel), List.mem_of_getElem? (i := 542) (by decide +kernel), List.mem_of_getElem? (i := 543) (by decide +kernel)⟩
theorem lw_p10 : lw_okq (⟨"CometKin$Country", "stepFrom", "(II)I"⟩, 14) := ⟨⟨by decide +kernel, by decide +kernel⟩, List.mem_of_getElem? (i := 63) (by decide +kernel), List.mem_of_getElem? (i := 546) (by decide +kernel), List.mem_of_getElem? (i := 547) (by decide +kernel)⟩
theorem lw_p11 : lw_okq (⟨"CometKin$Country", "allReached", "(II)I"⟩, 14) := ⟨⟨by decide +kernel, by decide +kernel⟩, List.mem_of_getElem? (i := 63) (by decide +kernel), List.mem_of_getElem? (i := 558) (by decide +kernel), List.mem_of_getElem? (i := 559) (by decide +kernel)⟩
theorem lw_p12 : lw_okq (⟨"CometKin", "remember", "()V"⟩, 11) := ⟨⟨by decide +kernel, by decide +kernel⟩, List.mem_of_getElem? (i := 16) (by decide +kernel), List.mem_of_getElem? (i := 566) (by decide +kernel), List.mem_of_getElem? (i := 567) (by decide +kernel)⟩
theorem lw_p13 : lw_okq (⟨"CometKin$Shelf", "at", "(I)LCometKin$Life;"⟩, 1) := ⟨⟨by decide +kernel, by decide +kernel⟩, List.mem_of_getElem? (i := 181) (by decide +kernel), List.mem_of_getElem? (i := 574) (by decide +kernel), List.mem_of_getElem? (i := 575) (by decide +kernel)⟩
theorem lw_p14 : lw_okq (⟨"CometKin", "mayMarry", "(II)Z"⟩, 11) := ⟨⟨by decide +kernel, by decide +kernel⟩, List.mem_of_getElem? (i := 16) (by decide +kernel), List.mem_of_getElem? (i := 594) (by decide +kernel), List.mem_of_getElem? (i := 595) (by decide +kernel)⟩
theorem lw_p15 : lw_okq (⟨"CometKin", "isFree", "(I)Z"⟩, 11) := ⟨⟨by decide +kernel, by decide +kernel⟩, List.mem_of_getElem? (i := 16) (by decide +kernel), List.mem_of_getElem? (i := 598) (by decide +kernel), List.mem_of_getElem? (i := 599) (by decide +kernel)⟩
def lw_privs_1 : List (MethodName × Nat) := [(⟨"CometKin$Text", "readClause", "(LCometKin$Country;)V"⟩, 5), (⟨"CometKin$Text", "readWord", "(LCometKin$Country;)I"⟩, 5), (⟨"CometKin$Text", "skipBlanks", "()V"⟩, 5), (⟨"CometKin$Text", "isSpelled", "(Ljava/lang/String;I)Z"⟩, 5), (⟨"CometKin$Text", "readNumber", "(II)I"⟩, 5), (⟨"CometKin$Text", "readParents", "(LCometKin$Country;Z)V"⟩, 5), (⟨"CometKin$Text", "readSeparator", "()Z"⟩, 5), (⟨"CometKin$Country", "latestAheadOf", "(I)I"⟩, 14), (⟨"CometKin$Country", "isAhead", "(II)Z"⟩, 14), (⟨"CometKin$Country", "latestYear", "(II)I"⟩, 14), (⟨"CometKin$Country", "stepFrom", "(II)I"⟩, 14), (⟨"CometKin$Country", "allReached", "(II)I"⟩, 14), (⟨"CometKin", "remember", "()V"⟩, 11), (⟨"CometKin$Shelf", "at", "(I)LCometKin$Life;"⟩, 1), (⟨"CometKin", "mayMarry", "(II)Z"⟩, 11), (⟨"CometKin", "isFree", "(I)Z"⟩, 11)]
theorem lw_r1 : ∀ q ∈ lw_privs_1, lw_okq q := List.forall_mem_cons.mpr ⟨lw_p0, List.forall_mem_cons.mpr ⟨lw_p1, List.forall_mem_cons.mpr ⟨lw_p2, List.forall_mem_cons.mpr ⟨lw_p3, List.forall_mem_cons.mpr ⟨lw_p4, List.forall_mem_cons.mpr ⟨lw_p5, List.forall_mem_cons.mpr ⟨lw_p6, List.forall_mem_cons.mpr ⟨lw_p7, List.forall_mem_cons.mpr ⟨lw_p8, List.forall_mem_cons.mpr ⟨lw_p9, List.forall_mem_cons.mpr ⟨lw_p10, List.forall_mem_cons.mpr ⟨lw_p11, List.forall_mem_cons.mpr ⟨lw_p12, List.forall_mem_cons.mpr ⟨lw_p13, List.forall_mem_cons.mpr ⟨lw_p14, List.forall_mem_cons.mpr ⟨lw_p15, fun _ h => absurd h List.not_mem_nil⟩⟩⟩⟩⟩⟩⟩⟩⟩⟩⟩⟩⟩⟩⟩⟩
theorem lw_p16 : lw_okq (⟨"CometKin", "areKinWithin", "(IIII)Z"⟩, 11) := ⟨⟨by decide +kernel, by decide +kernel⟩, List.mem_of_getElem? (i := 16) (by decide +kernel), List.mem_of_getElem? (i := 602) (by decide +kernel), List.mem_of_getElem? (i := 603) (by decide +kernel)⟩
theorem lw_p17 : lw_okq (⟨"CometKin", "marriages", "()I"⟩, 11) := ⟨⟨by decide +kernel, by decide +kernel⟩, List.mem_of_getElem? (i := 16) (by decide +kernel), List.mem_of_getElem? (i := 611) (by decide +kernel), List.mem_of_getElem? (i := 612) (by decide +kernel)⟩
theorem lw_p18 : lw_okq (⟨"CometKin", "nearestLiving", "(I)I"⟩, 11) := ⟨⟨by decide +kernel, by decide +kernel⟩, List.mem_of_getElem? (i := 16) (by decide +kernel), List.mem_of_getElem? (i := 635) (by decide +kernel), List.mem_of_getElem? (i := 636) (by decide +kernel)⟩
theorem lw_p19 : lw_okq (⟨"CometKin", "shareOut", "(II)I"⟩, 11) := ⟨⟨by decide +kernel, by decide +kernel⟩, List.mem_of_getElem? (i := 16) (by decide +kernel), List.mem_of_getElem? (i := 639) (by decide +kernel), List.mem_of_getElem? (i := 640) (by decide +kernel)⟩
theorem lw_p20 : lw_okq (⟨"CometKin", "bothLive", "(II)Z"⟩, 11) := ⟨⟨by decide +kernel, by decide +kernel⟩, List.mem_of_getElem? (i := 16) (by decide +kernel), List.mem_of_getElem? (i := 653) (by decide +kernel), List.mem_of_getElem? (i := 654) (by decide +kernel)⟩
theorem lw_p21 : lw_okq (⟨"CometKin", "dueYear", "(I)I"⟩, 11) := ⟨⟨by decide +kernel, by decide +kernel⟩, List.mem_of_getElem? (i := 16) (by decide +kernel), List.mem_of_getElem? (i := 669) (by decide +kernel), List.mem_of_getElem? (i := 670) (by decide +kernel)⟩
theorem lw_p22 : lw_okq (⟨"CometKin", "canBePaid", "(I)Z"⟩, 11) := ⟨⟨by decide +kernel, by decide +kernel⟩, List.mem_of_getElem? (i := 16) (by decide +kernel), List.mem_of_getElem? (i := 681) (by decide +kernel), List.mem_of_getElem? (i := 682) (by decide +kernel)⟩
theorem lw_p23 : lw_okq (⟨"CometKin", "livingKinOfChild", "(IIII)I"⟩, 11) := ⟨⟨by decide +kernel, by decide +kernel⟩, List.mem_of_getElem? (i := 16) (by decide +kernel), List.mem_of_getElem? (i := 714) (by decide +kernel), List.mem_of_getElem? (i := 715) (by decide +kernel)⟩
theorem lw_p24 : lw_okq (⟨"CometKin", "findMatches", "()V"⟩, 11) := ⟨⟨by decide +kernel, by decide +kernel⟩, List.mem_of_getElem? (i := 16) (by decide +kernel), List.mem_of_getElem? (i := 724) (by decide +kernel), List.mem_of_getElem? (i := 725) (by decide +kernel)⟩
theorem lw_p25 : lw_okq (⟨"CometKin", "firstPartner", "(II)I"⟩, 11) := ⟨⟨by decide +kernel, by decide +kernel⟩, List.mem_of_getElem? (i := 16) (by decide +kernel), List.mem_of_getElem? (i := 736) (by decide +kernel), List.mem_of_getElem? (i := 737) (by decide +kernel)⟩
theorem lw_p26 : lw_okq (⟨"CometKin", "weighFeasts", "()V"⟩, 11) := ⟨⟨by decide +kernel, by decide +kernel⟩, List.mem_of_getElem? (i := 16) (by decide +kernel), List.mem_of_getElem? (i := 773) (by decide +kernel), List.mem_of_getElem? (i := 774) (by decide +kernel)⟩
theorem lw_p27 : lw_okq (⟨"CometKin$Feasts", "allFit", "(LCometKin$Country;)Z"⟩, 10) := ⟨⟨by decide +kernel, by decide +kernel⟩, List.mem_of_getElem? (i := 195) (by decide +kernel), List.mem_of_getElem? (i := 794) (by decide +kernel), List.mem_of_getElem? (i := 795) (by decide +kernel)⟩
theorem lw_p28 : lw_okq (⟨"CometKin$Feasts", "takeTruth", "(LCometKin$Country;)V"⟩, 10) := ⟨⟨by decide +kernel, by decide +kernel⟩, List.mem_of_getElem? (i := 195) (by decide +kernel), List.mem_of_getElem? (i := 799) (by decide +kernel), List.mem_of_getElem? (i := 800) (by decide +kernel)⟩
theorem lw_p29 : lw_okq (⟨"CometKinModel", "begin", "()V"⟩, 32) := ⟨⟨by decide +kernel, by decide +kernel⟩, List.mem_of_getElem? (i := 838) (by decide +kernel), List.mem_of_getElem? (i := 844) (by decide +kernel), List.mem_of_getElem? (i := 845) (by decide +kernel)⟩
theorem lw_p30 : lw_okq (⟨"CometKinModel", "token", "()V"⟩, 32) := ⟨⟨by decide +kernel, by decide +kernel⟩, List.mem_of_getElem? (i := 838) (by decide +kernel), List.mem_of_getElem? (i := 964) (by decide +kernel), List.mem_of_getElem? (i := 965) (by decide +kernel)⟩
theorem lw_p31 : lw_okq (⟨"CometKinModel", "readsClause", "()Z"⟩, 32) := ⟨⟨by decide +kernel, by decide +kernel⟩, List.mem_of_getElem? (i := 838) (by decide +kernel), List.mem_of_getElem? (i := 971) (by decide +kernel), List.mem_of_getElem? (i := 972) (by decide +kernel)⟩
def lw_privs_2 : List (MethodName × Nat) := [(⟨"CometKin", "areKinWithin", "(IIII)Z"⟩, 11), (⟨"CometKin", "marriages", "()I"⟩, 11), (⟨"CometKin", "nearestLiving", "(I)I"⟩, 11), (⟨"CometKin", "shareOut", "(II)I"⟩, 11), (⟨"CometKin", "bothLive", "(II)Z"⟩, 11), (⟨"CometKin", "dueYear", "(I)I"⟩, 11), (⟨"CometKin", "canBePaid", "(I)Z"⟩, 11), (⟨"CometKin", "livingKinOfChild", "(IIII)I"⟩, 11), (⟨"CometKin", "findMatches", "()V"⟩, 11), (⟨"CometKin", "firstPartner", "(II)I"⟩, 11), (⟨"CometKin", "weighFeasts", "()V"⟩, 11), (⟨"CometKin$Feasts", "allFit", "(LCometKin$Country;)Z"⟩, 10), (⟨"CometKin$Feasts", "takeTruth", "(LCometKin$Country;)V"⟩, 10), (⟨"CometKinModel", "begin", "()V"⟩, 32), (⟨"CometKinModel", "token", "()V"⟩, 32), (⟨"CometKinModel", "readsClause", "()Z"⟩, 32)]
theorem lw_r2 : ∀ q ∈ lw_privs_2, lw_okq q := List.forall_mem_cons.mpr ⟨lw_p16, List.forall_mem_cons.mpr ⟨lw_p17, List.forall_mem_cons.mpr ⟨lw_p18, List.forall_mem_cons.mpr ⟨lw_p19, List.forall_mem_cons.mpr ⟨lw_p20, List.forall_mem_cons.mpr ⟨lw_p21, List.forall_mem_cons.mpr ⟨lw_p22, List.forall_mem_cons.mpr ⟨lw_p23, List.forall_mem_cons.mpr ⟨lw_p24, List.forall_mem_cons.mpr ⟨lw_p25, List.forall_mem_cons.mpr ⟨lw_p26, List.forall_mem_cons.mpr ⟨lw_p27, List.forall_mem_cons.mpr ⟨lw_p28, List.forall_mem_cons.mpr ⟨lw_p29, List.forall_mem_cons.mpr ⟨lw_p30, List.forall_mem_cons.mpr ⟨lw_p31, fun _ h => absurd h List.not_mem_nil⟩⟩⟩⟩⟩⟩⟩⟩⟩⟩⟩⟩⟩⟩⟩⟩
theorem lw_p32 : lw_okq (⟨"CometKinModel", "wordOf", "()I"⟩, 32) := ⟨⟨by decide +kernel, by decide +kernel⟩, List.mem_of_getElem? (i := 838) (by decide +kernel), List.mem_of_getElem? (i := 975) (by decide +kernel), List.mem_of_getElem? (i := 976) (by decide +kernel)⟩
theorem lw_p33 : lw_okq (⟨"CometKinModel", "cometWord", "()I"⟩, 32) := ⟨⟨by decide +kernel, by decide +kernel⟩, List.mem_of_getElem? (i := 838) (by decide +kernel), List.mem_of_getElem? (i := 979) (by decide +kernel), List.mem_of_getElem? (i := 980) (by decide +kernel)⟩
theorem lw_p34 : lw_okq (⟨"CometKinModel", "isWord", "(III)Z"⟩, 32) := ⟨⟨by decide +kernel, by decide +kernel⟩, List.mem_of_getElem? (i := 838) (by decide +kernel), List.mem_of_getElem? (i := 984) (by decide +kernel), List.mem_of_getElem? (i := 985) (by decide +kernel)⟩
theorem lw_p35 : lw_okq (⟨"CometKinModel", "folkWord", "()I"⟩, 32) := ⟨⟨by decide +kernel, by decide +kernel⟩, List.mem_of_getElem? (i := 838) (by decide +kernel), List.mem_of_getElem? (i := 991) (by decide +kernel), List.mem_of_getElem? (i := 992) (by decide +kernel)⟩
theorem lw_p36 : lw_okq (⟨"CometKinModel", "readsRest", "(I)Z"⟩, 32) := ⟨⟨by decide +kernel, by decide +kernel⟩, List.mem_of_getElem? (i := 838) (by decide +kernel), List.mem_of_getElem? (i := 1010) (by decide +kernel), List.mem_of_getElem? (i := 1011) (by decide +kernel)⟩
theorem lw_p37 : lw_okq (⟨"CometKinModel", "reads", "(III)Z"⟩, 32) := ⟨⟨by decide +kernel, by decide +kernel⟩, List.mem_of_getElem? (i := 838) (by decide +kernel), List.mem_of_getElem? (i := 1014) (by decide +kernel), List.mem_of_getElem? (i := 1015) (by decide +kernel)⟩
theorem lw_p38 : lw_okq (⟨"CometKinModel", "tell", "(I)V"⟩, 32) := ⟨⟨by decide +kernel, by decide +kernel⟩, List.mem_of_getElem? (i := 838) (by decide +kernel), List.mem_of_getElem? (i := 1023) (by decide +kernel), List.mem_of_getElem? (i := 1024) (by decide +kernel)⟩
theorem lw_p39 : lw_okq (⟨"CometKinModel", "addComet", "(II)V"⟩, 32) := ⟨⟨by decide +kernel, by decide +kernel⟩, List.mem_of_getElem? (i := 838) (by decide +kernel), List.mem_of_getElem? (i := 1027) (by decide +kernel), List.mem_of_getElem? (i := 1028) (by decide +kernel)⟩
theorem lw_p40 : lw_okq (⟨"CometKinModel", "addOne", "(II)V"⟩, 32) := ⟨⟨by decide +kernel, by decide +kernel⟩, List.mem_of_getElem? (i := 838) (by decide +kernel), List.mem_of_getElem? (i := 1031) (by decide +kernel), List.mem_of_getElem? (i := 1032) (by decide +kernel)⟩
theorem lw_p41 : lw_okq (⟨"CometKinModel", "isOne", "(I)Z"⟩, 32) := ⟨⟨by decide +kernel, by decide +kernel⟩, List.mem_of_getElem? (i := 838) (by decide +kernel), List.mem_of_getElem? (i := 1039) (by decide +kernel), List.mem_of_getElem? (i := 1040) (by decide +kernel)⟩
theorem lw_p42 : lw_okq (⟨"CometKinModel", "isComet", "(I)Z"⟩, 32) := ⟨⟨by decide +kernel, by decide +kernel⟩, List.mem_of_getElem? (i := 838) (by decide +kernel), List.mem_of_getElem? (i := 1047) (by decide +kernel), List.mem_of_getElem? (i := 1048) (by decide +kernel)⟩
theorem lw_p43 : lw_okq (⟨"CometKinModel", "sees", "(II)Z"⟩, 32) := ⟨⟨by decide +kernel, by decide +kernel⟩, List.mem_of_getElem? (i := 838) (by decide +kernel), List.mem_of_getElem? (i := 1051) (by decide +kernel), List.mem_of_getElem? (i := 1052) (by decide +kernel)⟩
theorem lw_p44 : lw_okq (⟨"CometKinModel", "isThere", "(I)Z"⟩, 32) := ⟨⟨by decide +kernel, by decide +kernel⟩, List.mem_of_getElem? (i := 838) (by decide +kernel), List.mem_of_getElem? (i := 1055) (by decide +kernel), List.mem_of_getElem? (i := 1056) (by decide +kernel)⟩
theorem lw_p45 : lw_okq (⟨"CometKinModel", "isCancelled", "(I)Z"⟩, 32) := ⟨⟨by decide +kernel, by decide +kernel⟩, List.mem_of_getElem? (i := 838) (by decide +kernel), List.mem_of_getElem? (i := 1062) (by decide +kernel), List.mem_of_getElem? (i := 1063) (by decide +kernel)⟩
theorem lw_p46 : lw_okq (⟨"CometKinModel", "cancelledBy", "(I)I"⟩, 32) := ⟨⟨by decide +kernel, by decide +kernel⟩, List.mem_of_getElem? (i := 838) (by decide +kernel), List.mem_of_getElem? (i := 1066) (by decide +kernel), List.mem_of_getElem? (i := 1067) (by decide +kernel)⟩
theorem lw_p47 : lw_okq (⟨"CometKinModel", "isAhead", "(II)Z"⟩, 32) := ⟨⟨by decide +kernel, by decide +kernel⟩, List.mem_of_getElem? (i := 838) (by decide +kernel), List.mem_of_getElem? (i := 1070) (by decide +kernel), List.mem_of_getElem? (i := 1071) (by decide +kernel)⟩
def lw_privs_3 : List (MethodName × Nat) := [(⟨"CometKinModel", "wordOf", "()I"⟩, 32), (⟨"CometKinModel", "cometWord", "()I"⟩, 32), (⟨"CometKinModel", "isWord", "(III)Z"⟩, 32), (⟨"CometKinModel", "folkWord", "()I"⟩, 32), (⟨"CometKinModel", "readsRest", "(I)Z"⟩, 32), (⟨"CometKinModel", "reads", "(III)Z"⟩, 32), (⟨"CometKinModel", "tell", "(I)V"⟩, 32), (⟨"CometKinModel", "addComet", "(II)V"⟩, 32), (⟨"CometKinModel", "addOne", "(II)V"⟩, 32), (⟨"CometKinModel", "isOne", "(I)Z"⟩, 32), (⟨"CometKinModel", "isComet", "(I)Z"⟩, 32), (⟨"CometKinModel", "sees", "(II)Z"⟩, 32), (⟨"CometKinModel", "isThere", "(I)Z"⟩, 32), (⟨"CometKinModel", "isCancelled", "(I)Z"⟩, 32), (⟨"CometKinModel", "cancelledBy", "(I)I"⟩, 32), (⟨"CometKinModel", "isAhead", "(II)Z"⟩, 32)]
theorem lw_r3 : ∀ q ∈ lw_privs_3, lw_okq q := List.forall_mem_cons.mpr ⟨lw_p32, List.forall_mem_cons.mpr ⟨lw_p33, List.forall_mem_cons.mpr ⟨lw_p34, List.forall_mem_cons.mpr ⟨lw_p35, List.forall_mem_cons.mpr ⟨lw_p36, List.forall_mem_cons.mpr ⟨lw_p37, List.forall_mem_cons.mpr ⟨lw_p38, List.forall_mem_cons.mpr ⟨lw_p39, List.forall_mem_cons.mpr ⟨lw_p40, List.forall_mem_cons.mpr ⟨lw_p41, List.forall_mem_cons.mpr ⟨lw_p42, List.forall_mem_cons.mpr ⟨lw_p43, List.forall_mem_cons.mpr ⟨lw_p44, List.forall_mem_cons.mpr ⟨lw_p45, List.forall_mem_cons.mpr ⟨lw_p46, List.forall_mem_cons.mpr ⟨lw_p47, fun _ h => absurd h List.not_mem_nil⟩⟩⟩⟩⟩⟩⟩⟩⟩⟩⟩⟩⟩⟩⟩⟩
theorem lw_p48 : lw_okq (⟨"CometKinModel", "degreeOf", "(III)I"⟩, 32) := ⟨⟨by decide +kernel, by decide +kernel⟩, List.mem_of_getElem? (i := 838) (by decide +kernel), List.mem_of_getElem? (i := 1091) (by decide +kernel), List.mem_of_getElem? (i := 1092) (by decide +kernel)⟩
theorem lw_p49 : lw_okq (⟨"CometKinModel", "laySeen", "(II)V"⟩, 32) := ⟨⟨by decide +kernel, by decide +kernel⟩, List.mem_of_getElem? (i := 838) (by decide +kernel), List.mem_of_getElem? (i := 1095) (by decide +kernel), List.mem_of_getElem? (i := 1096) (by decide +kernel)⟩
theorem lw_p50 : lw_okq (⟨"CometKinModel", "stepFrom", "(II)I"⟩, 32) := ⟨⟨by decide +kernel, by decide +kernel⟩, List.mem_of_getElem? (i := 838) (by decide +kernel), List.mem_of_getElem? (i := 1102) (by decide +kernel), List.mem_of_getElem? (i := 1103) (by decide +kernel)⟩
theorem lw_p51 : lw_okq (⟨"CometKinModel", "counts", "(II)Z"⟩, 32) := ⟨⟨by decide +kernel, by decide +kernel⟩, List.mem_of_getElem? (i := 838) (by decide +kernel), List.mem_of_getElem? (i := 1106) (by decide +kernel), List.mem_of_getElem? (i := 1107) (by decide +kernel)⟩
theorem lw_p52 : lw_okq (⟨"CometKinModel", "kinOf", "(II)I"⟩, 32) := ⟨⟨by decide +kernel, by decide +kernel⟩, List.mem_of_getElem? (i := 838) (by decide +kernel), List.mem_of_getElem? (i := 1114) (by decide +kernel), List.mem_of_getElem? (i := 1115) (by decide +kernel)⟩
theorem lw_p53 : lw_okq (⟨"CometKinModel", "keepPast", "()V"⟩, 32) := ⟨⟨by decide +kernel, by decide +kernel⟩, List.mem_of_getElem? (i := 838) (by decide +kernel), List.mem_of_getElem? (i := 1122) (by decide +kernel), List.mem_of_getElem? (i := 1123) (by decide +kernel)⟩
theorem lw_p54 : lw_okq (⟨"CometKinModel", "copy", "(II)V"⟩, 32) := ⟨⟨by decide +kernel, by decide +kernel⟩, List.mem_of_getElem? (i := 838) (by decide +kernel), List.mem_of_getElem? (i := 1126) (by decide +kernel), List.mem_of_getElem? (i := 1127) (by decide +kernel)⟩
theorem lw_p55 : lw_okq (⟨"CometKinModel", "areTwo", "(II)Z"⟩, 32) := ⟨⟨by decide +kernel, by decide +kernel⟩, List.mem_of_getElem? (i := 838) (by decide +kernel), List.mem_of_getElem? (i := 1134) (by decide +kernel), List.mem_of_getElem? (i := 1135) (by decide +kernel)⟩
theorem lw_p56 : lw_okq (⟨"CometKinModel", "mayMarry", "(II)Z"⟩, 32) := ⟨⟨by decide +kernel, by decide +kernel⟩, List.mem_of_getElem? (i := 838) (by decide +kernel), List.mem_of_getElem? (i := 1138) (by decide +kernel), List.mem_of_getElem? (i := 1139) (by decide +kernel)⟩
theorem lw_p57 : lw_okq (⟨"CometKinModel", "isFree", "(I)Z"⟩, 32) := ⟨⟨by decide +kernel, by decide +kernel⟩, List.mem_of_getElem? (i := 838) (by decide +kernel), List.mem_of_getElem? (i := 1142) (by decide +kernel), List.mem_of_getElem? (i := 1143) (by decide +kernel)⟩
theorem lw_p58 : lw_okq (⟨"CometKinModel", "areNear", "(III)Z"⟩, 32) := ⟨⟨by decide +kernel, by decide +kernel⟩, List.mem_of_getElem? (i := 838) (by decide +kernel), List.mem_of_getElem? (i := 1146) (by decide +kernel), List.mem_of_getElem? (i := 1147) (by decide +kernel)⟩
theorem lw_p59 : lw_okq (⟨"CometKinModel", "marriages", "()I"⟩, 32) := ⟨⟨by decide +kernel, by decide +kernel⟩, List.mem_of_getElem? (i := 838) (by decide +kernel), List.mem_of_getElem? (i := 1154) (by decide +kernel), List.mem_of_getElem? (i := 1155) (by decide +kernel)⟩
theorem lw_p60 : lw_okq (⟨"CometKinModel", "heirsOf", "(I)I"⟩, 32) := ⟨⟨by decide +kernel, by decide +kernel⟩, List.mem_of_getElem? (i := 838) (by decide +kernel), List.mem_of_getElem? (i := 1162) (by decide +kernel), List.mem_of_getElem? (i := 1163) (by decide +kernel)⟩
theorem lw_p61 : lw_okq (⟨"CometKinModel", "liveBoth", "(II)Z"⟩, 32) := ⟨⟨by decide +kernel, by decide +kernel⟩, List.mem_of_getElem? (i := 838) (by decide +kernel), List.mem_of_getElem? (i := 1173) (by decide +kernel), List.mem_of_getElem? (i := 1174) (by decide +kernel)⟩
theorem lw_p62 : lw_okq (⟨"CometKinModel", "isDebt", "(I)Z"⟩, 32) := ⟨⟨by decide +kernel, by decide +kernel⟩, List.mem_of_getElem? (i := 838) (by decide +kernel), List.mem_of_getElem? (i := 1181) (by decide +kernel), List.mem_of_getElem? (i := 1182) (by decide +kernel)⟩
theorem lw_p63 : lw_okq (⟨"CometKinModel", "dueOf", "(I)I"⟩, 32) := ⟨⟨by decide +kernel, by decide +kernel⟩, List.mem_of_getElem? (i := 838) (by decide +kernel), List.mem_of_getElem? (i := 1185) (by decide +kernel), List.mem_of_getElem? (i := 1186) (by decide +kernel)⟩
def lw_privs_4 : List (MethodName × Nat) := [(⟨"CometKinModel", "degreeOf", "(III)I"⟩, 32), (⟨"CometKinModel", "laySeen", "(II)V"⟩, 32), (⟨"CometKinModel", "stepFrom", "(II)I"⟩, 32), (⟨"CometKinModel", "counts", "(II)Z"⟩, 32), (⟨"CometKinModel", "kinOf", "(II)I"⟩, 32), (⟨"CometKinModel", "keepPast", "()V"⟩, 32), (⟨"CometKinModel", "copy", "(II)V"⟩, 32), (⟨"CometKinModel", "areTwo", "(II)Z"⟩, 32), (⟨"CometKinModel", "mayMarry", "(II)Z"⟩, 32), (⟨"CometKinModel", "isFree", "(I)Z"⟩, 32), (⟨"CometKinModel", "areNear", "(III)Z"⟩, 32), (⟨"CometKinModel", "marriages", "()I"⟩, 32), (⟨"CometKinModel", "heirsOf", "(I)I"⟩, 32), (⟨"CometKinModel", "liveBoth", "(II)Z"⟩, 32), (⟨"CometKinModel", "isDebt", "(I)Z"⟩, 32), (⟨"CometKinModel", "dueOf", "(I)I"⟩, 32)]
theorem lw_r4 : ∀ q ∈ lw_privs_4, lw_okq q := List.forall_mem_cons.mpr ⟨lw_p48, List.forall_mem_cons.mpr ⟨lw_p49, List.forall_mem_cons.mpr ⟨lw_p50, List.forall_mem_cons.mpr ⟨lw_p51, List.forall_mem_cons.mpr ⟨lw_p52, List.forall_mem_cons.mpr ⟨lw_p53, List.forall_mem_cons.mpr ⟨lw_p54, List.forall_mem_cons.mpr ⟨lw_p55, List.forall_mem_cons.mpr ⟨lw_p56, List.forall_mem_cons.mpr ⟨lw_p57, List.forall_mem_cons.mpr ⟨lw_p58, List.forall_mem_cons.mpr ⟨lw_p59, List.forall_mem_cons.mpr ⟨lw_p60, List.forall_mem_cons.mpr ⟨lw_p61, List.forall_mem_cons.mpr ⟨lw_p62, List.forall_mem_cons.mpr ⟨lw_p63, fun _ h => absurd h List.not_mem_nil⟩⟩⟩⟩⟩⟩⟩⟩⟩⟩⟩⟩⟩⟩⟩⟩
theorem lw_p64 : lw_okq (⟨"CometKinModel", "layMosts", "()V"⟩, 32) := ⟨⟨by decide +kernel, by decide +kernel⟩, List.mem_of_getElem? (i := 838) (by decide +kernel), List.mem_of_getElem? (i := 1223) (by decide +kernel), List.mem_of_getElem? (i := 1224) (by decide +kernel)⟩
theorem lw_p65 : lw_okq (⟨"CometKinModel", "pairsNow", "()I"⟩, 32) := ⟨⟨by decide +kernel, by decide +kernel⟩, List.mem_of_getElem? (i := 838) (by decide +kernel), List.mem_of_getElem? (i := 1231) (by decide +kernel), List.mem_of_getElem? (i := 1232) (by decide +kernel)⟩
theorem lw_p66 : lw_okq (⟨"CometKinModel", "layTruths", "()V"⟩, 32) := ⟨⟨by decide +kernel, by decide +kernel⟩, List.mem_of_getElem? (i := 838) (by decide +kernel), List.mem_of_getElem? (i := 1247) (by decide +kernel), List.mem_of_getElem? (i := 1248) (by decide +kernel)⟩
theorem lw_p67 : lw_okq (⟨"CometKinModel", "layWay", "(I)V"⟩, 32) := ⟨⟨by decide +kernel, by decide +kernel⟩, List.mem_of_getElem? (i := 838) (by decide +kernel), List.mem_of_getElem? (i := 1251) (by decide +kernel), List.mem_of_getElem? (i := 1252) (by decide +kernel)⟩
theorem lw_p68 : lw_okq (⟨"CometKinModel", "isAllSo", "()Z"⟩, 32) := ⟨⟨by decide +kernel, by decide +kernel⟩, List.mem_of_getElem? (i := 838) (by decide +kernel), List.mem_of_getElem? (i := 1255) (by decide +kernel), List.mem_of_getElem? (i := 1256) (by decide +kernel)⟩
def lw_privs_5 : List (MethodName × Nat) := [(⟨"CometKinModel", "layMosts", "()V"⟩, 32), (⟨"CometKinModel", "pairsNow", "()I"⟩, 32), (⟨"CometKinModel", "layTruths", "()V"⟩, 32), (⟨"CometKinModel", "layWay", "(I)V"⟩, 32), (⟨"CometKinModel", "isAllSo", "()Z"⟩, 32)]
theorem lw_r5 : ∀ q ∈ lw_privs_5, lw_okq q := List.forall_mem_cons.mpr ⟨lw_p64, List.forall_mem_cons.mpr ⟨lw_p65, List.forall_mem_cons.mpr ⟨lw_p66, List.forall_mem_cons.mpr ⟨lw_p67, List.forall_mem_cons.mpr ⟨lw_p68, fun _ h => absurd h List.not_mem_nil⟩⟩⟩⟩⟩
def lw_privs : List (MethodName × Nat) := lw_privs_1 ++ (lw_privs_2 ++ (lw_privs_3 ++ (lw_privs_4 ++ (lw_privs_5))))
def lw_tbl : List Cond := k2_sels lw_privs ++ tables_1
theorem lw_privs_ok : ∀ q ∈ lw_privs, lw_okq q := by
  show ∀ q ∈ lw_privs_1 ++ (lw_privs_2 ++ (lw_privs_3 ++ (lw_privs_4 ++ (lw_privs_5)))), lw_okq q
  exact List.forall_mem_append.mpr ⟨lw_r1, List.forall_mem_append.mpr ⟨lw_r2, List.forall_mem_append.mpr ⟨lw_r3, List.forall_mem_append.mpr ⟨lw_r4, lw_r5⟩⟩⟩⟩
def RX0 : String := "CometKin$Country"
def TX0 : u_T := fun k => match k with
  | 0 => ("CometKin$Country", "people", "I", false)
  | 1 => ("CometKin$Country", "comets", "I", false)
  | 2 => ("CometKin$Country", "law", "I", false)
  | 3 => ("CometKin$Country", "kind", "LCometKin$Row;", true)
  | 4 => ("CometKin$Country", "born", "LCometKin$Row;", true)
  | 5 => ("CometKin$Country", "mother", "LCometKin$Row;", true)
  | 6 => ("CometKin$Country", "father", "LCometKin$Row;", true)
  | 7 => ("CometKin$Country", "toldGold", "LCometKin$Row;", true)
  | 8 => ("CometKin$Country", "cometKind", "LCometKin$Row;", true)
  | 9 => ("CometKin$Country", "cometYear", "LCometKin$Row;", true)
  | 10 => ("CometKin$Country", "seers", "I", false)
  | 11 => ("CometKin$Country", "cancelled", "I", false)
  | 12 => ("CometKin$Country", "plainSees", "I", false)
  | _ => ("CometKin$Country", "seerSees", "I", false)
def tyX0 : Nat → FieldType := fun k => match k with
  | 0 => .int
  | 1 => .int
  | 2 => .int
  | 3 => .object "CometKin$Row"
  | 4 => .object "CometKin$Row"
  | 5 => .object "CometKin$Row"
  | 6 => .object "CometKin$Row"
  | 7 => .object "CometKin$Row"
  | 8 => .object "CometKin$Row"
  | 9 => .object "CometKin$Row"
  | 10 => .int
  | 11 => .int
  | 12 => .int
  | _ => .int
abbrev wsX00 : List Cond := u_ws RX0 TX0 14
theorem nmX0 : ∀ a, a < 14 → ∀ b, b < 14 → a ≠ b → (TX0 a).2.1 ≠ (TX0 b).2.1 := by decide +kernel
theorem tyX0_ok : ∀ k, k < 14 → parseFieldDescriptor (TX0 k).2.2.1 = some (tyX0 k) := by decide +kernel
def RX1 : String := "CometKin$Feasts"
def TX1 : u_T := fun k => match k with
  | 0 => ("CometKin$Feasts", "held", "I", false)
  | 1 => ("CometKin$Feasts", "one", "LCometKin$Row;", true)
  | 2 => ("CometKin$Feasts", "other", "LCometKin$Row;", true)
  | 3 => ("CometKin$Feasts", "year", "LCometKin$Row;", true)
  | 4 => ("CometKin$Feasts", "wereKin", "LCometKin$Row;", true)
  | 5 => ("CometKin$Feasts", "makers", "LCometKin$Row;", true)
  | 6 => ("CometKin$Feasts", "truths", "I", false)
  | 7 => ("CometKin$Feasts", "firstTruth", "LCometKin$Row;", true)
  | 8 => ("CometKin$Feasts", "everOf", "LCometKin$Row;", true)
  | _ => ("CometKin$Feasts", "comets", "I", false)
def tyX1 : Nat → FieldType := fun k => match k with
  | 0 => .int
  | 1 => .object "CometKin$Row"
  | 2 => .object "CometKin$Row"
  | 3 => .object "CometKin$Row"
  | 4 => .object "CometKin$Row"
  | 5 => .object "CometKin$Row"
  | 6 => .int
  | 7 => .object "CometKin$Row"
  | 8 => .object "CometKin$Row"
  | _ => .int
abbrev wsX10 : List Cond := u_ws RX1 TX1 10
theorem nmX1 : ∀ a, a < 10 → ∀ b, b < 10 → a ≠ b → (TX1 a).2.1 ≠ (TX1 b).2.1 := by decide +kernel
theorem tyX1_ok : ∀ k, k < 10 → parseFieldDescriptor (TX1 k).2.2.1 = some (tyX1 k) := by decide +kernel
def RX2 : String := "CometKin$Life"
def TX2 : u_T := fun k => match k with
  | 0 => ("CometKin$Life", "year", "I", false)
  | 1 => ("CometKin$Life", "living", "I", false)
  | 2 => ("CometKin$Life", "debts", "I", false)
  | 3 => ("CometKin$Life", "paid", "I", false)
  | 4 => ("CometKin$Life", "married", "LCometKin$Row;", true)
  | 5 => ("CometKin$Life", "gold", "LCometKin$Row;", true)
  | 6 => ("CometKin$Life", "debtor", "LCometKin$Row;", true)
  | 7 => ("CometKin$Life", "creditor", "LCometKin$Row;", true)
  | 8 => ("CometKin$Life", "owed", "LCometKin$Row;", true)
  | _ => ("CometKin$Life", "since", "LCometKin$Row;", true)
def tyX2 : Nat → FieldType := fun k => match k with
  | 0 => .int
  | 1 => .int
  | 2 => .int
  | 3 => .int
  | 4 => .object "CometKin$Row"
  | 5 => .object "CometKin$Row"
  | 6 => .object "CometKin$Row"
  | 7 => .object "CometKin$Row"
  | 8 => .object "CometKin$Row"
  | _ => .object "CometKin$Row"
abbrev wsX20 : List Cond := u_ws RX2 TX2 10
theorem nmX2 : ∀ a, a < 10 → ∀ b, b < 10 → a ≠ b → (TX2 a).2.1 ≠ (TX2 b).2.1 := by decide +kernel
theorem tyX2_ok : ∀ k, k < 10 → parseFieldDescriptor (TX2 k).2.2.1 = some (tyX2 k) := by decide +kernel
def RX3 : String := "CometKin$Row"
def TX3 : u_T := fun k => match k with
  | _ => ("CometKin$Row", "cells", "[I", true)
def tyX3 : Nat → FieldType := fun k => match k with
  | _ => .array .int
abbrev wsX30 : List Cond := u_ws RX3 TX3 1
theorem nmX3 : ∀ a, a < 1 → ∀ b, b < 1 → a ≠ b → (TX3 a).2.1 ≠ (TX3 b).2.1 := by decide +kernel
theorem tyX3_ok : ∀ k, k < 1 → parseFieldDescriptor (TX3 k).2.2.1 = some (tyX3 k) := by decide +kernel
def RX4 : String := "CometKin$Shelf"
def TX4 : u_T := fun k => match k with
  | _ => ("CometKin$Shelf", "lives", "[LCometKin$Life;", true)
def tyX4 : Nat → FieldType := fun k => match k with
  | _ => .array (.object "CometKin$Life")
abbrev wsX40 : List Cond := u_ws RX4 TX4 1
theorem nmX4 : ∀ a, a < 1 → ∀ b, b < 1 → a ≠ b → (TX4 a).2.1 ≠ (TX4 b).2.1 := by decide +kernel
theorem tyX4_ok : ∀ k, k < 1 → parseFieldDescriptor (TX4 k).2.2.1 = some (tyX4 k) := by decide +kernel
def RX5 : String := "CometKin$Text"
def TX5 : u_T := fun k => match k with
  | 0 => ("CometKin$Text", "letters", "LCometKin$Row;", true)
  | 1 => ("CometKin$Text", "length", "I", false)
  | 2 => ("CometKin$Text", "place", "I", false)
  | 3 => ("CometKin$Text", "faultPlace", "I", false)
  | _ => ("CometKin$Text", "clauses", "I", false)
def tyX5 : Nat → FieldType := fun k => match k with
  | 0 => .object "CometKin$Row"
  | 1 => .int
  | 2 => .int
  | 3 => .int
  | _ => .int
abbrev wsX50 : List Cond := u_ws RX5 TX5 5
theorem nmX5 : ∀ a, a < 5 → ∀ b, b < 5 → a ≠ b → (TX5 a).2.1 ≠ (TX5 b).2.1 := by decide +kernel
theorem tyX5_ok : ∀ k, k < 5 → parseFieldDescriptor (TX5 k).2.2.1 = some (tyX5 k) := by decide +kernel
def RX6 : String := "CometKin"
def TX6 : u_T := fun k => match k with
  | 0 => ("CometKin", "text", "LCometKin$Text;", true)
  | 1 => ("CometKin", "told", "LCometKin$Country;", true)
  | 2 => ("CometKin", "draft", "LCometKin$Country;", true)
  | 3 => ("CometKin", "now", "LCometKin$Life;", true)
  | 4 => ("CometKin", "past", "LCometKin$Shelf;", true)
  | 5 => ("CometKin", "nextPast", "I", false)
  | 6 => ("CometKin", "undoable", "I", false)
  | 7 => ("CometKin", "kept", "LCometKin$Shelf;", true)
  | 8 => ("CometKin", "keptPlaces", "I", false)
  | 9 => ("CometKin", "feasts", "LCometKin$Feasts;", true)
  | _ => ("CometKin", "matches", "LCometKin$Row;", true)
def tyX6 : Nat → FieldType := fun k => match k with
  | 0 => .object "CometKin$Text"
  | 1 => .object "CometKin$Country"
  | 2 => .object "CometKin$Country"
  | 3 => .object "CometKin$Life"
  | 4 => .object "CometKin$Shelf"
  | 5 => .int
  | 6 => .int
  | 7 => .object "CometKin$Shelf"
  | 8 => .int
  | 9 => .object "CometKin$Feasts"
  | _ => .object "CometKin$Row"
abbrev wsX60 : List Cond := u_ws RX6 TX6 11
theorem nmX6 : ∀ a, a < 11 → ∀ b, b < 11 → a ≠ b → (TX6 a).2.1 ≠ (TX6 b).2.1 := by decide +kernel
theorem tyX6_ok : ∀ k, k < 11 → parseFieldDescriptor (TX6 k).2.2.1 = some (tyX6 k) := by decide +kernel
def RX7 : String := "CometKinModel"
def TX7 : u_T := fun k => match k with
  | 0 => ("CometKinModel", "row", "[I", true)
  | 1 => ("CometKinModel", "pastMany", "I", false)
  | 2 => ("CometKinModel", "isKept", "[Z", true)
  | 3 => ("CometKinModel", "text", "[I", true)
  | 4 => ("CometKinModel", "length", "I", false)
  | 5 => ("CometKinModel", "read", "[I", true)
  | 6 => ("CometKinModel", "readMany", "I", false)
  | 7 => ("CometKinModel", "people", "I", false)
  | 8 => ("CometKinModel", "folk", "[I", true)
  | 9 => ("CometKinModel", "births", "[I", true)
  | 10 => ("CometKinModel", "mothers", "[I", true)
  | 11 => ("CometKinModel", "fathers", "[I", true)
  | 12 => ("CometKinModel", "golds", "[I", true)
  | 13 => ("CometKinModel", "comets", "I", false)
  | 14 => ("CometKinModel", "kinds", "[I", true)
  | 15 => ("CometKinModel", "years", "[I", true)
  | 16 => ("CometKinModel", "law", "I", false)
  | 17 => ("CometKinModel", "at", "I", false)
  | 18 => ("CometKinModel", "place", "I", false)
  | 19 => ("CometKinModel", "end", "I", false)
  | 20 => ("CometKinModel", "readPeople", "I", false)
  | 21 => ("CometKinModel", "readComets", "I", false)
  | 22 => ("CometKinModel", "leftOut", "I", false)
  | 23 => ("CometKinModel", "seen", "[Z", true)
  | 24 => ("CometKinModel", "mosts", "[I", true)
  | 25 => ("CometKinModel", "mates", "[I", true)
  | 26 => ("CometKinModel", "feasts", "[I", true)
  | 27 => ("CometKinModel", "feastMany", "I", false)
  | 28 => ("CometKinModel", "aside", "[I", true)
  | 29 => ("CometKinModel", "firsts", "[I", true)
  | 30 => ("CometKinModel", "waysMany", "I", false)
  | _ => ("CometKinModel", "sameSet", "I", false)
def tyX7 : Nat → FieldType := fun k => match k with
  | 0 => .array .int
  | 1 => .int
  | 2 => .array .boolean
  | 3 => .array .int
  | 4 => .int
  | 5 => .array .int
  | 6 => .int
  | 7 => .int
  | 8 => .array .int
  | 9 => .array .int
  | 10 => .array .int
  | 11 => .array .int
  | 12 => .array .int
  | 13 => .int
  | 14 => .array .int
  | 15 => .array .int
  | 16 => .int
  | 17 => .int
  | 18 => .int
  | 19 => .int
  | 20 => .int
  | 21 => .int
  | 22 => .int
  | 23 => .array .boolean
  | 24 => .array .int
  | 25 => .array .int
  | 26 => .array .int
  | 27 => .int
  | 28 => .array .int
  | 29 => .array .int
  | 30 => .int
  | _ => .int
abbrev wsX70 : List Cond := u_ws RX7 TX7 32
theorem nmX7 : ∀ a, a < 32 → ∀ b, b < 32 → a ≠ b → (TX7 a).2.1 ≠ (TX7 b).2.1 := by decide +kernel
theorem tyX7_ok : ∀ k, k < 32 → parseFieldDescriptor (TX7 k).2.2.1 = some (tyX7 k) := by decide +kernel
def RJ6 : String := "java/lang/Integer"
def RJ9 : String := "java/lang/Math"
def RJ0 : String := "java/lang/String"
def RJ1 : String := "java/lang/StringLatin1"
def RJ3 : String := "jdk/internal/util/Preconditions"
def RL : String := "CometKinLaw"
abbrev cX0_init : ByteArray := prog_2_method_1_code
def yX0_init : MethodName := ⟨RX0, "<init>", "()V"⟩
abbrev cX0_copyFrom : ByteArray := prog_2_method_2_code
def yX0_copyFrom : MethodName := ⟨RX0, "copyFrom", "(LCometKin$Country;)V"⟩
abbrev cX0_clear : ByteArray := prog_2_method_3_code
def yX0_clear : MethodName := ⟨RX0, "clear", "()V"⟩
abbrev cX0_hasOne : ByteArray := prog_2_method_4_code
def yX0_hasOne : MethodName := ⟨RX0, "hasOne", "(I)Z"⟩
abbrev cX0_hasTwo : ByteArray := prog_2_method_5_code
def yX0_hasTwo : MethodName := ⟨RX0, "hasTwo", "(II)Z"⟩
abbrev cX0_hasComet : ByteArray := prog_2_method_6_code
def yX0_hasComet : MethodName := ⟨RX0, "hasComet", "(I)Z"⟩
abbrev cX0_addOne : ByteArray := prog_2_method_7_code
def yX0_addOne : MethodName := ⟨RX0, "addOne", "(II)I"⟩
abbrev cX0_setParents : ByteArray := prog_2_method_8_code
def yX0_setParents : MethodName := ⟨RX0, "setParents", "(III)V"⟩
abbrev cX0_addComet : ByteArray := prog_2_method_9_code
def yX0_addComet : MethodName := ⟨RX0, "addComet", "(II)V"⟩
abbrev cX0_dropComet : ByteArray := prog_2_method_10_code
def yX0_dropComet : MethodName := ⟨RX0, "dropComet", "(I)V"⟩
abbrev cX0_findCancelled : ByteArray := prog_2_method_11_code
def yX0_findCancelled : MethodName := ⟨RX0, "findCancelled", "()V"⟩
abbrev cX0_latestAheadOf : ByteArray := prog_2_method_12_code
def yX0_latestAheadOf : MethodName := ⟨RX0, "latestAheadOf", "(I)I"⟩
abbrev cX0_isAhead : ByteArray := prog_2_method_13_code
def yX0_isAhead : MethodName := ⟨RX0, "isAhead", "(II)Z"⟩
abbrev cX0_findSight : ByteArray := prog_2_method_14_code
def yX0_findSight : MethodName := ⟨RX0, "findSight", "()V"⟩
abbrev cX0_seenBy : ByteArray := prog_2_method_15_code
def yX0_seenBy : MethodName := ⟨RX0, "seenBy", "(I)I"⟩
abbrev cX0_whoSees : ByteArray := prog_2_method_16_code
def yX0_whoSees : MethodName := ⟨RX0, "whoSees", "(I)I"⟩
abbrev cX0_latestYear : ByteArray := prog_2_method_17_code
def yX0_latestYear : MethodName := ⟨RX0, "latestYear", "(II)I"⟩
abbrev cX0_secondYear : ByteArray := prog_2_method_18_code
def yX0_secondYear : MethodName := ⟨RX0, "secondYear", "(II)I"⟩
abbrev cX0_stepFrom : ByteArray := prog_2_method_19_code
def yX0_stepFrom : MethodName := ⟨RX0, "stepFrom", "(II)I"⟩
abbrev cX0_allReached : ByteArray := prog_2_method_20_code
def yX0_allReached : MethodName := ⟨RX0, "allReached", "(II)I"⟩
abbrev cX0_degreeOf : ByteArray := prog_2_method_21_code
def yX0_degreeOf : MethodName := ⟨RX0, "degreeOf", "(III)I"⟩
abbrev cX0_kinOf : ByteArray := prog_2_method_22_code
def yX0_kinOf : MethodName := ⟨RX0, "kinOf", "(II)I"⟩
abbrev cX0_pairsOfKin : ByteArray := prog_2_method_23_code
def yX0_pairsOfKin : MethodName := ⟨RX0, "pairsOfKin", "(I)I"⟩
abbrev cX0_makersOfKin : ByteArray := prog_2_method_24_code
def yX0_makersOfKin : MethodName := ⟨RX0, "makersOfKin", "(III)I"⟩
abbrev cX1_init : ByteArray := prog_3_method_1_code
def yX1_init : MethodName := ⟨RX1, "<init>", "()V"⟩
abbrev cX1_add : ByteArray := prog_3_method_2_code
def yX1_add : MethodName := ⟨RX1, "add", "(IIII)Z"⟩
abbrev cX1_clear : ByteArray := prog_3_method_3_code
def yX1_clear : MethodName := ⟨RX1, "clear", "()I"⟩
abbrev cX1_weigh : ByteArray := prog_3_method_4_code
def yX1_weigh : MethodName := ⟨RX1, "weigh", "(LCometKin$Country;)V"⟩
abbrev cX1_waysOf : ByteArray := prog_3_method_5_code
def yX1_waysOf : MethodName := ⟨RX1, "waysOf", "(LCometKin$Country;)I"⟩
abbrev cX1_tryWay : ByteArray := prog_3_method_6_code
def yX1_tryWay : MethodName := ⟨RX1, "tryWay", "(LCometKin$Country;I)V"⟩
abbrev cX1_allFit : ByteArray := prog_3_method_7_code
def yX1_allFit : MethodName := ⟨RX1, "allFit", "(LCometKin$Country;)Z"⟩
abbrev cX1_takeTruth : ByteArray := prog_3_method_8_code
def yX1_takeTruth : MethodName := ⟨RX1, "takeTruth", "(LCometKin$Country;)V"⟩
abbrev cX1_alwaysOfOneKind : ByteArray := prog_3_method_9_code
def yX1_alwaysOfOneKind : MethodName := ⟨RX1, "alwaysOfOneKind", "()I"⟩
abbrev cX2_init : ByteArray := prog_4_method_1_code
def yX2_init : MethodName := ⟨RX2, "<init>", "()V"⟩
abbrev cX2_beginIn : ByteArray := prog_4_method_2_code
def yX2_beginIn : MethodName := ⟨RX2, "beginIn", "(LCometKin$Country;)V"⟩
abbrev cX2_copyFrom : ByteArray := prog_4_method_3_code
def yX2_copyFrom : MethodName := ⟨RX2, "copyFrom", "(LCometKin$Life;)V"⟩
abbrev cX2_hasDebt : ByteArray := prog_4_method_4_code
def yX2_hasDebt : MethodName := ⟨RX2, "hasDebt", "(I)Z"⟩
abbrev cX2_addDebt : ByteArray := prog_4_method_5_code
def yX2_addDebt : MethodName := ⟨RX2, "addDebt", "(III)I"⟩
abbrev cX2_addGold : ByteArray := prog_4_method_6_code
def yX2_addGold : MethodName := ⟨RX2, "addGold", "(II)V"⟩
abbrev cX2_goldOfAll : ByteArray := prog_4_method_7_code
def yX2_goldOfAll : MethodName := ⟨RX2, "goldOfAll", "(I)I"⟩
abbrev cX2_bury : ByteArray := prog_4_method_8_code
def yX2_bury : MethodName := ⟨RX2, "bury", "(I)V"⟩
abbrev cX3_init : ByteArray := prog_5_method_1_code
def yX3_init : MethodName := ⟨RX3, "<init>", "(I)V"⟩
abbrev cX3_get : ByteArray := prog_5_method_2_code
def yX3_get : MethodName := ⟨RX3, "get", "(I)I"⟩
abbrev cX3_set : ByteArray := prog_5_method_3_code
def yX3_set : MethodName := ⟨RX3, "set", "(II)V"⟩
abbrev cX3_add : ByteArray := prog_5_method_4_code
def yX3_add : MethodName := ⟨RX3, "add", "(II)V"⟩
abbrev cX3_fill : ByteArray := prog_5_method_5_code
def yX3_fill : MethodName := ⟨RX3, "fill", "(I)V"⟩
abbrev cX3_copyFrom : ByteArray := prog_5_method_6_code
def yX3_copyFrom : MethodName := ⟨RX3, "copyFrom", "(LCometKin$Row;)V"⟩
abbrev cX4_init : ByteArray := prog_6_method_1_code
def yX4_init : MethodName := ⟨RX4, "<init>", "(I)V"⟩
abbrev cX4_at : ByteArray := prog_6_method_2_code
def yX4_at : MethodName := ⟨RX4, "at", "(I)LCometKin$Life;"⟩
abbrev cX4_store : ByteArray := prog_6_method_3_code
def yX4_store : MethodName := ⟨RX4, "store", "(ILCometKin$Life;)V"⟩
abbrev cX4_fetch : ByteArray := prog_6_method_4_code
def yX4_fetch : MethodName := ⟨RX4, "fetch", "(ILCometKin$Life;)V"⟩
abbrev cX5_init : ByteArray := prog_7_method_1_code
def yX5_init : MethodName := ⟨RX5, "<init>", "()V"⟩
abbrev cX5_append : ByteArray := prog_7_method_2_code
def yX5_append : MethodName := ⟨RX5, "append", "(I)Z"⟩
abbrev cX5_clear : ByteArray := prog_7_method_3_code
def yX5_clear : MethodName := ⟨RX5, "clear", "()I"⟩
abbrev cX5_readInto : ByteArray := prog_7_method_4_code
def yX5_readInto : MethodName := ⟨RX5, "readInto", "(LCometKin$Country;)V"⟩
abbrev cX5_readSeparator : ByteArray := prog_7_method_5_code
def yX5_readSeparator : MethodName := ⟨RX5, "readSeparator", "()Z"⟩
abbrev cX5_readClause : ByteArray := prog_7_method_6_code
def yX5_readClause : MethodName := ⟨RX5, "readClause", "(LCometKin$Country;)V"⟩
abbrev cX5_cometKindOf : ByteArray := prog_7_method_7_code
def yX5_cometKindOf : MethodName := ⟨RX5, "cometKindOf", "(I)I"⟩
abbrev cX5_kindOf : ByteArray := prog_7_method_8_code
def yX5_kindOf : MethodName := ⟨RX5, "kindOf", "(I)I"⟩
abbrev cX5_readParents : ByteArray := prog_7_method_9_code
def yX5_readParents : MethodName := ⟨RX5, "readParents", "(LCometKin$Country;Z)V"⟩
abbrev cX5_readWord : ByteArray := prog_7_method_10_code
def yX5_readWord : MethodName := ⟨RX5, "readWord", "(LCometKin$Country;)I"⟩
abbrev cX5_canStand : ByteArray := prog_7_method_11_code
def yX5_canStand : MethodName := ⟨RX5, "canStand", "(ILCometKin$Country;)Z"⟩
abbrev cX5_spelling : ByteArray := prog_7_method_12_code
def yX5_spelling : MethodName := ⟨RX5, "spelling", "(I)Ljava/lang/String;"⟩
abbrev cX5_isSpelled : ByteArray := prog_7_method_13_code
def yX5_isSpelled : MethodName := ⟨RX5, "isSpelled", "(Ljava/lang/String;I)Z"⟩
abbrev cX5_readNumber : ByteArray := prog_7_method_14_code
def yX5_readNumber : MethodName := ⟨RX5, "readNumber", "(II)I"⟩
abbrev cX5_skipBlanks : ByteArray := prog_7_method_15_code
def yX5_skipBlanks : MethodName := ⟨RX5, "skipBlanks", "()V"⟩
abbrev cX5_isWithin : ByteArray := prog_7_method_16_code
def yX5_isWithin : MethodName := ⟨RX5, "isWithin", "(ICC)Z"⟩
abbrev cX6_init : ByteArray := prog_1_method_1_code
def yX6_init : MethodName := ⟨RX6, "<init>", "()V"⟩
abbrev cX6_write : ByteArray := prog_1_method_2_code
def yX6_write : MethodName := ⟨RX6, "write", "(I)I"⟩
abbrev cX6_erase : ByteArray := prog_1_method_3_code
def yX6_erase : MethodName := ⟨RX6, "erase", "()I"⟩
abbrev cX6_fault : ByteArray := prog_1_method_4_code
def yX6_fault : MethodName := ⟨RX6, "fault", "()I"⟩
abbrev cX6_land : ByteArray := prog_1_method_5_code
def yX6_land : MethodName := ⟨RX6, "land", "()I"⟩
abbrev cX6_one : ByteArray := prog_1_method_6_code
def yX6_one : MethodName := ⟨RX6, "one", "(II)I"⟩
abbrev cX6_comet : ByteArray := prog_1_method_7_code
def yX6_comet : MethodName := ⟨RX6, "comet", "(II)I"⟩
abbrev cX6_as : ByteArray := prog_1_method_8_code
def yX6_as : MethodName := ⟨RX6, "as", "(II)I"⟩
abbrev cX6_cometAs : ByteArray := prog_1_method_9_code
def yX6_cometAs : MethodName := ⟨RX6, "cometAs", "(II)I"⟩
abbrev cX6_degree : ByteArray := prog_1_method_10_code
def yX6_degree : MethodName := ⟨RX6, "degree", "(III)I"⟩
abbrev cX6_kin : ByteArray := prog_1_method_11_code
def yX6_kin : MethodName := ⟨RX6, "kin", "(II)I"⟩
abbrev cX6_go : ByteArray := prog_1_method_12_code
def yX6_go : MethodName := ⟨RX6, "go", "(I)I"⟩
abbrev cX6_may : ByteArray := prog_1_method_13_code
def yX6_may : MethodName := ⟨RX6, "may", "(II)I"⟩
abbrev cX6_wed : ByteArray := prog_1_method_14_code
def yX6_wed : MethodName := ⟨RX6, "wed", "(II)I"⟩
abbrev cX6_die : ByteArray := prog_1_method_15_code
def yX6_die : MethodName := ⟨RX6, "die", "(I)I"⟩
abbrev cX6_owe : ByteArray := prog_1_method_16_code
def yX6_owe : MethodName := ⟨RX6, "owe", "(III)I"⟩
abbrev cX6_debt : ByteArray := prog_1_method_17_code
def yX6_debt : MethodName := ⟨RX6, "debt", "(II)I"⟩
abbrev cX6_pay : ByteArray := prog_1_method_18_code
def yX6_pay : MethodName := ⟨RX6, "pay", "(I)I"⟩
abbrev cX6_undo : ByteArray := prog_1_method_19_code
def yX6_undo : MethodName := ⟨RX6, "undo", "()I"⟩
abbrev cX6_keep : ByteArray := prog_1_method_20_code
def yX6_keep : MethodName := ⟨RX6, "keep", "(I)I"⟩
abbrev cX6_back : ByteArray := prog_1_method_21_code
def yX6_back : MethodName := ⟨RX6, "back", "(I)I"⟩
abbrev cX6_first : ByteArray := prog_1_method_22_code
def yX6_first : MethodName := ⟨RX6, "first", "(III)I"⟩
abbrev cX6_last : ByteArray := prog_1_method_23_code
def yX6_last : MethodName := ⟨RX6, "last", "(II)I"⟩
abbrev cX6_bestBorn : ByteArray := prog_1_method_24_code
def yX6_bestBorn : MethodName := ⟨RX6, "bestBorn", "(IIII)I"⟩
abbrev cX6_weddings : ByteArray := prog_1_method_25_code
def yX6_weddings : MethodName := ⟨RX6, "weddings", "(I)I"⟩
abbrev cX6_makes : ByteArray := prog_1_method_26_code
def yX6_makes : MethodName := ⟨RX6, "makes", "(I)I"⟩
abbrev cX6_feasted : ByteArray := prog_1_method_27_code
def yX6_feasted : MethodName := ⟨RX6, "feasted", "(IIII)I"⟩
abbrev cX6_forget : ByteArray := prog_1_method_28_code
def yX6_forget : MethodName := ⟨RX6, "forget", "()I"⟩
abbrev cX6_truths : ByteArray := prog_1_method_29_code
def yX6_truths : MethodName := ⟨RX6, "truths", "(I)I"⟩
abbrev cX6_truth : ByteArray := prog_1_method_30_code
def yX6_truth : MethodName := ⟨RX6, "truth", "(I)I"⟩
abbrev cX6_left : ByteArray := prog_1_method_31_code
def yX6_left : MethodName := ⟨RX6, "left", "(IIII)J"⟩
abbrev cX6_count : ByteArray := prog_1_method_32_code
def yX6_count : MethodName := ⟨RX6, "count", "(I)I"⟩
abbrev cX6_isYear : ByteArray := prog_1_method_33_code
def yX6_isYear : MethodName := ⟨RX6, "isYear", "(I)Z"⟩
abbrev cX6_bit : ByteArray := prog_1_method_34_code
def yX6_bit : MethodName := ⟨RX6, "bit", "(I)I"⟩
abbrev cX6_has : ByteArray := prog_1_method_35_code
def yX6_has : MethodName := ⟨RX6, "has", "(II)Z"⟩
abbrev cX6_lowest : ByteArray := prog_1_method_36_code
def yX6_lowest : MethodName := ⟨RX6, "lowest", "(I)I"⟩
abbrev cX6_isSuch : ByteArray := prog_1_method_37_code
def yX6_isSuch : MethodName := ⟨RX6, "isSuch", "(II[I)Z"⟩
abbrev cX6_sightOf : ByteArray := prog_1_method_38_code
def yX6_sightOf : MethodName := ⟨RX6, "sightOf", "(I)I"⟩
abbrev cX6_remember : ByteArray := prog_1_method_39_code
def yX6_remember : MethodName := ⟨RX6, "remember", "()V"⟩
abbrev cX6_bothLive : ByteArray := prog_1_method_40_code
def yX6_bothLive : MethodName := ⟨RX6, "bothLive", "(II)Z"⟩
abbrev cX6_areKinWithin : ByteArray := prog_1_method_41_code
def yX6_areKinWithin : MethodName := ⟨RX6, "areKinWithin", "(IIII)Z"⟩
abbrev cX6_isFree : ByteArray := prog_1_method_42_code
def yX6_isFree : MethodName := ⟨RX6, "isFree", "(I)Z"⟩
abbrev cX6_mayMarry : ByteArray := prog_1_method_43_code
def yX6_mayMarry : MethodName := ⟨RX6, "mayMarry", "(II)Z"⟩
abbrev cX6_marriages : ByteArray := prog_1_method_44_code
def yX6_marriages : MethodName := ⟨RX6, "marriages", "()I"⟩
abbrev cX6_nearestLiving : ByteArray := prog_1_method_45_code
def yX6_nearestLiving : MethodName := ⟨RX6, "nearestLiving", "(I)I"⟩
abbrev cX6_shareOut : ByteArray := prog_1_method_46_code
def yX6_shareOut : MethodName := ⟨RX6, "shareOut", "(II)I"⟩
abbrev cX6_dueYear : ByteArray := prog_1_method_47_code
def yX6_dueYear : MethodName := ⟨RX6, "dueYear", "(I)I"⟩
abbrev cX6_canBePaid : ByteArray := prog_1_method_48_code
def yX6_canBePaid : MethodName := ⟨RX6, "canBePaid", "(I)Z"⟩
abbrev cX6_livingKinOfChild : ByteArray := prog_1_method_49_code
def yX6_livingKinOfChild : MethodName := ⟨RX6, "livingKinOfChild", "(IIII)I"⟩
abbrev cX6_findMatches : ByteArray := prog_1_method_50_code
def yX6_findMatches : MethodName := ⟨RX6, "findMatches", "()V"⟩
abbrev cX6_firstPartner : ByteArray := prog_1_method_51_code
def yX6_firstPartner : MethodName := ⟨RX6, "firstPartner", "(II)I"⟩
abbrev cX6_mostPairs : ByteArray := prog_1_method_52_code
def yX6_mostPairs : MethodName := ⟨RX6, "mostPairs", "(LCometKin$Row;II)I"⟩
abbrev cX6_leastOf : ByteArray := prog_1_method_53_code
def yX6_leastOf : MethodName := ⟨RX6, "leastOf", "(I)I"⟩
abbrev cX6_weighFeasts : ByteArray := prog_1_method_54_code
def yX6_weighFeasts : MethodName := ⟨RX6, "weighFeasts", "()V"⟩
abbrev cX6_waysToChoose : ByteArray := prog_1_method_55_code
def yX6_waysToChoose : MethodName := ⟨RX6, "waysToChoose", "(II)J"⟩
abbrev cX6_power : ByteArray := prog_1_method_56_code
def yX6_power : MethodName := ⟨RX6, "power", "(II)J"⟩
abbrev cX6_commonDivisor : ByteArray := prog_1_method_57_code
def yX6_commonDivisor : MethodName := ⟨RX6, "commonDivisor", "(JJ)J"⟩
abbrev cX7_init : ByteArray := prog_9_method_1_code
def yX7_init : MethodName := ⟨RX7, "<init>", "()V"⟩
abbrev cX7_in : ByteArray := prog_9_method_2_code
def yX7_in : MethodName := ⟨RX7, "in", "(JJJ)Z"⟩
abbrev cX7_has : ByteArray := prog_9_method_3_code
def yX7_has : MethodName := ⟨RX7, "has", "(II)Z"⟩
abbrev cX7_bits : ByteArray := prog_9_method_4_code
def yX7_bits : MethodName := ⟨RX7, "bits", "(I)I"⟩
abbrev cX7_write : ByteArray := prog_9_method_5_code
def yX7_write : MethodName := ⟨RX7, "write", "(I)I"⟩
abbrev cX7_erase : ByteArray := prog_9_method_6_code
def yX7_erase : MethodName := ⟨RX7, "erase", "()I"⟩
abbrev cX7_sort : ByteArray := prog_9_method_7_code
def yX7_sort : MethodName := ⟨RX7, "sort", "(I)I"⟩
abbrev cX7_token : ByteArray := prog_9_method_8_code
def yX7_token : MethodName := ⟨RX7, "token", "()V"⟩
abbrev cX7_isWord : ByteArray := prog_9_method_9_code
def yX7_isWord : MethodName := ⟨RX7, "isWord", "(III)Z"⟩
abbrev cX7_cometWord : ByteArray := prog_9_method_10_code
def yX7_cometWord : MethodName := ⟨RX7, "cometWord", "()I"⟩
abbrev cX7_folkWord : ByteArray := prog_9_method_11_code
def yX7_folkWord : MethodName := ⟨RX7, "folkWord", "()I"⟩
abbrev cX7_wordOf : ByteArray := prog_9_method_12_code
def yX7_wordOf : MethodName := ⟨RX7, "wordOf", "()I"⟩
abbrev cX7_reads : ByteArray := prog_9_method_13_code
def yX7_reads : MethodName := ⟨RX7, "reads", "(III)Z"⟩
abbrev cX7_isCometWord : ByteArray := prog_9_method_14_code
def yX7_isCometWord : MethodName := ⟨RX7, "isCometWord", "(I)Z"⟩
abbrev cX7_isFolkWord : ByteArray := prog_9_method_15_code
def yX7_isFolkWord : MethodName := ⟨RX7, "isFolkWord", "(I)Z"⟩
abbrev cX7_readsRest : ByteArray := prog_9_method_16_code
def yX7_readsRest : MethodName := ⟨RX7, "readsRest", "(I)Z"⟩
abbrev cX7_readsClause : ByteArray := prog_9_method_17_code
def yX7_readsClause : MethodName := ⟨RX7, "readsClause", "()Z"⟩
abbrev cX7_fault : ByteArray := prog_9_method_18_code
def yX7_fault : MethodName := ⟨RX7, "fault", "()I"⟩
abbrev cX7_addOne : ByteArray := prog_9_method_19_code
def yX7_addOne : MethodName := ⟨RX7, "addOne", "(II)V"⟩
abbrev cX7_addComet : ByteArray := prog_9_method_20_code
def yX7_addComet : MethodName := ⟨RX7, "addComet", "(II)V"⟩
abbrev cX7_tell : ByteArray := prog_9_method_21_code
def yX7_tell : MethodName := ⟨RX7, "tell", "(I)V"⟩
abbrev cX7_begin : ByteArray := prog_9_method_22_code
def yX7_begin : MethodName := ⟨RX7, "begin", "()V"⟩
abbrev cX7_land : ByteArray := prog_9_method_23_code
def yX7_land : MethodName := ⟨RX7, "land", "()I"⟩
abbrev cX7_isAhead : ByteArray := prog_9_method_24_code
def yX7_isAhead : MethodName := ⟨RX7, "isAhead", "(II)Z"⟩
abbrev cX7_isThere : ByteArray := prog_9_method_25_code
def yX7_isThere : MethodName := ⟨RX7, "isThere", "(I)Z"⟩
abbrev cX7_cancelledBy : ByteArray := prog_9_method_26_code
def yX7_cancelledBy : MethodName := ⟨RX7, "cancelledBy", "(I)I"⟩
abbrev cX7_isCancelled : ByteArray := prog_9_method_27_code
def yX7_isCancelled : MethodName := ⟨RX7, "isCancelled", "(I)Z"⟩
abbrev cX7_wouldSee : ByteArray := prog_9_method_28_code
def yX7_wouldSee : MethodName := ⟨RX7, "wouldSee", "(IZ)Z"⟩
abbrev cX7_sees : ByteArray := prog_9_method_29_code
def yX7_sees : MethodName := ⟨RX7, "sees", "(II)Z"⟩
abbrev cX7_laySeen : ByteArray := prog_9_method_30_code
def yX7_laySeen : MethodName := ⟨RX7, "laySeen", "(II)V"⟩
abbrev cX7_counts : ByteArray := prog_9_method_31_code
def yX7_counts : MethodName := ⟨RX7, "counts", "(II)Z"⟩
abbrev cX7_stepFrom : ByteArray := prog_9_method_32_code
def yX7_stepFrom : MethodName := ⟨RX7, "stepFrom", "(II)I"⟩
abbrev cX7_degreeOf : ByteArray := prog_9_method_33_code
def yX7_degreeOf : MethodName := ⟨RX7, "degreeOf", "(III)I"⟩
abbrev cX7_kinOf : ByteArray := prog_9_method_34_code
def yX7_kinOf : MethodName := ⟨RX7, "kinOf", "(II)I"⟩
abbrev cX7_areNear : ByteArray := prog_9_method_35_code
def yX7_areNear : MethodName := ⟨RX7, "areNear", "(III)Z"⟩
abbrev cX7_isOne : ByteArray := prog_9_method_36_code
def yX7_isOne : MethodName := ⟨RX7, "isOne", "(I)Z"⟩
abbrev cX7_areTwo : ByteArray := prog_9_method_37_code
def yX7_areTwo : MethodName := ⟨RX7, "areTwo", "(II)Z"⟩
abbrev cX7_isComet : ByteArray := prog_9_method_38_code
def yX7_isComet : MethodName := ⟨RX7, "isComet", "(I)Z"⟩
abbrev cX7_isYear : ByteArray := prog_9_method_39_code
def yX7_isYear : MethodName := ⟨RX7, "isYear", "(I)Z"⟩
abbrev cX7_one : ByteArray := prog_9_method_40_code
def yX7_one : MethodName := ⟨RX7, "one", "(II)I"⟩
abbrev cX7_comet : ByteArray := prog_9_method_41_code
def yX7_comet : MethodName := ⟨RX7, "comet", "(II)I"⟩
abbrev cX7_as : ByteArray := prog_9_method_42_code
def yX7_as : MethodName := ⟨RX7, "as", "(II)I"⟩
abbrev cX7_cometAs : ByteArray := prog_9_method_43_code
def yX7_cometAs : MethodName := ⟨RX7, "cometAs", "(II)I"⟩
abbrev cX7_degree : ByteArray := prog_9_method_44_code
def yX7_degree : MethodName := ⟨RX7, "degree", "(III)I"⟩
abbrev cX7_kin : ByteArray := prog_9_method_45_code
def yX7_kin : MethodName := ⟨RX7, "kin", "(II)I"⟩
abbrev cX7_copy : ByteArray := prog_9_method_46_code
def yX7_copy : MethodName := ⟨RX7, "copy", "(II)V"⟩
abbrev cX7_keepPast : ByteArray := prog_9_method_47_code
def yX7_keepPast : MethodName := ⟨RX7, "keepPast", "()V"⟩
abbrev cX7_go : ByteArray := prog_9_method_48_code
def yX7_go : MethodName := ⟨RX7, "go", "(I)I"⟩
abbrev cX7_isFree : ByteArray := prog_9_method_49_code
def yX7_isFree : MethodName := ⟨RX7, "isFree", "(I)Z"⟩
abbrev cX7_mayMarry : ByteArray := prog_9_method_50_code
def yX7_mayMarry : MethodName := ⟨RX7, "mayMarry", "(II)Z"⟩
abbrev cX7_may : ByteArray := prog_9_method_51_code
def yX7_may : MethodName := ⟨RX7, "may", "(II)I"⟩
abbrev cX7_marriages : ByteArray := prog_9_method_52_code
def yX7_marriages : MethodName := ⟨RX7, "marriages", "()I"⟩
abbrev cX7_wed : ByteArray := prog_9_method_53_code
def yX7_wed : MethodName := ⟨RX7, "wed", "(II)I"⟩
abbrev cX7_heirsOf : ByteArray := prog_9_method_54_code
def yX7_heirsOf : MethodName := ⟨RX7, "heirsOf", "(I)I"⟩
abbrev cX7_die : ByteArray := prog_9_method_55_code
def yX7_die : MethodName := ⟨RX7, "die", "(I)I"⟩
abbrev cX7_liveBoth : ByteArray := prog_9_method_56_code
def yX7_liveBoth : MethodName := ⟨RX7, "liveBoth", "(II)Z"⟩
abbrev cX7_owe : ByteArray := prog_9_method_57_code
def yX7_owe : MethodName := ⟨RX7, "owe", "(III)I"⟩
abbrev cX7_dueOf : ByteArray := prog_9_method_58_code
def yX7_dueOf : MethodName := ⟨RX7, "dueOf", "(I)I"⟩
abbrev cX7_isDebt : ByteArray := prog_9_method_59_code
def yX7_isDebt : MethodName := ⟨RX7, "isDebt", "(I)Z"⟩
abbrev cX7_debt : ByteArray := prog_9_method_60_code
def yX7_debt : MethodName := ⟨RX7, "debt", "(II)I"⟩
abbrev cX7_pay : ByteArray := prog_9_method_61_code
def yX7_pay : MethodName := ⟨RX7, "pay", "(I)I"⟩
abbrev cX7_undo : ByteArray := prog_9_method_62_code
def yX7_undo : MethodName := ⟨RX7, "undo", "()I"⟩
abbrev cX7_keep : ByteArray := prog_9_method_63_code
def yX7_keep : MethodName := ⟨RX7, "keep", "(I)I"⟩
abbrev cX7_back : ByteArray := prog_9_method_64_code
def yX7_back : MethodName := ⟨RX7, "back", "(I)I"⟩
abbrev cX7_first : ByteArray := prog_9_method_65_code
def yX7_first : MethodName := ⟨RX7, "first", "(III)I"⟩
abbrev cX7_last : ByteArray := prog_9_method_66_code
def yX7_last : MethodName := ⟨RX7, "last", "(II)I"⟩
abbrev cX7_bestBorn : ByteArray := prog_9_method_67_code
def yX7_bestBorn : MethodName := ⟨RX7, "bestBorn", "(IIII)I"⟩
abbrev cX7_layMosts : ByteArray := prog_9_method_68_code
def yX7_layMosts : MethodName := ⟨RX7, "layMosts", "()V"⟩
abbrev cX7_weddings : ByteArray := prog_9_method_69_code
def yX7_weddings : MethodName := ⟨RX7, "weddings", "(I)I"⟩
abbrev cX7_pairsNow : ByteArray := prog_9_method_70_code
def yX7_pairsNow : MethodName := ⟨RX7, "pairsNow", "()I"⟩
abbrev cX7_makes : ByteArray := prog_9_method_71_code
def yX7_makes : MethodName := ⟨RX7, "makes", "(I)I"⟩
abbrev cX7_feasted : ByteArray := prog_9_method_72_code
def yX7_feasted : MethodName := ⟨RX7, "feasted", "(IIII)I"⟩
abbrev cX7_forget : ByteArray := prog_9_method_73_code
def yX7_forget : MethodName := ⟨RX7, "forget", "()I"⟩
abbrev cX7_isAllSo : ByteArray := prog_9_method_74_code
def yX7_isAllSo : MethodName := ⟨RX7, "isAllSo", "()Z"⟩
abbrev cX7_layWay : ByteArray := prog_9_method_75_code
def yX7_layWay : MethodName := ⟨RX7, "layWay", "(I)V"⟩
abbrev cX7_layTruths : ByteArray := prog_9_method_76_code
def yX7_layTruths : MethodName := ⟨RX7, "layTruths", "()V"⟩
abbrev cX7_truths : ByteArray := prog_9_method_77_code
def yX7_truths : MethodName := ⟨RX7, "truths", "(I)I"⟩
abbrev cX7_truth : ByteArray := prog_9_method_78_code
def yX7_truth : MethodName := ⟨RX7, "truth", "(I)I"⟩
abbrev cX7_divisor : ByteArray := prog_9_method_79_code
def yX7_divisor : MethodName := ⟨RX7, "divisor", "(JJ)J"⟩
abbrev cX7_power : ByteArray := prog_9_method_80_code
def yX7_power : MethodName := ⟨RX7, "power", "(JI)J"⟩
abbrev cX7_left : ByteArray := prog_9_method_81_code
def yX7_left : MethodName := ⟨RX7, "left", "(IIII)J"⟩
abbrev cX7_count : ByteArray := prog_9_method_82_code
def yX7_count : MethodName := ⟨RX7, "count", "(I)I"⟩
abbrev cJ6_compare_7cf53 : ByteArray := prog_10_method_40_code
def yJ6_compare_7cf53 : MethodName := ⟨RJ6, "compare", "(II)I"⟩
abbrev cJ6_bitCount_0f7a4 : ByteArray := prog_10_method_49_code
def yJ6_bitCount_0f7a4 : MethodName := ⟨RJ6, "bitCount", "(I)I"⟩
abbrev cJ9_max_7cf53 : ByteArray := prog_11_method_65_code
def yJ9_max_7cf53 : MethodName := ⟨RJ9, "max", "(II)I"⟩
abbrev cJ9_min_7cf53 : ByteArray := prog_11_method_69_code
def yJ9_min_7cf53 : MethodName := ⟨RJ9, "min", "(II)I"⟩
abbrev cJ0_length_8abf5 : ByteArray := prog_12_method_54_code
def yJ0_length_8abf5 : MethodName := ⟨RJ0, "length", "()I"⟩
abbrev cJ0_charAt_5068e : ByteArray := prog_12_method_56_code
def yJ0_charAt_5068e : MethodName := ⟨RJ0, "charAt", "(I)C"⟩
abbrev cJ0_coder_7d493 : ByteArray := prog_12_method_152_code
def yJ0_coder_7d493 : MethodName := ⟨RJ0, "coder", "()B"⟩
abbrev cJ0_isLatin1_aae02 : ByteArray := prog_12_method_154_code
def yJ0_isLatin1_aae02 : MethodName := ⟨RJ0, "isLatin1", "()Z"⟩
abbrev cJ0_checkIndex_df160 : ByteArray := prog_12_method_155_code
def yJ0_checkIndex_df160 : MethodName := ⟨RJ0, "checkIndex", "(II)V"⟩
abbrev cJ1_charAt_3b067 : ByteArray := prog_13_method_2_code
def yJ1_charAt_3b067 : MethodName := ⟨RJ1, "charAt", "([BI)C"⟩
abbrev cJ3_checkIndex_8e157 : ByteArray := prog_15_method_11_code
def yJ3_checkIndex_8e157 : MethodName := ⟨RJ3, "checkIndex", "(IILjava/util/function/BiFunction;)I"⟩
abbrev cL_law : ByteArray := code
def yL_law : MethodName := ⟨RL, "law", "([I)Z"⟩
abbrev vwCl : List vw_C := [(RX0, TX0, 14), (RX1, TX1, 10), (RX2, TX2, 10), (RX3, TX3, 1), (RX4, TX4, 1), (RX5, TX5, 5), (RX6, TX6, 11), (RX7, TX7, 32)]
