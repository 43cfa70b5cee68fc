section
-- ===== PART A: goes FIRST, ahead of the names: the tables' words, and 'selects' of the private methods out of them =====
/-- a private method of a class that the tables say can be made, by its rows of tables_1 -/
def lw_okq (q : MethodName × Nat) : Prop := (q.1.cls ≠ "java/lang/invoke/MethodHandle" ∧ q.1.cls ≠ "java/lang/invoke/VarHandle") ∧ Cond.instantiable q.1.cls q.2 ∈ tables_1 ∧ Cond.privateMethod q.1 ∈ tables_1 ∧ Cond.instanceMethod q.1 ∈ tables_1
theorem lw_p0 : lw_okq (⟨"LineCollector", "drainUpTo", "(I)V"⟩, 11) := ⟨⟨by decide +kernel, by decide +kernel⟩, List.mem_of_getElem? (i := 18) (by decide +kernel), List.mem_of_getElem? (i := 146) (by decide +kernel), List.mem_of_getElem? (i := 147) (by decide +kernel)⟩
theorem lw_p1 : lw_okq (⟨"LineCollector", "letGo", "(LLineCollector$Item;)V"⟩, 11) := ⟨⟨by decide +kernel, by decide +kernel⟩, List.mem_of_getElem? (i := 18) (by decide +kernel), List.mem_of_getElem? (i := 154) (by decide +kernel), List.mem_of_getElem? (i := 155) (by decide +kernel)⟩
theorem lw_p2 : lw_okq (⟨"LineCollector", "remove", "(LLineCollector$Item;)V"⟩, 11) := ⟨⟨by decide +kernel, by decide +kernel⟩, List.mem_of_getElem? (i := 18) (by decide +kernel), List.mem_of_getElem? (i := 158) (by decide +kernel), List.mem_of_getElem? (i := 159) (by decide +kernel)⟩
theorem lw_p3 : lw_okq (⟨"LineCollector", "countSlots", "()I"⟩, 11) := ⟨⟨by decide +kernel, by decide +kernel⟩, List.mem_of_getElem? (i := 18) (by decide +kernel), List.mem_of_getElem? (i := 190) (by decide +kernel), List.mem_of_getElem? (i := 191) (by decide +kernel)⟩
theorem lw_p4 : lw_okq (⟨"LineCollector", "gatherSlots", "()V"⟩, 11) := ⟨⟨by decide +kernel, by decide +kernel⟩, List.mem_of_getElem? (i := 18) (by decide +kernel), List.mem_of_getElem? (i := 194) (by decide +kernel), List.mem_of_getElem? (i := 195) (by decide +kernel)⟩
theorem lw_p5 : lw_okq (⟨"LineCollector$Places", "openHole", "()Z"⟩, 5) := ⟨⟨by decide +kernel, by decide +kernel⟩, List.mem_of_getElem? (i := 28) (by decide +kernel), List.mem_of_getElem? (i := 230) (by decide +kernel), List.mem_of_getElem? (i := 231) (by decide +kernel)⟩
theorem lw_p6 : lw_okq (⟨"LineCollector$Places", "openOverflow", "()Z"⟩, 5) := ⟨⟨by decide +kernel, by decide +kernel⟩, List.mem_of_getElem? (i := 28) (by decide +kernel), List.mem_of_getElem? (i := 246) (by decide +kernel), List.mem_of_getElem? (i := 247) (by decide +kernel)⟩
theorem lw_p7 : lw_okq (⟨"LineCollector", "moveTo", "(LLineCollector$Item;I)V"⟩, 11) := ⟨⟨by decide +kernel, by decide +kernel⟩, List.mem_of_getElem? (i := 18) (by decide +kernel), List.mem_of_getElem? (i := 250) (by decide +kernel), List.mem_of_getElem? (i := 251) (by decide +kernel)⟩
theorem lw_p8 : lw_okq (⟨"LineCollector", "settle", "(LLineCollector$Item;I)V"⟩, 11) := ⟨⟨by decide +kernel, by decide +kernel⟩, List.mem_of_getElem? (i := 18) (by decide +kernel), List.mem_of_getElem? (i := 258) (by decide +kernel), List.mem_of_getElem? (i := 259) (by decide +kernel)⟩
theorem lw_p9 : lw_okq (⟨"LineCollector", "addFieldsToSlots", "(LLineCollector$Item;)V"⟩, 11) := ⟨⟨by decide +kernel, by decide +kernel⟩, List.mem_of_getElem? (i := 18) (by decide +kernel), List.mem_of_getElem? (i := 266) (by decide +kernel), List.mem_of_getElem? (i := 267) (by decide +kernel)⟩
theorem lw_p10 : lw_okq (⟨"LineCollector", "loseYoung", "()V"⟩, 11) := ⟨⟨by decide +kernel, by decide +kernel⟩, List.mem_of_getElem? (i := 18) (by decide +kernel), List.mem_of_getElem? (i := 274) (by decide +kernel), List.mem_of_getElem? (i := 275) (by decide +kernel)⟩
theorem lw_p11 : lw_okq (⟨"LineCollector", "queueRootsAndLog", "()V"⟩, 11) := ⟨⟨by decide +kernel, by decide +kernel⟩, List.mem_of_getElem? (i := 18) (by decide +kernel), List.mem_of_getElem? (i := 278) (by decide +kernel), List.mem_of_getElem? (i := 279) (by decide +kernel)⟩
theorem lw_p12 : lw_okq (⟨"LineCollector", "countGrey", "()I"⟩, 11) := ⟨⟨by decide +kernel, by decide +kernel⟩, List.mem_of_getElem? (i := 18) (by decide +kernel), List.mem_of_getElem? (i := 290) (by decide +kernel), List.mem_of_getElem? (i := 291) (by decide +kernel)⟩
theorem lw_p13 : lw_okq (⟨"LineCollector", "loseWhite", "()V"⟩, 11) := ⟨⟨by decide +kernel, by decide +kernel⟩, List.mem_of_getElem? (i := 18) (by decide +kernel), List.mem_of_getElem? (i := 294) (by decide +kernel), List.mem_of_getElem? (i := 295) (by decide +kernel)⟩
theorem lw_p14 : lw_okq (⟨"LineCollector", "recountStuck", "()V"⟩, 11) := ⟨⟨by decide +kernel, by decide +kernel⟩, List.mem_of_getElem? (i := 18) (by decide +kernel), List.mem_of_getElem? (i := 299) (by decide +kernel), List.mem_of_getElem? (i := 300) (by decide +kernel)⟩
theorem lw_p15 : lw_okq (⟨"LineCollector", "countHolders", "(LLineCollector$Item;)I"⟩, 11) := ⟨⟨by decide +kernel, by decide +kernel⟩, List.mem_of_getElem? (i := 18) (by decide +kernel), List.mem_of_getElem? (i := 303) (by decide +kernel), List.mem_of_getElem? (i := 304) (by decide +kernel)⟩
def lw_privs_1 : List (MethodName × Nat) := [(⟨"LineCollector", "drainUpTo", "(I)V"⟩, 11), (⟨"LineCollector", "letGo", "(LLineCollector$Item;)V"⟩, 11), (⟨"LineCollector", "remove", "(LLineCollector$Item;)V"⟩, 11), (⟨"LineCollector", "countSlots", "()I"⟩, 11), (⟨"LineCollector", "gatherSlots", "()V"⟩, 11), (⟨"LineCollector$Places", "openHole", "()Z"⟩, 5), (⟨"LineCollector$Places", "openOverflow", "()Z"⟩, 5), (⟨"LineCollector", "moveTo", "(LLineCollector$Item;I)V"⟩, 11), (⟨"LineCollector", "settle", "(LLineCollector$Item;I)V"⟩, 11), (⟨"LineCollector", "addFieldsToSlots", "(LLineCollector$Item;)V"⟩, 11), (⟨"LineCollector", "loseYoung", "()V"⟩, 11), (⟨"LineCollector", "queueRootsAndLog", "()V"⟩, 11), (⟨"LineCollector", "countGrey", "()I"⟩, 11), (⟨"LineCollector", "loseWhite", "()V"⟩, 11), (⟨"LineCollector", "recountStuck", "()V"⟩, 11), (⟨"LineCollector", "countHolders", "(LLineCollector$Item;)I"⟩, 11)]
theorem lw_r1 : ∀ q ∈ lw_privs_1, lw_okq q := List.forall_mem_cons.mpr ⟨lw_p0, List.forall_mem_cons.mpr ⟨lw_p1, List.forall_mem_cons.mpr ⟨lw_p2, List.forall_mem_cons.mpr ⟨lw_p3, List.forall_mem_cons.mpr ⟨lw_p4, List.forall_mem_cons.mpr ⟨lw_p5, List.forall_mem_cons.mpr ⟨lw_p6, List.forall_mem_cons.mpr ⟨lw_p7, List.forall_mem_cons.mpr ⟨lw_p8, List.forall_mem_cons.mpr ⟨lw_p9, List.forall_mem_cons.mpr ⟨lw_p10, List.forall_mem_cons.mpr ⟨lw_p11, List.forall_mem_cons.mpr ⟨lw_p12, List.forall_mem_cons.mpr ⟨lw_p13, List.forall_mem_cons.mpr ⟨lw_p14, List.forall_mem_cons.mpr ⟨lw_p15, fun _ h => absurd h List.not_mem_nil⟩⟩⟩⟩⟩⟩⟩⟩⟩⟩⟩⟩⟩⟩⟩⟩
theorem lw_p16 : lw_okq (⟨"LineCollector", "whitenAll", "()V"⟩, 11) := ⟨⟨by decide +kernel, by decide +kernel⟩, List.mem_of_getElem? (i := 18) (by decide +kernel), List.mem_of_getElem? (i := 315) (by decide +kernel), List.mem_of_getElem? (i := 316) (by decide +kernel)⟩
theorem lw_p17 : lw_okq (⟨"LineCollector", "clearSparsestBlock", "()V"⟩, 11) := ⟨⟨by decide +kernel, by decide +kernel⟩, List.mem_of_getElem? (i := 18) (by decide +kernel), List.mem_of_getElem? (i := 319) (by decide +kernel), List.mem_of_getElem? (i := 320) (by decide +kernel)⟩
theorem lw_p18 : lw_okq (⟨"LineCollector$Places", "usedLines", "(I)I"⟩, 5) := ⟨⟨by decide +kernel, by decide +kernel⟩, List.mem_of_getElem? (i := 28) (by decide +kernel), List.mem_of_getElem? (i := 327) (by decide +kernel), List.mem_of_getElem? (i := 328) (by decide +kernel)⟩
theorem lw_p19 : lw_okq (⟨"LineCollector", "beginTrace", "()V"⟩, 11) := ⟨⟨by decide +kernel, by decide +kernel⟩, List.mem_of_getElem? (i := 18) (by decide +kernel), List.mem_of_getElem? (i := 339) (by decide +kernel), List.mem_of_getElem? (i := 340) (by decide +kernel)⟩
theorem lw_p20 : lw_okq (⟨"LineCollector", "rememberRoots", "()V"⟩, 11) := ⟨⟨by decide +kernel, by decide +kernel⟩, List.mem_of_getElem? (i := 18) (by decide +kernel), List.mem_of_getElem? (i := 343) (by decide +kernel), List.mem_of_getElem? (i := 344) (by decide +kernel)⟩
theorem lw_p21 : lw_okq (⟨"java/lang/Throwable", "fillInStackTrace", "(I)Ljava/lang/Throwable;"⟩, 6) := ⟨⟨by decide +kernel, by decide +kernel⟩, List.mem_of_getElem? (i := 399) (by decide +kernel), List.mem_of_getElem? (i := 397) (by decide +kernel), List.mem_of_getElem? (i := 398) (by decide +kernel)⟩
theorem lw_p22 : lw_okq (⟨"LineCollector", "collect", "()V"⟩, 11) := ⟨⟨by decide +kernel, by decide +kernel⟩, List.mem_of_getElem? (i := 18) (by decide +kernel), List.mem_of_getElem? (i := 424) (by decide +kernel), List.mem_of_getElem? (i := 425) (by decide +kernel)⟩
theorem lw_p23 : lw_okq (⟨"LineCollector", "stepUpTo", "(I)V"⟩, 11) := ⟨⟨by decide +kernel, by decide +kernel⟩, List.mem_of_getElem? (i := 18) (by decide +kernel), List.mem_of_getElem? (i := 429) (by decide +kernel), List.mem_of_getElem? (i := 430) (by decide +kernel)⟩
theorem lw_p24 : lw_okq (⟨"LineCollector", "blackenFirstGrey", "()Z"⟩, 11) := ⟨⟨by decide +kernel, by decide +kernel⟩, List.mem_of_getElem? (i := 18) (by decide +kernel), List.mem_of_getElem? (i := 433) (by decide +kernel), List.mem_of_getElem? (i := 434) (by decide +kernel)⟩
theorem lw_p25 : lw_okq (⟨"LineCollector", "itemWithField", "(III)LLineCollector$Item;"⟩, 11) := ⟨⟨by decide +kernel, by decide +kernel⟩, List.mem_of_getElem? (i := 18) (by decide +kernel), List.mem_of_getElem? (i := 514) (by decide +kernel), List.mem_of_getElem? (i := 515) (by decide +kernel)⟩
theorem lw_p26 : lw_okq (⟨"LineCollector", "itemOrNull", "(I)LLineCollector$Item;"⟩, 11) := ⟨⟨by decide +kernel, by decide +kernel⟩, List.mem_of_getElem? (i := 18) (by decide +kernel), List.mem_of_getElem? (i := 595) (by decide +kernel), List.mem_of_getElem? (i := 596) (by decide +kernel)⟩
theorem lw_p27 : lw_okq (⟨"LineCollector", "countItems", "()I"⟩, 11) := ⟨⟨by decide +kernel, by decide +kernel⟩, List.mem_of_getElem? (i := 18) (by decide +kernel), List.mem_of_getElem? (i := 637) (by decide +kernel), List.mem_of_getElem? (i := 638) (by decide +kernel)⟩
theorem lw_p28 : lw_okq (⟨"LineCollector", "countYoung", "()I"⟩, 11) := ⟨⟨by decide +kernel, by decide +kernel⟩, List.mem_of_getElem? (i := 18) (by decide +kernel), List.mem_of_getElem? (i := 641) (by decide +kernel), List.mem_of_getElem? (i := 642) (by decide +kernel)⟩
theorem lw_p29 : lw_okq (⟨"LineCollectorModel", "place", "(I)I"⟩, 31) := ⟨⟨by decide +kernel, by decide +kernel⟩, List.mem_of_getElem? (i := 645) (by decide +kernel), List.mem_of_getElem? (i := 756) (by decide +kernel), List.mem_of_getElem? (i := 757) (by decide +kernel)⟩
theorem lw_p30 : lw_okq (⟨"LineCollectorModel", "placeInLines", "(I)I"⟩, 31) := ⟨⟨by decide +kernel, by decide +kernel⟩, List.mem_of_getElem? (i := 645) (by decide +kernel), List.mem_of_getElem? (i := 760) (by decide +kernel), List.mem_of_getElem? (i := 761) (by decide +kernel)⟩
theorem lw_p31 : lw_okq (⟨"LineCollectorModel", "isFree", "(I)Z"⟩, 31) := ⟨⟨by decide +kernel, by decide +kernel⟩, List.mem_of_getElem? (i := 645) (by decide +kernel), List.mem_of_getElem? (i := 764) (by decide +kernel), List.mem_of_getElem? (i := 765) (by decide +kernel)⟩
def lw_privs_2 : List (MethodName × Nat) := [(⟨"LineCollector", "whitenAll", "()V"⟩, 11), (⟨"LineCollector", "clearSparsestBlock", "()V"⟩, 11), (⟨"LineCollector$Places", "usedLines", "(I)I"⟩, 5), (⟨"LineCollector", "beginTrace", "()V"⟩, 11), (⟨"LineCollector", "rememberRoots", "()V"⟩, 11), (⟨"java/lang/Throwable", "fillInStackTrace", "(I)Ljava/lang/Throwable;"⟩, 6), (⟨"LineCollector", "collect", "()V"⟩, 11), (⟨"LineCollector", "stepUpTo", "(I)V"⟩, 11), (⟨"LineCollector", "blackenFirstGrey", "()Z"⟩, 11), (⟨"LineCollector", "itemWithField", "(III)LLineCollector$Item;"⟩, 11), (⟨"LineCollector", "itemOrNull", "(I)LLineCollector$Item;"⟩, 11), (⟨"LineCollector", "countItems", "()I"⟩, 11), (⟨"LineCollector", "countYoung", "()I"⟩, 11), (⟨"LineCollectorModel", "place", "(I)I"⟩, 31), (⟨"LineCollectorModel", "placeInLines", "(I)I"⟩, 31), (⟨"LineCollectorModel", "isFree", "(I)Z"⟩, 31)]
theorem lw_r2 : ∀ q ∈ lw_privs_2, lw_okq q := List.forall_mem_cons.mpr ⟨lw_p16, List.forall_mem_cons.mpr ⟨lw_p17, List.forall_mem_cons.mpr ⟨lw_p18, List.forall_mem_cons.mpr ⟨lw_p19, List.forall_mem_cons.mpr ⟨lw_p20, List.forall_mem_cons.mpr ⟨lw_p21, List.forall_mem_cons.mpr ⟨lw_p22, List.forall_mem_cons.mpr ⟨lw_p23, List.forall_mem_cons.mpr ⟨lw_p24, List.forall_mem_cons.mpr ⟨lw_p25, List.forall_mem_cons.mpr ⟨lw_p26, List.forall_mem_cons.mpr ⟨lw_p27, List.forall_mem_cons.mpr ⟨lw_p28, List.forall_mem_cons.mpr ⟨lw_p29, List.forall_mem_cons.mpr ⟨lw_p30, List.forall_mem_cons.mpr ⟨lw_p31, fun _ h => absurd h List.not_mem_nil⟩⟩⟩⟩⟩⟩⟩⟩⟩⟩⟩⟩⟩⟩⟩⟩
theorem lw_p32 : lw_okq (⟨"LineCollectorModel", "isUsed", "(I)Z"⟩, 31) := ⟨⟨by decide +kernel, by decide +kernel⟩, List.mem_of_getElem? (i := 645) (by decide +kernel), List.mem_of_getElem? (i := 768) (by decide +kernel), List.mem_of_getElem? (i := 769) (by decide +kernel)⟩
theorem lw_p33 : lw_okq (⟨"LineCollectorModel", "isTaken", "(I)Z"⟩, 31) := ⟨⟨by decide +kernel, by decide +kernel⟩, List.mem_of_getElem? (i := 645) (by decide +kernel), List.mem_of_getElem? (i := 772) (by decide +kernel), List.mem_of_getElem? (i := 773) (by decide +kernel)⟩
theorem lw_p34 : lw_okq (⟨"LineCollectorModel", "placeInBlock", "(I)I"⟩, 31) := ⟨⟨by decide +kernel, by decide +kernel⟩, List.mem_of_getElem? (i := 645) (by decide +kernel), List.mem_of_getElem? (i := 776) (by decide +kernel), List.mem_of_getElem? (i := 777) (by decide +kernel)⟩
theorem lw_p35 : lw_okq (⟨"LineCollectorModel", "isFreeBlock", "(I)Z"⟩, 31) := ⟨⟨by decide +kernel, by decide +kernel⟩, List.mem_of_getElem? (i := 645) (by decide +kernel), List.mem_of_getElem? (i := 780) (by decide +kernel), List.mem_of_getElem? (i := 781) (by decide +kernel)⟩
theorem lw_p36 : lw_okq (⟨"LineCollectorModel", "collect", "()V"⟩, 31) := ⟨⟨by decide +kernel, by decide +kernel⟩, List.mem_of_getElem? (i := 645) (by decide +kernel), List.mem_of_getElem? (i := 784) (by decide +kernel), List.mem_of_getElem? (i := 785) (by decide +kernel)⟩
theorem lw_p37 : lw_okq (⟨"LineCollectorModel", "halt", "(Z)I"⟩, 31) := ⟨⟨by decide +kernel, by decide +kernel⟩, List.mem_of_getElem? (i := 645) (by decide +kernel), List.mem_of_getElem? (i := 788) (by decide +kernel), List.mem_of_getElem? (i := 789) (by decide +kernel)⟩
theorem lw_p38 : lw_okq (⟨"LineCollectorModel", "drainAll", "()V"⟩, 31) := ⟨⟨by decide +kernel, by decide +kernel⟩, List.mem_of_getElem? (i := 645) (by decide +kernel), List.mem_of_getElem? (i := 792) (by decide +kernel), List.mem_of_getElem? (i := 793) (by decide +kernel)⟩
theorem lw_p39 : lw_okq (⟨"LineCollectorModel", "drainOne", "()V"⟩, 31) := ⟨⟨by decide +kernel, by decide +kernel⟩, List.mem_of_getElem? (i := 645) (by decide +kernel), List.mem_of_getElem? (i := 796) (by decide +kernel), List.mem_of_getElem? (i := 797) (by decide +kernel)⟩
theorem lw_p40 : lw_okq (⟨"LineCollectorModel", "vanish", "(I)V"⟩, 31) := ⟨⟨by decide +kernel, by decide +kernel⟩, List.mem_of_getElem? (i := 645) (by decide +kernel), List.mem_of_getElem? (i := 800) (by decide +kernel), List.mem_of_getElem? (i := 801) (by decide +kernel)⟩
theorem lw_p41 : lw_okq (⟨"LineCollectorModel", "wait", "(I)V"⟩, 31) := ⟨⟨by decide +kernel, by decide +kernel⟩, List.mem_of_getElem? (i := 645) (by decide +kernel), List.mem_of_getElem? (i := 804) (by decide +kernel), List.mem_of_getElem? (i := 805) (by decide +kernel)⟩
theorem lw_p42 : lw_okq (⟨"LineCollectorModel", "isWhite", "(I)Z"⟩, 31) := ⟨⟨by decide +kernel, by decide +kernel⟩, List.mem_of_getElem? (i := 645) (by decide +kernel), List.mem_of_getElem? (i := 808) (by decide +kernel), List.mem_of_getElem? (i := 809) (by decide +kernel)⟩
theorem lw_p43 : lw_okq (⟨"LineCollectorModel", "lose", "(I)V"⟩, 31) := ⟨⟨by decide +kernel, by decide +kernel⟩, List.mem_of_getElem? (i := 645) (by decide +kernel), List.mem_of_getElem? (i := 812) (by decide +kernel), List.mem_of_getElem? (i := 813) (by decide +kernel)⟩
theorem lw_p44 : lw_okq (⟨"LineCollectorModel", "lift", "(IZ)V"⟩, 31) := ⟨⟨by decide +kernel, by decide +kernel⟩, List.mem_of_getElem? (i := 645) (by decide +kernel), List.mem_of_getElem? (i := 816) (by decide +kernel), List.mem_of_getElem? (i := 817) (by decide +kernel)⟩
theorem lw_p45 : lw_okq (⟨"LineCollectorModel", "forget", "()V"⟩, 31) := ⟨⟨by decide +kernel, by decide +kernel⟩, List.mem_of_getElem? (i := 645) (by decide +kernel), List.mem_of_getElem? (i := 820) (by decide +kernel), List.mem_of_getElem? (i := 821) (by decide +kernel)⟩
theorem lw_p46 : lw_okq (⟨"LineCollectorModel", "countSlots", "()I"⟩, 31) := ⟨⟨by decide +kernel, by decide +kernel⟩, List.mem_of_getElem? (i := 645) (by decide +kernel), List.mem_of_getElem? (i := 824) (by decide +kernel), List.mem_of_getElem? (i := 825) (by decide +kernel)⟩
theorem lw_p47 : lw_okq (⟨"LineCollectorModel", "addSlot", "(I)V"⟩, 31) := ⟨⟨by decide +kernel, by decide +kernel⟩, List.mem_of_getElem? (i := 645) (by decide +kernel), List.mem_of_getElem? (i := 828) (by decide +kernel), List.mem_of_getElem? (i := 829) (by decide +kernel)⟩
def lw_privs_3 : List (MethodName × Nat) := [(⟨"LineCollectorModel", "isUsed", "(I)Z"⟩, 31), (⟨"LineCollectorModel", "isTaken", "(I)Z"⟩, 31), (⟨"LineCollectorModel", "placeInBlock", "(I)I"⟩, 31), (⟨"LineCollectorModel", "isFreeBlock", "(I)Z"⟩, 31), (⟨"LineCollectorModel", "collect", "()V"⟩, 31), (⟨"LineCollectorModel", "halt", "(Z)I"⟩, 31), (⟨"LineCollectorModel", "drainAll", "()V"⟩, 31), (⟨"LineCollectorModel", "drainOne", "()V"⟩, 31), (⟨"LineCollectorModel", "vanish", "(I)V"⟩, 31), (⟨"LineCollectorModel", "wait", "(I)V"⟩, 31), (⟨"LineCollectorModel", "isWhite", "(I)Z"⟩, 31), (⟨"LineCollectorModel", "lose", "(I)V"⟩, 31), (⟨"LineCollectorModel", "lift", "(IZ)V"⟩, 31), (⟨"LineCollectorModel", "forget", "()V"⟩, 31), (⟨"LineCollectorModel", "countSlots", "()I"⟩, 31), (⟨"LineCollectorModel", "addSlot", "(I)V"⟩, 31)]
theorem lw_r3 : ∀ q ∈ lw_privs_3, lw_okq q := List.forall_mem_cons.mpr ⟨lw_p32, List.forall_mem_cons.mpr ⟨lw_p33, List.forall_mem_cons.mpr ⟨lw_p34, List.forall_mem_cons.mpr ⟨lw_p35, List.forall_mem_cons.mpr ⟨lw_p36, List.forall_mem_cons.mpr ⟨lw_p37, List.forall_mem_cons.mpr ⟨lw_p38, List.forall_mem_cons.mpr ⟨lw_p39, List.forall_mem_cons.mpr ⟨lw_p40, List.forall_mem_cons.mpr ⟨lw_p41, List.forall_mem_cons.mpr ⟨lw_p42, List.forall_mem_cons.mpr ⟨lw_p43, List.forall_mem_cons.mpr ⟨lw_p44, List.forall_mem_cons.mpr ⟨lw_p45, List.forall_mem_cons.mpr ⟨lw_p46, List.forall_mem_cons.mpr ⟨lw_p47, fun _ h => absurd h List.not_mem_nil⟩⟩⟩⟩⟩⟩⟩⟩⟩⟩⟩⟩⟩⟩⟩⟩
theorem lw_p48 : lw_okq (⟨"LineCollectorModel", "survive", "(I)V"⟩, 31) := ⟨⟨by decide +kernel, by decide +kernel⟩, List.mem_of_getElem? (i := 645) (by decide +kernel), List.mem_of_getElem? (i := 832) (by decide +kernel), List.mem_of_getElem? (i := 833) (by decide +kernel)⟩
theorem lw_p49 : lw_okq (⟨"LineCollectorModel", "shift", "(I)V"⟩, 31) := ⟨⟨by decide +kernel, by decide +kernel⟩, List.mem_of_getElem? (i := 645) (by decide +kernel), List.mem_of_getElem? (i := 836) (by decide +kernel), List.mem_of_getElem? (i := 837) (by decide +kernel)⟩
theorem lw_p50 : lw_okq (⟨"LineCollectorModel", "lay", "(II)V"⟩, 31) := ⟨⟨by decide +kernel, by decide +kernel⟩, List.mem_of_getElem? (i := 645) (by decide +kernel), List.mem_of_getElem? (i := 840) (by decide +kernel), List.mem_of_getElem? (i := 841) (by decide +kernel)⟩
theorem lw_p51 : lw_okq (⟨"LineCollectorModel", "endStep", "()V"⟩, 31) := ⟨⟨by decide +kernel, by decide +kernel⟩, List.mem_of_getElem? (i := 645) (by decide +kernel), List.mem_of_getElem? (i := 844) (by decide +kernel), List.mem_of_getElem? (i := 845) (by decide +kernel)⟩
theorem lw_p52 : lw_okq (⟨"LineCollectorModel", "settle", "()V"⟩, 31) := ⟨⟨by decide +kernel, by decide +kernel⟩, List.mem_of_getElem? (i := 645) (by decide +kernel), List.mem_of_getElem? (i := 848) (by decide +kernel), List.mem_of_getElem? (i := 849) (by decide +kernel)⟩
theorem lw_p53 : lw_okq (⟨"LineCollectorModel", "greys", "()I"⟩, 31) := ⟨⟨by decide +kernel, by decide +kernel⟩, List.mem_of_getElem? (i := 645) (by decide +kernel), List.mem_of_getElem? (i := 852) (by decide +kernel), List.mem_of_getElem? (i := 853) (by decide +kernel)⟩
theorem lw_p54 : lw_okq (⟨"LineCollectorModel", "sweep", "()V"⟩, 31) := ⟨⟨by decide +kernel, by decide +kernel⟩, List.mem_of_getElem? (i := 645) (by decide +kernel), List.mem_of_getElem? (i := 856) (by decide +kernel), List.mem_of_getElem? (i := 857) (by decide +kernel)⟩
theorem lw_p55 : lw_okq (⟨"LineCollectorModel", "objectAt", "(I)I"⟩, 31) := ⟨⟨by decide +kernel, by decide +kernel⟩, List.mem_of_getElem? (i := 645) (by decide +kernel), List.mem_of_getElem? (i := 860) (by decide +kernel), List.mem_of_getElem? (i := 861) (by decide +kernel)⟩
theorem lw_p56 : lw_okq (⟨"LineCollectorModel", "countAnew", "()V"⟩, 31) := ⟨⟨by decide +kernel, by decide +kernel⟩, List.mem_of_getElem? (i := 645) (by decide +kernel), List.mem_of_getElem? (i := 864) (by decide +kernel), List.mem_of_getElem? (i := 865) (by decide +kernel)⟩
theorem lw_p57 : lw_okq (⟨"LineCollectorModel", "holders", "(I)I"⟩, 31) := ⟨⟨by decide +kernel, by decide +kernel⟩, List.mem_of_getElem? (i := 645) (by decide +kernel), List.mem_of_getElem? (i := 868) (by decide +kernel), List.mem_of_getElem? (i := 869) (by decide +kernel)⟩
theorem lw_p58 : lw_okq (⟨"LineCollectorModel", "clearBlock", "()V"⟩, 31) := ⟨⟨by decide +kernel, by decide +kernel⟩, List.mem_of_getElem? (i := 645) (by decide +kernel), List.mem_of_getElem? (i := 872) (by decide +kernel), List.mem_of_getElem? (i := 873) (by decide +kernel)⟩
theorem lw_p59 : lw_okq (⟨"LineCollectorModel", "usedLines", "(I)I"⟩, 31) := ⟨⟨by decide +kernel, by decide +kernel⟩, List.mem_of_getElem? (i := 645) (by decide +kernel), List.mem_of_getElem? (i := 876) (by decide +kernel), List.mem_of_getElem? (i := 877) (by decide +kernel)⟩
theorem lw_p60 : lw_okq (⟨"LineCollectorModel", "step", "()V"⟩, 31) := ⟨⟨by decide +kernel, by decide +kernel⟩, List.mem_of_getElem? (i := 645) (by decide +kernel), List.mem_of_getElem? (i := 880) (by decide +kernel), List.mem_of_getElem? (i := 881) (by decide +kernel)⟩
theorem lw_p61 : lw_okq (⟨"LineCollectorModel", "make", "(II)I"⟩, 31) := ⟨⟨by decide +kernel, by decide +kernel⟩, List.mem_of_getElem? (i := 645) (by decide +kernel), List.mem_of_getElem? (i := 884) (by decide +kernel), List.mem_of_getElem? (i := 885) (by decide +kernel)⟩
theorem lw_p62 : lw_okq (⟨"LineCollectorModel", "reach", "(III)V"⟩, 31) := ⟨⟨by decide +kernel, by decide +kernel⟩, List.mem_of_getElem? (i := 645) (by decide +kernel), List.mem_of_getElem? (i := 900) (by decide +kernel), List.mem_of_getElem? (i := 901) (by decide +kernel)⟩
theorem lw_p63 : lw_okq (⟨"LineCollectorModel", "addressOf", "(I)I"⟩, 31) := ⟨⟨by decide +kernel, by decide +kernel⟩, List.mem_of_getElem? (i := 645) (by decide +kernel), List.mem_of_getElem? (i := 904) (by decide +kernel), List.mem_of_getElem? (i := 905) (by decide +kernel)⟩
def lw_privs_4 : List (MethodName × Nat) := [(⟨"LineCollectorModel", "survive", "(I)V"⟩, 31), (⟨"LineCollectorModel", "shift", "(I)V"⟩, 31), (⟨"LineCollectorModel", "lay", "(II)V"⟩, 31), (⟨"LineCollectorModel", "endStep", "()V"⟩, 31), (⟨"LineCollectorModel", "settle", "()V"⟩, 31), (⟨"LineCollectorModel", "greys", "()I"⟩, 31), (⟨"LineCollectorModel", "sweep", "()V"⟩, 31), (⟨"LineCollectorModel", "objectAt", "(I)I"⟩, 31), (⟨"LineCollectorModel", "countAnew", "()V"⟩, 31), (⟨"LineCollectorModel", "holders", "(I)I"⟩, 31), (⟨"LineCollectorModel", "clearBlock", "()V"⟩, 31), (⟨"LineCollectorModel", "usedLines", "(I)I"⟩, 31), (⟨"LineCollectorModel", "step", "()V"⟩, 31), (⟨"LineCollectorModel", "make", "(II)I"⟩, 31), (⟨"LineCollectorModel", "reach", "(III)V"⟩, 31), (⟨"LineCollectorModel", "addressOf", "(I)I"⟩, 31)]
theorem lw_r4 : ∀ q ∈ lw_privs_4, lw_okq q := List.forall_mem_cons.mpr ⟨lw_p48, List.forall_mem_cons.mpr ⟨lw_p49, List.forall_mem_cons.mpr ⟨lw_p50, List.forall_mem_cons.mpr ⟨lw_p51, List.forall_mem_cons.mpr ⟨lw_p52, List.forall_mem_cons.mpr ⟨lw_p53, List.forall_mem_cons.mpr ⟨lw_p54, List.forall_mem_cons.mpr ⟨lw_p55, List.forall_mem_cons.mpr ⟨lw_p56, List.forall_mem_cons.mpr ⟨lw_p57, List.forall_mem_cons.mpr ⟨lw_p58, List.forall_mem_cons.mpr ⟨lw_p59, List.forall_mem_cons.mpr ⟨lw_p60, List.forall_mem_cons.mpr ⟨lw_p61, List.forall_mem_cons.mpr ⟨lw_p62, List.forall_mem_cons.mpr ⟨lw_p63, fun _ h => absurd h List.not_mem_nil⟩⟩⟩⟩⟩⟩⟩⟩⟩⟩⟩⟩⟩⟩⟩⟩
theorem lw_p64 : lw_okq (⟨"LineCollectorModel", "objects", "(I)I"⟩, 31) := ⟨⟨by decide +kernel, by decide +kernel⟩, List.mem_of_getElem? (i := 645) (by decide +kernel), List.mem_of_getElem? (i := 944) (by decide +kernel), List.mem_of_getElem? (i := 945) (by decide +kernel)⟩
def lw_privs_5 : List (MethodName × Nat) := [(⟨"LineCollectorModel", "objects", "(I)I"⟩, 31)]
theorem lw_r5 : ∀ q ∈ lw_privs_5, lw_okq q := List.forall_mem_cons.mpr ⟨lw_p64, fun _ h => absurd h List.not_mem_nil⟩
def lw_privs : List (MethodName × Nat) := lw_privs_1 ++ (lw_privs_2 ++ (lw_privs_3 ++ (lw_privs_4 ++ (lw_privs_5))))
def lw_tbl : List Cond := k2_sels lw_privs ++ tables_1
theorem lw_privs_ok : ∀ q ∈ lw_privs, lw_okq q := by
  show ∀ q ∈ lw_privs_1 ++ (lw_privs_2 ++ (lw_privs_3 ++ (lw_privs_4 ++ (lw_privs_5)))), lw_okq q
  exact List.forall_mem_append.mpr ⟨lw_r1, List.forall_mem_append.mpr ⟨lw_r2, List.forall_mem_append.mpr ⟨lw_r3, List.forall_mem_append.mpr ⟨lw_r4, lw_r5⟩⟩⟩⟩
-- ===== end of PART A; then your names; then what follows =====
end
section
/-! The memory of class, reference and law, by regions (relative to the heap's size at the law's entry), and its picture in the heap -/
abbrev Mem : Type := Nat × (Nat → Nat) × (Nat → Nat) × (Nat → Nat → Int32) × (Nat → Nat → Option Nat)
def mN (μ : Mem) : Nat := μ.1
def mK (μ : Mem) (r : Nat) : Nat := μ.2.1 r
def mL (μ : Mem) (r : Nat) : Nat := μ.2.2.1 r
def mI (μ : Mem) (r j : Nat) : Int32 := μ.2.2.2.1 r j
def mR (μ : Mem) (r j : Nat) : Option Nat := μ.2.2.2.2 r j
def sI (μ : Mem) (r j : Nat) (v : Int32) : Mem := (μ.1, μ.2.1, μ.2.2.1, (fun x y => if x = r ∧ y = j then v else μ.2.2.2.1 x y), μ.2.2.2.2)
def sR (μ : Mem) (r j : Nat) (v : Option Nat) : Mem := (μ.1, μ.2.1, μ.2.2.1, μ.2.2.2.1, fun x y => if x = r ∧ y = j then v else μ.2.2.2.2 x y)
def bump (μ : Mem) (k : Nat) : Mem := (μ.1 + 1, (fun r => if r = μ.1 then k else μ.2.1 r), μ.2.2.1, μ.2.2.2.1, μ.2.2.2.2)
def newO (μ : Mem) (k : Nat) : Mem := (μ.1 + 1, (fun r => if r = μ.1 then k else μ.2.1 r), μ.2.2.1, (fun r j => if r = μ.1 then 0 else μ.2.2.2.1 r j), fun r j => if r = μ.1 then none else μ.2.2.2.2 r j)
def newA (μ : Mem) (k n : Nat) : Mem := (μ.1 + 1, (fun r => if r = μ.1 then k else μ.2.1 r), (fun r => if r = μ.1 then n else μ.2.2.1 r), (fun r j => if r = μ.1 then 0 else μ.2.2.2.1 r j), fun r j => if r = μ.1 then none else μ.2.2.2.2 r j)
def finO (μ : Mem) (r k : Nat) : Mem := (μ.1, (fun x => if x = r then k else μ.2.1 x), μ.2.2.1, μ.2.2.2.1, μ.2.2.2.2)
theorem mN_sI (μ : Mem) (r j : Nat) (v : Int32) : mN (sI μ r j v) = mN μ := rfl
theorem mK_sI (μ : Mem) (r j : Nat) (v : Int32) (x : Nat) : mK (sI μ r j v) x = mK μ x := rfl
theorem mL_sI (μ : Mem) (r j : Nat) (v : Int32) (x : Nat) : mL (sI μ r j v) x = mL μ x := rfl
theorem mR_sI (μ : Mem) (r j : Nat) (v : Int32) (x y : Nat) : mR (sI μ r j v) x y = mR μ x y := rfl
theorem mI_sI (μ : Mem) (r j : Nat) (v : Int32) (x y : Nat) : mI (sI μ r j v) x y = if x = r ∧ y = j then v else mI μ x y := rfl
theorem mN_sR (μ : Mem) (r j : Nat) (v : Option Nat) : mN (sR μ r j v) = mN μ := rfl
theorem mK_sR (μ : Mem) (r j : Nat) (v : Option Nat) (x : Nat) : mK (sR μ r j v) x = mK μ x := rfl
theorem mL_sR (μ : Mem) (r j : Nat) (v : Option Nat) (x : Nat) : mL (sR μ r j v) x = mL μ x := rfl
theorem mI_sR (μ : Mem) (r j : Nat) (v : Option Nat) (x y : Nat) : mI (sR μ r j v) x y = mI μ x y := rfl
theorem mR_sR (μ : Mem) (r j : Nat) (v : Option Nat) (x y : Nat) : mR (sR μ r j v) x y = if x = r ∧ y = j then v else mR μ x y := rfl
theorem mI_sI_self (μ : Mem) (r j : Nat) (v : Int32) : mI (sI μ r j v) r j = v := by rw [mI_sI, if_pos ⟨rfl, rfl⟩]
theorem mR_sR_self (μ : Mem) (r j : Nat) (v : Option Nat) : mR (sR μ r j v) r j = v := by rw [mR_sR, if_pos ⟨rfl, rfl⟩]
theorem mN_newO (μ : Mem) (k : Nat) : mN (newO μ k) = mN μ + 1 := rfl
theorem mK_newO (μ : Mem) (k x : Nat) : mK (newO μ k) x = if x = mN μ then k else mK μ x := rfl
theorem mL_newO (μ : Mem) (k x : Nat) : mL (newO μ k) x = mL μ x := rfl
theorem mI_newO (μ : Mem) (k x y : Nat) : mI (newO μ k) x y = if x = mN μ then 0 else mI μ x y := rfl
theorem mR_newO (μ : Mem) (k x y : Nat) : mR (newO μ k) x y = if x = mN μ then none else mR μ x y := rfl
theorem mN_newA (μ : Mem) (k n : Nat) : mN (newA μ k n) = mN μ + 1 := rfl
theorem mK_newA (μ : Mem) (k n x : Nat) : mK (newA μ k n) x = if x = mN μ then k else mK μ x := rfl
theorem mL_newA (μ : Mem) (k n x : Nat) : mL (newA μ k n) x = if x = mN μ then n else mL μ x := rfl
theorem mI_newA (μ : Mem) (k n x y : Nat) : mI (newA μ k n) x y = if x = mN μ then 0 else mI μ x y := rfl
theorem mR_newA (μ : Mem) (k n x y : Nat) : mR (newA μ k n) x y = if x = mN μ then none else mR μ x y := rfl
theorem mN_finO (μ : Mem) (r k : Nat) : mN (finO μ r k) = mN μ := rfl
theorem mK_finO (μ : Mem) (r k x : Nat) : mK (finO μ r k) x = if x = r then k else mK μ x := rfl
theorem mL_finO (μ : Mem) (r k x : Nat) : mL (finO μ r k) x = mL μ x := rfl
theorem mI_finO (μ : Mem) (r k x y : Nat) : mI (finO μ r k) x y = mI μ x y := rfl
theorem mR_finO (μ : Mem) (r k x y : Nat) : mR (finO μ r k) x y = mR μ x y := rfl
theorem mN_bump (μ : Mem) (k : Nat) : mN (bump μ k) = mN μ + 1 := rfl
theorem mK_bump (μ : Mem) (k x : Nat) : mK (bump μ k) x = if x = mN μ then k else mK μ x := rfl
theorem mL_bump (μ : Mem) (k x : Nat) : mL (bump μ k) x = mL μ x := rfl
theorem mI_bump (μ : Mem) (k x y : Nat) : mI (bump μ k) x y = mI μ x y := rfl
theorem mR_bump (μ : Mem) (k x y : Nat) : mR (bump μ k) x y = mR μ x y := rfl
/-- a region of a kind; an array of a length -/
def okO (μ : Mem) (r k : Nat) : Prop := r < mN μ ∧ mK μ r = k
def okA (μ : Mem) (r k n : Nat) : Prop := r < mN μ ∧ mK μ r = k ∧ mL μ r = n
def zb (v : Int32) : Prop := v = 0 ∨ v = 1
def jmin (x y : Int32) : Int32 := if y < x then y else x
/-- the fixed regions: kind and length -/
def layKs : List (Nat × Nat) := [(0, 0), (22, 6), (22, 6), (22, 128), (1, 0), (20, 32), (21, 32), (2, 0), (2, 0), (3, 0), (22, 128), (20, 128), (22, 128), (4, 0), (22, 262), (4, 0), (22, 262),
  (6, 0), (20, 128), (20, 256), (20, 256), (20, 256), (20, 256), (20, 256), (20, 256), (20, 3072), (21, 3072), (20, 6), (20, 6), (21, 32), (20, 700), (20, 160), (20, 160), (20, 400), (23, 1)]
def Lay (μ : Mem) : Prop := 35 ≤ mN μ ∧ ∀ (r : Nat) (q : Nat × Nat), layKs[r]? = some q → mK μ r = q.1 ∧ mL μ r = q.2
theorem lay_lt {r : Nat} {q : Nat × Nat} (h : layKs[r]? = some q) : r < 35 := (List.getElem?_eq_some_iff.mp h).1
/-- what is fixed for a run: numbers of classes and slots; of the array classes; the base; the script's address, length, ints; whether the fixed regions stand already -/
abbrev Gl : Type := va_G × (Nat → ClassId) × Nat × Nat × Nat × (Nat → Int32) × Bool
def gD (G : Gl) : va_G := G.1
def gA (G : Gl) : Nat → ClassId := G.2.1
def gb (G : Gl) : Nat := G.2.2.1
def ga (G : Gl) : Nat := G.2.2.2.1
def gL (G : Gl) : Nat := G.2.2.2.2.1
def gx (G : Gl) : Nat → Int32 := G.2.2.2.2.2.1
def gf (G : Gl) : Bool := G.2.2.2.2.2.2
def gF (G : Gl) : Nat → Prop := fun q => gb G ≤ q
def gT (G : Gl) : List (ClassId × FieldType) := [(gA G 0, .int), (gA G 1, .boolean), (gA G 2, .object "LineCollector$Item"), (gA G 3, .long)]
def LayG (G : Gl) (μ : Mem) : Prop := gf G = true → Lay μ
theorem lay_O {G : Gl} {μ : Mem} {r k n : Nat} (hg : gf G = true) (h : layKs[r]? = some (k, n)) : LayG G μ → okO μ r k := fun L0 => have L := L0 hg; ⟨Nat.lt_of_lt_of_le (lay_lt h) L.1, (L.2 r _ h).1⟩
theorem lay_A {G : Gl} {μ : Mem} {r k n : Nat} (hg : gf G = true) (h : layKs[r]? = some (k, n)) : LayG G μ → okA μ r k n := fun L0 => have L := L0 hg; ⟨Nat.lt_of_lt_of_le (lay_lt h) L.1, (L.2 r _ h).1, (L.2 r _ h).2⟩
theorem ok_A {G : Gl} {μ : Mem} {r k : Nat} (h : okO μ r k) : LayG G μ → okA μ r k (mL μ r) := fun _ => ⟨h.1, h.2, rfl⟩
theorem ok_O {G : Gl} {μ : Mem} {r k : Nat} (h : okO μ r k) : LayG G μ → okO μ r k := fun _ => h
theorem Lay.sI {μ : Mem} (h : Lay μ) (r j : Nat) (v : Int32) : Lay (sI μ r j v) := h
theorem Lay.sR {μ : Mem} (h : Lay μ) (r j : Nat) (v : Option Nat) : Lay (sR μ r j v) := h
theorem LayG.sI {G : Gl} {μ : Mem} (h : LayG G μ) (r j : Nat) (v : Int32) : LayG G (sI μ r j v) := h
theorem LayG.sR {G : Gl} {μ : Mem} (h : LayG G μ) (r j : Nat) (v : Option Nat) : LayG G (sR μ r j v) := h
theorem Lay.more {μ μ' : Mem} (h : Lay μ) (hN : mN μ ≤ mN μ') (hk : ∀ r, r < mN μ → mK μ' r = mK μ r ∧ mL μ' r = mL μ r) : Lay μ' := by
  refine ⟨Nat.le_trans h.1 hN, fun r q hq => ?_⟩
  have h1 := lay_lt hq
  have h2 := h.1
  have h3 := h.2 r q hq
  obtain ⟨e1, e2⟩ := hk r (by omega)
  rw [e1, e2]
  exact h3
theorem Lay.bump {μ : Mem} (h : Lay μ) (k : Nat) : Lay (bump μ k) := by
  refine ⟨Nat.le_trans h.1 (by rw [mN_bump]; omega), fun r q hq => ?_⟩
  have h1 := lay_lt hq
  have h2 := h.1
  have h3 := h.2 r q hq
  rw [mK_bump, if_neg (by omega), mL_bump]
  exact h3
def rv (G : Gl) (e : Option Nat) : Value := match e with
  | none => .null
  | some r => .ref (gb G + r)
theorem rv_rf (G : Gl) (e : Option Nat) : va_rf (e.map (fun r => gb G + r)) = rv G e := by cases e <;> rfl
theorem rv_cat (G : Gl) (e : Option Nat) : (rv G e).category = 1 := by cases e <;> rfl
theorem map_inj (G : Gl) (e f : Option Nat) : e.map (fun r => gb G + r) = f.map (fun r => gb G + r) ↔ e = f := by
  cases e <;> cases f <;> simp
/-- the shapes of the classes: none: an int; some d: a reference to the region d behind -/
def shp : Nat → List (Option Nat)
  | 0 => [some 1, some 2, some 3, some 4, some 9, some 13, some 15, none, none, none, none]
  | 1 => [some 1, some 2, some 3, some 4, none]
  | 2 => [none, none, none]
  | 3 => [some 1, some 2, some 3, none]
  | 4 => [some 1, none, none]
  | 5 => [none, none, some 1, some 2, none, none, none]
  | 6 => [none, some 1, some 2, some 3, some 4, some 5, some 6, some 7, some 8, some 9, none, some 10, some 11, none, none, none, none, none, some 12, none, some 13, none, some 14, some 15, none, some 16, none, none, none, none, none]
  | _ => []
def fldv (G : Gl) (μ : Mem) (r : Nat) (o : Option Nat × Nat) : Value := match o.1 with
  | none => .int (mI μ r o.2)
  | some d => .ref (gb G + (r + d))
def flds (G : Gl) (μ : Mem) (r ci : Nat) : List Value := (shp ci).zipIdx.map (fldv G μ r)
def flduv (G : Gl) (μ : Mem) (r : Nat) (o : Option Nat × Nat) : Value := match o.1 with
  | none => .int (mI μ r o.2)
  | some _ => rv G (mR μ r o.2)
/-- an object whose constructor isn't through: its references are told -/
def fldu (G : Gl) (μ : Mem) (r ci : Nat) : List Value := (shp ci).zipIdx.map (flduv G μ r)
def rend (G : Gl) (μ : Mem) (r : Nat) : va_E :=
  if mK μ r = 20 then .inl (gA G 0, mL μ r, .inl (mI μ r))
  else if mK μ r = 21 then .inl (gA G 1, mL μ r, .inl (mI μ r))
  else if mK μ r = 22 then .inl (gA G 2, mL μ r, .inr (.inr (.inr (.inr (fun j => (mR μ r j).map (fun x => gb G + x))))))
  else if mK μ r = 23 then .inl (gA G 3, mL μ r, .inr (.inl (fun j => (mI μ r j).toInt64)))
  else if 40 ≤ mK μ r then .inr (mK μ r - 40, fldu G μ r (mK μ r - 40))
  else .inr (mK μ r, flds G μ r (mK μ r))
theorem flds_get {G : Gl} {μ : Mem} {r ci j : Nat} {o : Option Nat} (h : (shp ci)[j]? = some o) : (flds G μ r ci)[j]? = some (fldv G μ r (o, j)) := by
  simp [flds, List.getElem?_map, List.getElem?_zipIdx, h]
theorem flds_len (G : Gl) (μ : Mem) (r ci : Nat) : (flds G μ r ci).length = (shp ci).length := by simp [flds]
theorem flds_set {G : Gl} {μ : Mem} {r ci j : Nat} {v : Int32} (h : (shp ci)[j]? = some none) : flds G (sI μ r j v) r ci = (flds G μ r ci).set j (.int v) := by
  apply List.ext_getElem?
  intro i
  rw [List.getElem?_set, flds_len]
  by_cases hi : j = i
  · subst hi
    rw [if_pos rfl, if_pos (List.getElem?_eq_some_iff.mp h).1, flds_get h]
    simp [fldv, mI_sI]
  · rw [if_neg hi]
    simp only [flds, List.getElem?_map, List.getElem?_zipIdx]
    cases hs : (shp ci)[i]? with
    | none => rfl
    | some o =>
      cases o with
      | none => simp [fldv, mI_sI, Ne.symm hi]
      | some d => rfl
theorem flds_ne {G : Gl} {μ : Mem} {r ci x j : Nat} {v : Int32} (h : x ≠ r) : flds G (sI μ r j v) x ci = flds G μ x ci := by
  unfold flds
  congr 1
  funext o
  obtain ⟨o, i⟩ := o
  cases o with
  | none => simp [fldv, mI_sI, h]
  | some d => rfl
theorem rend_o {G : Gl} {μ : Mem} {r ci : Nat} (h : mK μ r = ci) (hc : ci < 20) : rend G μ r = .inr (ci, flds G μ r ci) := by
  subst h
  unfold rend
  rw [if_neg (by omega), if_neg (by omega), if_neg (by omega), if_neg (by omega), if_neg (by omega)]
theorem rend_u {G : Gl} {μ : Mem} {r ci : Nat} (h : mK μ r = 40 + ci) : rend G μ r = .inr (ci, fldu G μ r ci) := by
  unfold rend
  rw [if_neg (by omega), if_neg (by omega), if_neg (by omega), if_neg (by omega), if_pos (by omega), h, Nat.add_sub_cancel_left]
theorem fldu_get {G : Gl} {μ : Mem} {r ci j : Nat} {o : Option Nat} (h : (shp ci)[j]? = some o) : (fldu G μ r ci)[j]? = some (flduv G μ r (o, j)) := by
  simp [fldu, List.getElem?_map, List.getElem?_zipIdx, h]
theorem fldu_len (G : Gl) (μ : Mem) (r ci : Nat) : (fldu G μ r ci).length = (shp ci).length := by simp [fldu]
theorem fldu_setI {G : Gl} {μ : Mem} {r ci j : Nat} {v : Int32} (h : (shp ci)[j]? = some none) : fldu G (sI μ r j v) r ci = (fldu G μ r ci).set j (.int v) := by
  apply List.ext_getElem?
  intro i
  rw [List.getElem?_set, fldu_len]
  by_cases hi : j = i
  · subst hi
    rw [if_pos rfl, if_pos (List.getElem?_eq_some_iff.mp h).1, fldu_get h]
    simp [flduv, mI_sI]
  · rw [if_neg hi]
    simp only [fldu, List.getElem?_map, List.getElem?_zipIdx]
    cases hs : (shp ci)[i]? with
    | none => rfl
    | some o =>
      cases o with
      | none => simp [flduv, mI_sI, Ne.symm hi]
      | some d => rfl
theorem fldu_setR {G : Gl} {μ : Mem} {r ci j d : Nat} {v : Option Nat} (h : (shp ci)[j]? = some (some d)) : fldu G (sR μ r j v) r ci = (fldu G μ r ci).set j (rv G v) := by
  apply List.ext_getElem?
  intro i
  rw [List.getElem?_set, fldu_len]
  by_cases hi : j = i
  · subst hi
    rw [if_pos rfl, if_pos (List.getElem?_eq_some_iff.mp h).1, fldu_get h]
    simp [flduv, mR_sR]
  · rw [if_neg hi]
    simp only [fldu, List.getElem?_map, List.getElem?_zipIdx]
    cases hs : (shp ci)[i]? with
    | none => rfl
    | some o =>
      cases o with
      | none => rfl
      | some d => simp [flduv, mR_sR, Ne.symm hi]
theorem fldu_ne {G : Gl} {μ : Mem} {r ci x j : Nat} {v : Int32} (h : x ≠ r) : fldu G (sI μ r j v) x ci = fldu G μ x ci := by
  unfold fldu
  congr 1
  funext o
  obtain ⟨o, i⟩ := o
  cases o with
  | none => simp [flduv, mI_sI, h]
  | some d => rfl
theorem fldu_neR {G : Gl} {μ : Mem} {r ci x j : Nat} {v : Option Nat} (h : x ≠ r) : fldu G (sR μ r j v) x ci = fldu G μ x ci := by
  unfold fldu
  congr 1
  funext o
  obtain ⟨o, i⟩ := o
  cases o with
  | none => rfl
  | some d => simp [flduv, mR_sR, h]
theorem rend_i {G : Gl} {μ : Mem} {r n : Nat} (h : okA μ r 20 n) : rend G μ r = .inl (gA G 0, n, .inl (mI μ r)) := by
  unfold rend
  rw [if_pos h.2.1, h.2.2]
theorem rend_z {G : Gl} {μ : Mem} {r n : Nat} (h : okA μ r 21 n) : rend G μ r = .inl (gA G 1, n, .inl (mI μ r)) := by
  unfold rend
  rw [if_neg (by rw [h.2.1]; decide), if_pos h.2.1, h.2.2]
theorem rend_q {G : Gl} {μ : Mem} {r n : Nat} (h : okA μ r 22 n) : rend G μ r = .inl (gA G 2, n, .inr (.inr (.inr (.inr (fun j => (mR μ r j).map (fun x => gb G + x)))))) := by
  unfold rend
  rw [if_neg (by rw [h.2.1]; decide), if_neg (by rw [h.2.1]; decide), if_pos h.2.1, h.2.2]
theorem rend_j {G : Gl} {μ : Mem} {r n : Nat} (h : okA μ r 23 n) : rend G μ r = .inl (gA G 3, n, .inr (.inl (fun j => (mI μ r j).toInt64))) := by
  unfold rend
  rw [if_neg (by rw [h.2.1]; decide), if_neg (by rw [h.2.1]; decide), if_neg (by rw [h.2.1]; decide), if_pos h.2.1, h.2.2]
theorem mI_ne {μ : Mem} {r j x : Nat} {v : Int32} (h : x ≠ r) : mI (sI μ r j v) x = mI μ x := by
  funext y
  rw [mI_sI, if_neg (fun q => h q.1)]
theorem mR_ne {μ : Mem} {r j x : Nat} {v : Option Nat} (h : x ≠ r) : mR (sR μ r j v) x = mR μ x := by
  funext y
  rw [mR_sR, if_neg (fun q => h q.1)]
theorem mI_up {μ : Mem} {r j : Nat} {v : Int32} : mI (sI μ r j v) r = upd (mI μ r) j v := by
  funext y
  rw [mI_sI]
  unfold upd
  by_cases h : y = j
  · rw [if_pos ⟨rfl, h⟩, if_pos h]
  · rw [if_neg (fun q => h q.2), if_neg h]
theorem rend_ne {G : Gl} {μ : Mem} {r j x : Nat} {v : Int32} (h : x ≠ r) : rend G (sI μ r j v) x = rend G μ x := by
  unfold rend
  simp only [mK_sI, mL_sI, mR_sI, mI_ne h, flds_ne h, fldu_ne h]
theorem flds_sR {G : Gl} {μ : Mem} {r j x ci : Nat} {v : Option Nat} : flds G (sR μ r j v) x ci = flds G μ x ci := rfl
theorem rend_neR {G : Gl} {μ : Mem} {r j x : Nat} {v : Option Nat} (h : x ≠ r) : rend G (sR μ r j v) x = rend G μ x := by
  unfold rend
  simp only [mK_sR, mL_sR, mR_ne h, flds_sR, fldu_neR h]
  rfl
theorem LayG.bump {G : Gl} {μ : Mem} (h : LayG G μ) (k : Nat) : LayG G (bump μ k) := fun q => (h q).bump k
/-- the classes that the memory's objects are of -/
def fT_C : u_T := fun k => match k with
  | 0 => ("LineCollector", "roots", "[LLineCollector$Item;", true)
  | 1 => ("LineCollector", "rootsAtLastPause", "[LLineCollector$Item;", true)
  | 2 => ("LineCollector", "itemAt", "[LLineCollector$Item;", true)
  | 3 => ("LineCollector", "places", "LLineCollector$Places;", true)
  | 4 => ("LineCollector", "log", "LLineCollector$Log;", true)
  | 5 => ("LineCollector", "waiting", "LLineCollector$Row;", true)
  | 6 => ("LineCollector", "slots", "LLineCollector$Row;", true)
  | 7 => ("LineCollector", "traceRuns", "Z", false)
  | 8 => ("LineCollector", "pauses", "I", false)
  | 9 => ("LineCollector", "moves", "I", false)
  | _ => ("LineCollector", "goneAsWhite", "I", false)
def fT_P : u_T := fun k => match k with
  | 0 => ("LineCollector$Places", "cellsOwned", "[I", true)
  | 1 => ("LineCollector$Places", "movedOut", "[Z", true)
  | 2 => ("LineCollector$Places", "hole", "LLineCollector$Span;", true)
  | 3 => ("LineCollector$Places", "overflow", "LLineCollector$Span;", true)
  | _ => ("LineCollector$Places", "shutBlock", "I", false)
def fT_S : u_T := fun k => match k with
  | 0 => ("LineCollector$Span", "start", "I", false)
  | 1 => ("LineCollector$Span", "cursor", "I", false)
  | _ => ("LineCollector$Span", "end", "I", false)
def fT_G : u_T := fun k => match k with
  | 0 => ("LineCollector$Log", "items", "[LLineCollector$Item;", true)
  | 1 => ("LineCollector$Log", "fields", "[I", true)
  | 2 => ("LineCollector$Log", "before", "[LLineCollector$Item;", true)
  | _ => ("LineCollector$Log", "length", "I", false)
def fT_W : u_T := fun k => match k with
  | 0 => ("LineCollector$Row", "items", "[LLineCollector$Item;", true)
  | 1 => ("LineCollector$Row", "first", "I", false)
  | _ => ("LineCollector$Row", "length", "I", false)
def fT_I : u_T := fun k => match k with
  | 0 => ("LineCollector$Item", "size", "I", true)
  | 1 => ("LineCollector$Item", "tag", "I", true)
  | 2 => ("LineCollector$Item", "held", "[LLineCollector$Item;", true)
  | 3 => ("LineCollector$Item", "logged", "[Z", true)
  | 4 => ("LineCollector$Item", "address", "I", false)
  | 5 => ("LineCollector$Item", "count", "I", false)
  | _ => ("LineCollector$Item", "colour", "I", false)
def fT_M : u_T := fun k => match k with
  | 0 => ("LineCollectorModel", "code", "I", false)
  | 1 => ("LineCollectorModel", "cells", "[I", true)
  | 2 => ("LineCollectorModel", "state", "[I", true)
  | 3 => ("LineCollectorModel", "at", "[I", true)
  | 4 => ("LineCollectorModel", "size", "[I", true)
  | 5 => ("LineCollectorModel", "tag", "[I", true)
  | 6 => ("LineCollectorModel", "count", "[I", true)
  | 7 => ("LineCollectorModel", "colour", "[I", true)
  | 8 => ("LineCollectorModel", "fields", "[I", true)
  | 9 => ("LineCollectorModel", "logged", "[Z", true)
  | 10 => ("LineCollectorModel", "next", "I", false)
  | 11 => ("LineCollectorModel", "roots", "[I", true)
  | 12 => ("LineCollectorModel", "before", "[I", true)
  | 13 => ("LineCollectorModel", "holeFrom", "I", false)
  | 14 => ("LineCollectorModel", "holeEnd", "I", false)
  | 15 => ("LineCollectorModel", "holeCursor", "I", false)
  | 16 => ("LineCollectorModel", "overflow", "I", false)
  | 17 => ("LineCollectorModel", "overflowCursor", "I", false)
  | 18 => ("LineCollectorModel", "left", "[Z", true)
  | 19 => ("LineCollectorModel", "cleared", "I", false)
  | 20 => ("LineCollectorModel", "row", "[I", true)
  | 21 => ("LineCollectorModel", "waiting", "I", false)
  | 22 => ("LineCollectorModel", "logField", "[I", true)
  | 23 => ("LineCollectorModel", "logOld", "[I", true)
  | 24 => ("LineCollectorModel", "logs", "I", false)
  | 25 => ("LineCollectorModel", "slots", "[I", true)
  | 26 => ("LineCollectorModel", "slotted", "I", false)
  | 27 => ("LineCollectorModel", "traces", "Z", false)
  | 28 => ("LineCollectorModel", "pauses", "I", false)
  | 29 => ("LineCollectorModel", "moves", "I", false)
  | _ => ("LineCollectorModel", "whites", "I", false)
def fT_0 : u_T := fun _ => ("", "", "", false)
def CL : List vw_C := [("LineCollector", fT_C, 11), ("LineCollector$Places", fT_P, 5), ("LineCollector$Span", fT_S, 3), ("LineCollector$Log", fT_G, 4), ("LineCollector$Row", fT_W, 3), ("LineCollector$Item", fT_I, 7), ("LineCollectorModel", fT_M, 31),
  ("java/lang/IllegalArgumentException", fT_0, 0), ("java/lang/IllegalStateException", fT_0, 0), ("java/lang/IndexOutOfBoundsException", fT_0, 0), ("java/lang/UnsupportedOperationException", fT_0, 0), ("java/util/NoSuchElementException", fT_0, 0)]
theorem cl_lt {ci : Nat} {q : vw_C} (h : CL[ci]? = some q) : ci < 12 := (List.getElem?_eq_some_iff.mp h).1
theorem cl_ind {P : Nat → vw_C → Prop} (h0 : P 0 ("LineCollector", fT_C, 11)) (h1 : P 1 ("LineCollector$Places", fT_P, 5)) (h2 : P 2 ("LineCollector$Span", fT_S, 3)) (h3 : P 3 ("LineCollector$Log", fT_G, 4)) (h4 : P 4 ("LineCollector$Row", fT_W, 3)) (h5 : P 5 ("LineCollector$Item", fT_I, 7)) (h6 : P 6 ("LineCollectorModel", fT_M, 31))
    (h7 : ∀ ci C, 7 ≤ ci → P ci (C, fT_0, 0)) {ci : Nat} {q : vw_C} (h : CL[ci]? = some q) : P ci q := by
  have hlt := cl_lt h
  match ci, h, hlt with
  | 0, h, _ => cases h; exact h0
  | 1, h, _ => cases h; exact h1
  | 2, h, _ => cases h; exact h2
  | 3, h, _ => cases h; exact h3
  | 4, h, _ => cases h; exact h4
  | 5, h, _ => cases h; exact h5
  | 6, h, _ => cases h; exact h6
  | 7, h, _ => cases h; exact h7 7 _ (by decide)
  | 8, h, _ => cases h; exact h7 8 _ (by decide)
  | 9, h, _ => cases h; exact h7 9 _ (by decide)
  | 10, h, _ => cases h; exact h7 10 _ (by decide)
  | 11, h, _ => cases h; exact h7 11 _ (by decide)
def ftyD (d : String) : FieldType := (parseFieldDescriptor d).getD .int
theorem cl_ty {ci : Nat} {q : vw_C} (h : CL[ci]? = some q) : ∀ k, k < q.2.2 → parseFieldDescriptor (q.2.1 k).2.2.1 = some (ftyD (q.2.1 k).2.2.1) := by
  refine cl_ind (P := fun _ q => ∀ k, k < q.2.2 → parseFieldDescriptor (q.2.1 k).2.2.1 = some (ftyD (q.2.1 k).2.2.1)) ?_ ?_ ?_ ?_ ?_ ?_ ?_ (fun _ _ _ k hk => absurd hk (Nat.not_lt_zero k)) h
  all_goals decide +kernel
theorem cl_nm {ci : Nat} {q : vw_C} (h : CL[ci]? = some q) : ∀ a, a < q.2.2 → ∀ b, b < q.2.2 → a ≠ b → (q.2.1 a).2.1 ≠ (q.2.1 b).2.1 := by
  refine cl_ind (P := fun _ q => ∀ a, a < q.2.2 → ∀ b, b < q.2.2 → a ≠ b → (q.2.1 a).2.1 ≠ (q.2.1 b).2.1) ?_ ?_ ?_ ?_ ?_ ?_ ?_ (fun _ _ _ k hk => absurd hk (Nat.not_lt_zero k)) h
  all_goals decide +kernel
theorem cl_own {ci : Nat} {q : vw_C} (h : CL[ci]? = some q) : ∀ k, k < q.2.2 → (q.2.1 k).1 = q.1 := by
  refine cl_ind (P := fun _ q => ∀ k, k < q.2.2 → (q.2.1 k).1 = q.1) ?_ ?_ ?_ ?_ ?_ ?_ ?_ (fun _ _ _ k hk => absurd hk (Nat.not_lt_zero k)) h
  all_goals decide +kernel
theorem cl_len {ci : Nat} {q : vw_C} (h : CL[ci]? = some q) : (shp ci).length = q.2.2 := by
  refine cl_ind (P := fun ci q => (shp ci).length = q.2.2) rfl rfl rfl rfl rfl rfl rfl (fun ci C h7 => ?_) h
  match ci, h7 with
  | n + 7, _ => rfl
/-- the memory's picture -/
def Hd (G : Gl) (μ : Mem) (H : Heap) : Prop := LayG G μ ∧ H.size = gb G + mN μ ∧ ∀ r, r < mN μ → va_at (gD G) CL (gb G + r, rend G μ r) H
def Hq (G : Gl) (μ : Mem) (H : Heap) : Prop := H.size = gb G + mN μ ∧ ∀ r, r < mN μ → va_at (gD G) CL (gb G + r, rend G μ r) H
/-- a static field of a class that holds a reference or null, in a cell outside A -/
def Zs (C n d : String) (A : Nat → Prop) (U : State) (H : Heap) : Prop := ∃ (c : ClassId) (k : Class) (i : Nat) (f : Field) (a : Nat) (cell : Cell) (v : Value), U.vm.findClass C = some c ∧ U.fieldFound? C n d = some (c, k, i, f) ∧ f.isStatic = true ∧ k.statics = some a ∧ H[a]? = some cell ∧ cell.vm.isStatics = true ∧ cell.cls = c ∧ f.slot < cell.slots.size ∧ k.staticTypes[f.slot]? = some f.type ∧ cell.slots[f.slot]? = some v ∧ v.isRef = true ∧ ¬ A a
theorem Zs.moved {C n d : String} {A : Nat → Prop} {u U : State} {H : Heap} (hvm : u.vm.Alike U.vm) (h : Zs C n d A u H) : Zs C n d A U H := by
  obtain ⟨c, k, i, f, a, cell, v, h0, h1, h2, h3, h4, h5, h6, h7, h8, h9⟩ := h
  obtain ⟨k', hi', he⟩ := State.fieldFound?_setVm hvm h1
  exact ⟨c, k', i, f, a, cell, v, by rw [hvm.findClass]; exact h0, hi', h2, by rw [he]; exact h3, h4, h5, h6, h7, by rw [he]; exact h8, h9⟩
theorem Zs.kept {C n d : String} {A : Nat → Prop} {U : State} {H H1 : Heap} (h : Zs C n d A U H) (hq : ∀ a : Nat, a < H.size → ¬ A a → H1[a]? = H[a]?) : Zs C n d A U H1 := by
  obtain ⟨c, k, i, f, a, cell, v, h0, h1, h2, h3, h4, h5, h6, h7, h8, h9, h10, h11⟩ := h
  exact ⟨c, k, i, f, a, cell, v, h0, h1, h2, h3, by rw [hq a (Array.getElem?_eq_some_iff.mp h4).1 h11]; exact h4, h5, h6, h7, h8, h9, h10, h11⟩
theorem Zs.lays {C n d : String} {A : Nat → Prop} {U : State} {args : Array Value} (h : Zs C n d A U U.heap) : (Cond.laysStatic C n d).before args U = true := by
  obtain ⟨c, k, i, f, a, cell, v, h0, h1, h2, h3, h4, h5, h6, h7, h8, h9, h10, h11⟩ := h
  simp [Cond.before, Cond.holds, Cond.value, h0, h1, h2, h3, h4, h5, h6, h7, h8]
theorem Zs.isRef {C n d : String} {A : Nat → Prop} {U : State} {args : Array Value} (h : Zs C n d A U U.heap) : (Cond.isRef (.static C n d)).before args U = true := by
  obtain ⟨c, k, i, f, a, cell, v, h0, h1, h2, h3, h4, h5, h6, h7, h8, h9, h10, h11⟩ := h
  cases v <;> simp [Value.isRef] at h10 <;> simp [Cond.before, Cond.holds, Cond.value, Term.eval, State.fieldNamed?, h1, h2, h3, h4, h5, h9]
/-- classes of which one can't be assigned to the other: pairs that a catch passes by -/
def ncPairs : List (String × String) := [("java/lang/UnsupportedOperationException", "java/lang/IllegalArgumentException"), ("java/lang/IllegalStateException", "java/lang/IllegalArgumentException"), ("java/lang/IndexOutOfBoundsException", "java/lang/IllegalArgumentException"),
  ("java/lang/IndexOutOfBoundsException", "java/lang/IllegalStateException"), ("java/lang/IndexOutOfBoundsException", "java/util/NoSuchElementException"), ("java/util/NoSuchElementException", "java/lang/IllegalArgumentException")]
/-- what else a run needs: the script; the two statics that an exception's constructor reads; the class of arrays of Items -/
def Xtra (G : Gl) (U : State) (H : Heap) : Prop := va_X (ga G) (gL G) (gx G) U H ∧ ga G < gb G ∧ Zs "java/lang/Throwable" "UNASSIGNED_STACK" "[Ljava/lang/StackTraceElement;" (gF G) U H ∧ Zs "java/lang/Throwable" "SUPPRESSED_SENTINEL" "Ljava/util/List;" (gF G) U H ∧ va_AO "LineCollector$Item" U ∧ ∀ q ∈ ncPairs, va_Nc q.1 q.2 U
def Wd (G : Gl) (μ : Mem) (U : State) : Prop := Hd G μ U.heap ∧ va_K (gD G) CL (gT G) U ∧ Xtra G U U.heap
theorem Hd.P {G : Gl} {μ : Mem} {H : Heap} {r : Nat} {e : va_E} (h : Hd G μ H) (hr : r < mN μ) (he : rend G μ r = e) : va_P (gD G) CL [(gb G + r, e)] H := by
  intro k q hk
  cases k with
  | zero =>
    cases hk
    rw [← he]
    exact h.2.2 r hr
  | succ k => cases hk
theorem Hd.put {G : Gl} {μ μ' : Mem} {H H1 : Heap} {r : Nat} (h : Hd G μ H) (hL : LayG G μ') (hN : mN μ' = mN μ) (hz : H1.size = H.size) (oq : ∀ q, q ≠ gb G + r → H1[q]? = H[q]?)
    (hr : ∀ x, x ≠ r → rend G μ' x = rend G μ x) (ha : va_at (gD G) CL (gb G + r, rend G μ' r) H1) : Hd G μ' H1 := by
  refine ⟨hL, by rw [hz, hN]; exact h.2.1, fun x hx => ?_⟩
  rw [hN] at hx
  by_cases e : x = r
  · subst e
    exact ha
  · rw [hr x e]
    exact (h.2.2 x hx).kept (oq _ (by omega))
theorem ok_s {μ μ1 : Mem} {r j x k : Nat} {v : Int32} (e : μ1 = sI μ r j v) (h : okO μ x k) : okO μ1 x k := by subst e; exact h
theorem ok_t {μ μ1 : Mem} {r j x k : Nat} {v : Option Nat} (e : μ1 = sR μ r j v) (h : okO μ x k) : okO μ1 x k := by subst e; exact h
end
section
/-! A contract whose method may throw; the walk's judgement in a short form -/
def MetX (l : Launch) (y : MethodName) (ws : List Cond) (rm : Room) (Pc : Array Value → State → Prop) (Qc : Array Value → State → Outcome → State → Prop) (mc ms : Nat) (free : Addr → Prop) : Prop :=
  MetFree l y (headSpec ws rm) Pc (fun _ _ _ _ _ => True) (fun a st o t => Qc a st o t ∧ st.WarmedH t.vm ∧ ∃ L, st.sameButNew ({ t with vm := st.vm } : State) L mc ms ∧ ∀ q ∈ L, free q.base)
def MQX (below : List Frame) (Qc : Array Value → State → Outcome → State → Prop) (a : Array Value) (s : State) (mc ms : Nat) (free : Addr → Prop) : State → Prop := fun t =>
  ∃ o, t.status = .running ∧ Ended t below o ∧ Qc a s o t ∧ s.WarmedH t.vm ∧ ∃ L, s.sameButNew ({ t with vm := s.vm } : State) L mc ms ∧ ∀ q ∈ L, free q.base
theorem mq_x {below : List Frame} {Qc : Array Value → State → Outcome → State → Prop} {a : Array Value} {s t : State} {mc ms : Nat} {free : Addr → Prop} (h : MQ below Qc a s mc ms free t) : MQX below Qc a s mc ms free t := by
  obtain ⟨o, h1, h2, h3, L, ⟨-, hW, hF⟩, hL⟩ := h
  exact ⟨o, h1, h2, h3, hW, L, hF, hL⟩
section JX
variable {p : Program} {l : Launch} {e : Env} {R : Room} {s : State} {m : MethodId} {args : Array Value} {below : List Frame} {meth : Method} {c : Code} {H : Heap} {locs : List Loc} {cells slots : Nat} {Q : State → Prop} {T : State}
theorem wx_mono {Q' : State → Prop} {g : JFrame} (h : ∀ t, Q t → Q' t) (k : W p l e R s m args below meth c H locs cells slots Q g) : W p l e R s m args below meth c H locs cells slots Q' g := by
  intro T hT X
  obtain ⟨t, a, b⟩ := k T hT X
  exact ⟨t, a, h t b⟩
theorem MetX.ofW {y : MethodName} {ws ws' : List Cond} {rm : Room} {Pc : Array Value → State → Prop} {Qc : Array Value → State → Outcome → State → Prop} {mc ms : Nat} {free : Addr → Prop} {cc : ByteArray} {maxL : Nat} {ret : Option FieldType}
    (hy : plainName y.cls = true) (hw : ws = Cond.code y cc maxL ret :: ws')
    (body : ∀ p e s m args below meth c s₁, BodyLoose p l y (headSpec ws rm) cc maxL ret e s m args below meth c s₁ → c.maxLocals = maxL → Pc args s →
      W p l e (headSpec ws rm).room s m args below meth c s.heap [] 0 0 (MQX below Qc args s mc ms free) (entryFrame m args maxL)) : MetX l y ws rm Pc Qc mc ms free := by
  refine MetFree.of_bodyS (code := cc) (maxLocals := maxL) (ret := ret) hy ?_ ?_
  · intro args s m h hn
    obtain ⟨meth, c, h1, h2, h3, h4, h5, h6, -, -⟩ := Cond.code_spec hn (atoms_spec (ws := ws) h _ (by rw [hw]; exact List.mem_cons_self))
    exact ⟨meth, c, h1, h2, h3, h4, h5, h6⟩
  · intro p e s m args below meth c s₁ B hml hP _
    have hh0 : s₁.heap = s.heap := by rw [B.state]; rfl
    obtain ⟨t, a1, o, b1, b2, b3⟩ := body p e s m args below meth c s₁ B hml hP s₁ hh0 (Stand.of_body B)
    exact ⟨t, o, a1, b1, b2, b3⟩
theorem MetX.ofWW {y : MethodName} {ws ws' : List Cond} {rm : Room} {Pc : Array Value → State → Prop} {Qc : Array Value → State → Outcome → State → Prop} {mc ms : Nat} {free : Addr → Prop} {cc : ByteArray} {maxL : Nat} {ret : Option FieldType} {hh : List (Nat × Nat × Nat × Nat)}
    (hy : plainName y.cls = true) (hw : ws = Cond.codeWith y cc maxL ret hh :: ws')
    (body : ∀ p e s m args below meth c s₁, BodyLoose p l y (headSpec ws rm) cc maxL ret e s m args below meth c s₁ → c.maxLocals = maxL → Pc args s →
      W p l e (headSpec ws rm).room s m args below meth c s.heap [] 0 0 (MQX below Qc args s mc ms free) (entryFrame m args maxL)) : MetX l y ws rm Pc Qc mc ms free := by
  refine MetFree.of_bodyS (code := cc) (maxLocals := maxL) (ret := ret) hy ?_ ?_
  · intro args s m h hn
    obtain ⟨m9, meth, c, hn9, h1, h2, h3, h4, -, h5, h6, -⟩ := Cond.codeWith_spec (atoms_spec (ws := ws) h _ (by rw [hw]; exact List.mem_cons_self))
    cases hn.symm.trans hn9
    exact ⟨meth, c, h1, h2, h3, h4, h5, h6⟩
  · intro p e s m args below meth c s₁ B hml hP _
    have hh0 : s₁.heap = s.heap := by rw [B.state]; rfl
    obtain ⟨t, a1, o, b1, b2, b3⟩ := body p e s m args below meth c s₁ B hml hP s₁ hh0 (Stand.of_body B)
    exact ⟨t, o, a1, b1, b2, b3⟩
/-- a call comes back, or throws -/
theorem goX {y : MethodName} {ws : List Cond} {rm : Room} {Pc : Array Value → State → Prop} {Qc : Array Value → State → Outcome → State → Prop} {mc ms maxL Wt len : Nat} {free : Addr → Prop} (hM : MetX l y ws rm Pc Qc mc ms free) (hrc : rm.cells = mc) (hrs : rm.slots = ms)
    (hfr : rm.frames + 1 ≤ R.frames) (hlo : Wt + (maxL + 11) + rm.locals ≤ R.locals) (X : Stand p l e R s m args below meth c T locs cells slots) {g : JFrame} (hg : g.method = m) (hsize : g.locals.size = c.maxLocals) {ig : Instr} (hdg : decode c.code g.pc = .ok (ig, len))
    (hW : 2 * g.monitorRoom + (g.stack.map fun v => v.category).sum ≤ Wt) {mk : MethodId} {a : Array Value} (hn : T.methodNamed? y = some mk) {methY : Method} {cY : Code} (hmY : T.vm.method? mk = some methY) (hcY : methY.code = some cY) (hlY : cY.maxLocals = maxL)
    (hini : (Cond.initialized y.cls).before a T = true) (hpre : (allAtoms ws).before a T = true) (hcells : cells + mc ≤ R.cells) (hslots : slots + ms ≤ R.slots) (hP : Pc a (T.calling g mk a)) :
    ∃ (o : Outcome) (t T' : State) (L : List Loc), Stand p l e R s m args below meth c T' (locs ++ L) (cells + mc) (slots + ms) ∧ T'.heap = t.heap ∧ T'.vm = t.vm ∧ (∀ q ∈ L, free q.base) ∧ Qc a (T.calling g mk a) o t ∧ Steps p.tables e below (doInvoke e (T.setTop g) [] mk a).1 t ∧
      ((∃ v, o = .returned v ∧ t = T'.setTop { g with pc := g.pc + len, stack := v.toList ++ g.stack }) ∨ (∃ x, o = .threw x ∧ t = (T'.setTop g).pushFrame (.throwing x))) := by
  obtain ⟨kY, hkY, -⟩ := className_of_methodNamed hn
  have hinitY : kY.init = .initialized := Cond.initialized_spec (findClass_of_methodNamed hn) hkY hini
  have h : At T g.method c below := by rw [hg]; exact X.here
  have happ : (headSpec ws rm).appliesLoose y e.platform (T.calling g mk a) = true :=
    Spec.appliesLoose_calling (g := g) h hdg hn hkY hinitY
      (X.room_calling (g := g) (R' := (headSpec ws rm).room) hsize hmY hcY hfr (by rw [hlY]; show _ + rm.locals ≤ _; omega) (by show _ + rm.cells ≤ _; omega) (by show _ + rm.slots ≤ _; omega)) hpre
  obtain ⟨mid, hmid⟩ := h.above
  have hfr' : (T.setTop g).frames = (.java g :: mid) ++ below := by rw [State.frames_setTop' g h.top, hmid]; rfl
  obtain ⟨o, t, hsteps, -, hend, hq, hWd, L, hsame, hL⟩ := Steps.callFree hM p X.admits X.cas X.clock (acts := []) hfr' happ hP trivial
  rw [State.frames_setTop' g h.top, X.tail] at hend
  cases o with
  | returned v =>
    obtain ⟨T', X', -, -, ht⟩ := X.outOf hg hdg (mk := mk) (a := a) hend hWd hsame
    exact ⟨.returned v, t, T', L, X', by rw [ht]; rfl, by rw [ht]; rfl, hL, hq, hsteps, Or.inl ⟨v, rfl, ht⟩⟩
  | threw x =>
    obtain ⟨T', X', -, -, ht⟩ := X.outOfThrown hg (mk := mk) (a := a) hend hWd hsame
    exact ⟨.threw x, t, T', L, X', by rw [ht]; rfl, by rw [ht]; rfl, hL, hq, hsteps, Or.inr ⟨x, rfl, ht⟩⟩
/-- an invoking instruction has linked its method, and goes into it -/
def LandX (p : Program) (l : Launch) (e : Env) (R : Room) (s : State) (m : MethodId) (args : Array Value) (below : List Frame) (meth : Method) (c : Code) (T : State) (locs : List Loc) (cells slots : Nat) (g : JFrame) (rest : List Value) (y : MethodName) (avs : Array Value) (maxL : Nat) : Prop :=
  ∃ (vm₁ : Vm) (mk : MethodId) (methM : Method) (cM : Code), s.WarmedH vm₁ ∧ Stand p l e R s m args below meth c (T.setVm vm₁) locs cells slots ∧ (T.setVm vm₁).methodNamed? y = some mk ∧ vm₁.method? mk = some methM ∧ methM.code = some cM ∧ cM.maxLocals = maxL ∧
    ∀ target, Steps p.tables e below (doInvoke e ((T.setVm vm₁).setTop { g with stack := rest }) [] mk avs).1 target → Steps p.tables e below (T.setTop g) target
theorem landV (X : Stand p l e R s m args below meth c T locs cells slots) (hexec : p.tables.exec = Jvm.exec) {own C : String} {index : Nat} {y : MethodName} {bytes : ByteArray} {maxL : Nat} {ret : Option FieldType}
    (hown : s.vm.findClass own = some m.cls) (hlink : (Cond.methodLink own index y).before args s = true) (hinst : (Cond.instanceMethod y).before args s = true) (hsel : (Cond.selects C y y).before args s = true)
    (hcode : (Cond.code y bytes maxL ret).before args s = true) (hy : y.cls ≠ "java/lang/invoke/MethodHandle" ∧ y.cls ≠ "java/lang/invoke/VarHandle")
    {b : Addr} {cellB : Cell} (hcell : T.heap[b]? = some cellB) (hobj : cellB.vm.isStatics = false) (hcls : s.vm.findClass C = some cellB.cls)
    {g : JFrame} (hg : g.method = m) {argsL rest : List Value} (hlen : (parseMethodDescriptor y.desc).map (fun d => d.parameters.length) = some argsL.length)
    (hstack : g.stack = argsL.reverse ++ .ref b :: rest) (hdg : decode c.code g.pc = .ok (.invokevirtual index, 3)) :
    LandX p l e R s m args below meth c T locs cells slots g rest y (Value.ref b :: argsL).toArray maxL := by
  obtain ⟨mk, methM, hnamed, hmethM, hstM, habM⟩ := Cond.instanceMethod_spec hinst
  obtain ⟨methM', cM, hmethM', hcM, -, hlM, -, -, -, hsigM⟩ := Cond.code_spec hnamed hcode
  cases hmethM.symm.trans hmethM'
  obtain ⟨c2, r2, m2, q1, q2, q3, q4, kP, hkP, hkPi⟩ := Cond.selects_spec hsel
  cases hcls.symm.trans q1
  cases (State.methodFound?_of_named hnamed hy).symm.trans q2
  cases hnamed.symm.trans q3
  rw [hsigM] at hlen
  have hselP : selectMethod e.platform s.vm cellB.cls mk = .method mk := by rw [Launch.admits_selectMethod X.admits]; exact q4
  obtain ⟨vm₁, X₁, hstep₁⟩ := X.invokevirtual hexec hown hlink hnamed hmethM hstM hkP hkPi hy (a := b) (cell := cellB) hcell
    (fun z h => by rw [h] at hobj; cases hobj) hselP hmethM habM hkP hkPi (g := g) hg (argsL := argsL) (rest := rest) (Option.some.inj hlen).symm hstack hdg
  refine ⟨vm₁, mk, methM, cM, X₁.warmed, X₁, X₁.named hnamed, ?_, hcM, hlM, fun target h => hstep₁ _ fun acts => by rw [doInvoke_state]; exact h⟩
  have h1 : s.vm.Alike vm₁ := X₁.warmed.alike
  rw [h1.method?]
  exact hmethM
theorem landS (X : Stand p l e R s m args below meth c T locs cells slots) (hexec : p.tables.exec = Jvm.exec) {own : String} {index : Nat} {y : MethodName} {maxL : Nat}
    (hown : s.vm.findClass own = some m.cls) (hlink : (Cond.methodLink own index y).before args s = true) (hstat : (Cond.static y).before args s = true) (hinit : (Cond.initialized y.cls).before args s = true)
    {mk : MethodId} {methM : Method} {cM : Code} (hnamed : s.methodNamed? y = some mk) (hmethM : s.vm.method? mk = some methM) (hcM : methM.code = some cM) (hlM : cM.maxLocals = maxL) (hsigM : parseMethodDescriptor y.desc = some methM.sig)
    (hy : y.cls ≠ "java/lang/invoke/MethodHandle" ∧ y.cls ≠ "java/lang/invoke/VarHandle")
    {g : JFrame} (hg : g.method = m) {argsL rest : List Value} (hlen : (parseMethodDescriptor y.desc).map (fun d => d.parameters.length) = some argsL.length)
    (hstack : g.stack = argsL.reverse ++ rest) (hdg : decode c.code g.pc = .ok (.invokestatic index, 3)) :
    LandX p l e R s m args below meth c T locs cells slots g rest y argsL.toArray maxL := by
  have hstatic : methM.isStatic = true := Cond.static_spec hnamed hmethM hstat
  obtain ⟨kP, hkP, -⟩ := className_of_methodNamed hnamed
  have hinitP : kP.init = .initialized := Cond.initialized_spec (findClass_of_methodNamed hnamed) hkP hinit
  rw [hsigM] at hlen
  obtain ⟨vm₁, X₁, hstep₁⟩ := X.invokestatic hexec hown hlink hnamed hmethM hstatic hkP hinitP hy (g := g) hg (argsL := argsL) (rest := rest) (Option.some.inj hlen).symm hstack hdg
  refine ⟨vm₁, mk, methM, cM, X₁.warmed, X₁, X₁.named hnamed, ?_, hcM, hlM, fun target h => hstep₁ _ fun acts => by rw [doInvoke_state]; exact h⟩
  have h1 : s.vm.Alike vm₁ := X₁.warmed.alike
  rw [h1.method?]
  exact hmethM
/-- through a call: what the callee leaves, and how the walk goes on -/
theorem overX {y : MethodName} {ws : List Cond} {rm : Room} {Pc : Array Value → State → Prop} {Qc : Array Value → State → Outcome → State → Prop} {mc ms maxL : Nat} {free : Addr → Prop} {cc : ByteArray} (hb : c.code = cc) (hM : MetX l y ws rm Pc Qc mc ms free) (hrc : rm.cells = mc) (hrs : rm.slots = ms)
    (hfr : rm.frames + 1 ≤ R.frames) (hlo : 8 + (maxL + 11) + rm.locals ≤ R.locals) {g : JFrame} (hg : g.method = m) (hsize : g.locals.size = c.maxLocals) {ig : Instr} (hdg : decode cc g.pc = .ok (ig, 3)) {rest : List Value} {avs : Array Value}
    (hW : 2 * g.monitorRoom + (rest.map fun v => v.category).sum ≤ 8) (hws : ∀ w ∈ ws, ∀ (a' : Array Value) (U : State), s.WarmedH U.vm → w.before a' U = true) (hini : ∀ (a' : Array Value) (U : State), s.WarmedH U.vm → (Cond.initialized y.cls).before a' U = true)
    (hland : ∀ T : State, T.heap = H → Stand p l e R s m args below meth c T locs cells slots → LandX p l e R s m args below meth c T locs cells slots g rest y avs maxL)
    (hcells : cells + mc ≤ R.cells) (hslots : slots + ms ≤ R.slots) (hP : ∀ (U : State), U.heap = H → s.WarmedH U.vm → Pc avs U)
    (kr : ∀ (v : Option Value) (st t : State) (L : List Loc), st.heap = H → s.WarmedH t.vm → Qc avs st (.returned v) t → (∀ q ∈ L, free q.base) →
      W p l e R s m args below meth c t.heap (locs ++ L) (cells + mc) (slots + ms) Q { g with pc := g.pc + 3, stack := v.toList ++ rest })
    (kt : ∀ (x : Addr) (st t : State) (L : List Loc), st.heap = H → s.WarmedH t.vm → Qc avs st (.threw x) t → (∀ q ∈ L, free q.base) →
      ∀ T' : State, T'.heap = t.heap → Stand p l e R s m args below meth c T' (locs ++ L) (cells + mc) (slots + ms) → ∃ t2, Steps p.tables e below ((T'.setTop { g with stack := rest }).pushFrame (.throwing x)) t2 ∧ Q t2) :
    W p l e R s m args below meth c H locs cells slots Q g := by
  intro T hT X
  obtain ⟨vm₁, mk, methM, cM, hW₁, X₁, hn, hm, hcM, hlM, st⟩ := hland T hT X
  obtain ⟨o, t, T', L, X', e1, e2, hL, hq, hst, hor⟩ := goX (g := { g with stack := rest }) (len := 3) (maxL := maxL) (Wt := 8) hM hrc hrs hfr hlo X₁ hg hsize (by rw [hb]; exact hdg) hW (mk := mk) (a := avs) hn hm hcM hlM (hini _ _ X₁.warmed) (atoms_intro fun w hw => hws w hw _ _ X₁.warmed) hcells hslots (hP _ (by exact hT) hW₁)
  have hWt : s.WarmedH t.vm := by rw [← e2]; exact X'.warmed
  rcases hor with ⟨v, rfl, ht⟩ | ⟨x, rfl, ht⟩
  · obtain ⟨t2, a1, b1⟩ := kr v _ t L (by exact hT) hWt hq hL T' e1 X'
    rw [ht] at hst
    exact ⟨t2, st _ (hst.trans a1), b1⟩
  · obtain ⟨t2, a1, b1⟩ := kt x _ t L (by exact hT) hWt hq hL T' e1 X'
    rw [ht] at hst
    exact ⟨t2, st _ (hst.trans a1), b1⟩
end JX
end
section
/-! The tables' words that stay true when the tables grow warmer -/
def wk : Cond → Bool
  | .declares _ => true
  | .castable _ _ => true
  | .not (.castable _ _) => true
  | .methodLinkNest .. => true
  | .arrayClass _ => true
  | c => c.onTables && c.keeps
theorem castable_warm {C T : String} {args a' : Array Value} {s U : State} (hW : s.WarmedH U.vm) (h : (Cond.castable C T).before args s = true) : (Cond.castable C T).before a' U = true := by
  obtain ⟨c, t, h1, h2, h3⟩ := Cond.castable_spec h
  have hal := hW.alike
  have g1 : U.vm.findClass C = some c := by rw [hal.findClass]; exact h1
  have g2 : U.vm.findClass T = some t := by rw [hal.findClass]; exact h2
  have g3 : U.vm.assignable c t = true := by rw [hal.assignable]; exact h3
  simp [Cond.before, Cond.holds, Cond.value, g1, g2, g3]
theorem notcast_warm {C T : String} {args a' : Array Value} {s U : State} (hW : s.WarmedH U.vm) (h : (Cond.not (.castable C T)).before args s = true) : (Cond.not (.castable C T)).before a' U = true := by
  obtain ⟨c, t, h1, h2, h3⟩ := va_Nc.of h
  have hal := hW.alike
  have g1 : U.vm.findClass C = some c := by rw [hal.findClass]; exact h1
  have g2 : U.vm.findClass T = some t := by rw [hal.findClass]; exact h2
  have g3 : U.vm.assignable c t = false := by rw [hal.assignable]; exact h3
  simp [Cond.before, Cond.holds, Cond.value, g1, g2, g3]
theorem wk_ok {w : Cond} (hk : wk w = true) {args a' : Array Value} {s U : State} (hW : s.WarmedH U.vm) (h : w.before args s = true) : w.before a' U = true := by
  unfold wk at hk
  split at hk
  · exact va_Nw.use rfl (va_Nw.warmD hW (va_Nw.of rfl h))
  · exact castable_warm hW h
  · exact notcast_warm hW h
  · exact va_Nw.use rfl (va_Nw.warmM hW (va_Nw.of rfl h))
  · exact word_at hW (Or.inr ⟨_, rfl⟩) h
  · exact word_at hW (Or.inl hk) h
def LW : List Cond := lw_tbl.filter wk
theorem lw_ok (w : Cond) (h : w ∈ LW) {args a' : Array Value} {s U : State} (hW : s.WarmedH U.vm) (hb : w.before args s = true) : w.before a' U = true := wk_ok (List.mem_filter.mp h).2 hW hb
theorem tb (i : Nat) {w : Cond} (h : tables_1[i]? = some w) (hk : wk w = true) : w ∈ LW := List.mem_filter.mpr ⟨List.mem_append_right _ (List.mem_of_getElem? h), hk⟩
theorem tp {q : MethodName × Nat} (i : Nat) (h : lw_privs[i]? = some q) (hk : wk (.selects q.1.cls q.1 q.1) = true) : Cond.selects q.1.cls q.1 q.1 ∈ LW := List.mem_filter.mpr ⟨List.mem_append_left _ (List.mem_map.mpr ⟨q, List.mem_of_getElem? h, rfl⟩), hk⟩
theorem lw_sub {args : Array Value} {s : State} (h : ∀ w ∈ lw_tbl, w.before args s = true) : ∀ w ∈ LW, w.before args s = true := fun w hw => h w (List.mem_filter.mp hw).1
theorem cl_in_ok : ∀ w ∈ (u_ws "LineCollector" fT_C 11 ++ (u_ws "LineCollector$Places" fT_P 5 ++ (u_ws "LineCollector$Span" fT_S 3 ++ (u_ws "LineCollector$Log" fT_G 4 ++ (u_ws "LineCollector$Row" fT_W 3 ++ (u_ws "LineCollector$Item" fT_I 7 ++ u_ws "LineCollectorModel" fT_M 31)))))), w ∈ tables_1 ∧ wk w = true := by decide +kernel
theorem cl_in_w {w : Cond} (h : w ∈ (u_ws "LineCollector" fT_C 11 ++ (u_ws "LineCollector$Places" fT_P 5 ++ (u_ws "LineCollector$Span" fT_S 3 ++ (u_ws "LineCollector$Log" fT_G 4 ++ (u_ws "LineCollector$Row" fT_W 3 ++ (u_ws "LineCollector$Item" fT_I 7 ++ u_ws "LineCollectorModel" fT_M 31))))))) : w ∈ LW := List.mem_filter.mpr ⟨List.mem_append_right _ (cl_in_ok w h).1, (cl_in_ok w h).2⟩
theorem cl_in {ci : Nat} {q : vw_C} (h : CL[ci]? = some q) : ∀ w ∈ u_ws q.1 q.2.1 q.2.2, w ∈ LW := by
  refine cl_ind (P := fun _ q => ∀ w ∈ u_ws q.1 q.2.1 q.2.2, w ∈ LW) ?_ ?_ ?_ ?_ ?_ ?_ ?_ (fun _ _ _ w hw => by cases hw) h
  · exact fun w hw => cl_in_w (List.mem_append_left _ hw)
  · exact fun w hw => cl_in_w (List.mem_append_right _ (List.mem_append_left _ hw))
  · exact fun w hw => cl_in_w (List.mem_append_right _ (List.mem_append_right _ (List.mem_append_left _ hw)))
  · exact fun w hw => cl_in_w (List.mem_append_right _ (List.mem_append_right _ (List.mem_append_right _ (List.mem_append_left _ hw))))
  · exact fun w hw => cl_in_w (List.mem_append_right _ (List.mem_append_right _ (List.mem_append_right _ (List.mem_append_right _ (List.mem_append_left _ hw)))))
  · exact fun w hw => cl_in_w (List.mem_append_right _ (List.mem_append_right _ (List.mem_append_right _ (List.mem_append_right _ (List.mem_append_right _ (List.mem_append_left _ hw))))))
  · exact fun w hw => cl_in_w (List.mem_append_right _ (List.mem_append_right _ (List.mem_append_right _ (List.mem_append_right _ (List.mem_append_right _ (List.mem_append_right _ hw))))))
set_option maxRecDepth 20000 in
theorem k_39 {a : Array Value} {s : State} (h : ∀ w ∈ LW, w.before a s = true) : (Jvm.Cond.fieldLink "LineCollector$Span" 9 "LineCollector$Span" "start" "I").before a s = true := h _ (tb 39 rfl rfl)
set_option maxRecDepth 20000 in
theorem k_40 {a : Array Value} {s : State} (h : ∀ w ∈ LW, w.before a s = true) : (Jvm.Cond.fieldLink "LineCollector$Span" 15 "LineCollector$Span" "cursor" "I").before a s = true := h _ (tb 40 rfl rfl)
set_option maxRecDepth 20000 in
theorem k_41 {a : Array Value} {s : State} (h : ∀ w ∈ LW, w.before a s = true) : (Jvm.Cond.fieldLink "LineCollector$Span" 18 "LineCollector$Span" "end" "I").before a s = true := h _ (tb 41 rfl rfl)
set_option maxRecDepth 20000 in
theorem k_51 {a : Array Value} {s : State} (h : ∀ w ∈ LW, w.before a s = true) : (Jvm.Cond.fieldLink "LineCollector$Places" 9 "LineCollector$Places" "cellsOwned" "[I").before a s = true := h _ (tb 51 rfl rfl)
set_option maxRecDepth 20000 in
theorem k_52 {a : Array Value} {s : State} (h : ∀ w ∈ LW, w.before a s = true) : (Jvm.Cond.fieldLink "LineCollector$Places" 15 "LineCollector$Places" "movedOut" "[Z").before a s = true := h _ (tb 52 rfl rfl)
set_option maxRecDepth 20000 in
theorem k_53 {a : Array Value} {s : State} (h : ∀ w ∈ LW, w.before a s = true) : (Jvm.Cond.fieldLink "LineCollector$Places" 22 "LineCollector$Places" "hole" "LLineCollector$Span;").before a s = true := h _ (tb 53 rfl rfl)
set_option maxRecDepth 20000 in
theorem k_54 {a : Array Value} {s : State} (h : ∀ w ∈ LW, w.before a s = true) : (Jvm.Cond.fieldLink "LineCollector$Places" 26 "LineCollector$Places" "overflow" "LLineCollector$Span;").before a s = true := h _ (tb 54 rfl rfl)
set_option maxRecDepth 20000 in
theorem k_55 {a : Array Value} {s : State} (h : ∀ w ∈ LW, w.before a s = true) : (Jvm.Cond.fieldLink "LineCollector$Places" 29 "LineCollector$Places" "shutBlock" "I").before a s = true := h _ (tb 55 rfl rfl)
set_option maxRecDepth 20000 in
theorem k_74 {a : Array Value} {s : State} (h : ∀ w ∈ LW, w.before a s = true) : (Jvm.Cond.fieldLink "LineCollector$Log" 11 "LineCollector$Log" "items" "[LLineCollector$Item;").before a s = true := h _ (tb 74 rfl rfl)
set_option maxRecDepth 20000 in
theorem k_75 {a : Array Value} {s : State} (h : ∀ w ∈ LW, w.before a s = true) : (Jvm.Cond.fieldLink "LineCollector$Log" 17 "LineCollector$Log" "fields" "[I").before a s = true := h _ (tb 75 rfl rfl)
set_option maxRecDepth 20000 in
theorem k_76 {a : Array Value} {s : State} (h : ∀ w ∈ LW, w.before a s = true) : (Jvm.Cond.fieldLink "LineCollector$Log" 21 "LineCollector$Log" "before" "[LLineCollector$Item;").before a s = true := h _ (tb 76 rfl rfl)
set_option maxRecDepth 20000 in
theorem k_77 {a : Array Value} {s : State} (h : ∀ w ∈ LW, w.before a s = true) : (Jvm.Cond.fieldLink "LineCollector$Log" 24 "LineCollector$Log" "length" "I").before a s = true := h _ (tb 77 rfl rfl)
set_option maxRecDepth 20000 in
theorem k_78 {a : Array Value} {s : State} (h : ∀ w ∈ LW, w.before a s = true) : (Jvm.Cond.fieldLink "LineCollector" 184 "LineCollector$Log" "length" "I").before a s = true := h _ (tb 78 rfl rfl)
set_option maxRecDepth 20000 in
theorem k_95 {a : Array Value} {s : State} (h : ∀ w ∈ LW, w.before a s = true) : (Jvm.Cond.fieldLink "LineCollector$Row" 11 "LineCollector$Row" "items" "[LLineCollector$Item;").before a s = true := h _ (tb 95 rfl rfl)
set_option maxRecDepth 20000 in
theorem k_96 {a : Array Value} {s : State} (h : ∀ w ∈ LW, w.before a s = true) : (Jvm.Cond.fieldLink "LineCollector$Row" 21 "LineCollector$Row" "first" "I").before a s = true := h _ (tb 96 rfl rfl)
set_option maxRecDepth 20000 in
theorem k_97 {a : Array Value} {s : State} (h : ∀ w ∈ LW, w.before a s = true) : (Jvm.Cond.fieldLink "LineCollector$Row" 17 "LineCollector$Row" "length" "I").before a s = true := h _ (tb 97 rfl rfl)
set_option maxRecDepth 20000 in
theorem k_98 {a : Array Value} {s : State} (h : ∀ w ∈ LW, w.before a s = true) : (Jvm.Cond.fieldLink "LineCollector" 95 "LineCollector$Row" "length" "I").before a s = true := h _ (tb 98 rfl rfl)
set_option maxRecDepth 20000 in
theorem k_106 {a : Array Value} {s : State} (h : ∀ w ∈ LW, w.before a s = true) : (Jvm.Cond.fieldLink "LineCollector" 11 "LineCollector" "roots" "[LLineCollector$Item;").before a s = true := h _ (tb 106 rfl rfl)
set_option maxRecDepth 20000 in
theorem k_107 {a : Array Value} {s : State} (h : ∀ w ∈ LW, w.before a s = true) : (Jvm.Cond.fieldLink "LineCollector" 15 "LineCollector" "rootsAtLastPause" "[LLineCollector$Item;").before a s = true := h _ (tb 107 rfl rfl)
set_option maxRecDepth 20000 in
theorem k_108 {a : Array Value} {s : State} (h : ∀ w ∈ LW, w.before a s = true) : (Jvm.Cond.fieldLink "LineCollector" 18 "LineCollector" "itemAt" "[LLineCollector$Item;").before a s = true := h _ (tb 108 rfl rfl)
set_option maxRecDepth 20000 in
theorem k_109 {a : Array Value} {s : State} (h : ∀ w ∈ LW, w.before a s = true) : (Jvm.Cond.fieldLink "LineCollector" 24 "LineCollector" "places" "LLineCollector$Places;").before a s = true := h _ (tb 109 rfl rfl)
set_option maxRecDepth 20000 in
theorem k_110 {a : Array Value} {s : State} (h : ∀ w ∈ LW, w.before a s = true) : (Jvm.Cond.fieldLink "LineCollector" 31 "LineCollector" "log" "LLineCollector$Log;").before a s = true := h _ (tb 110 rfl rfl)
set_option maxRecDepth 20000 in
theorem k_111 {a : Array Value} {s : State} (h : ∀ w ∈ LW, w.before a s = true) : (Jvm.Cond.fieldLink "LineCollector" 38 "LineCollector" "waiting" "LLineCollector$Row;").before a s = true := h _ (tb 111 rfl rfl)
set_option maxRecDepth 20000 in
theorem k_112 {a : Array Value} {s : State} (h : ∀ w ∈ LW, w.before a s = true) : (Jvm.Cond.fieldLink "LineCollector" 42 "LineCollector" "slots" "LLineCollector$Row;").before a s = true := h _ (tb 112 rfl rfl)
set_option maxRecDepth 20000 in
theorem k_113 {a : Array Value} {s : State} (h : ∀ w ∈ LW, w.before a s = true) : (Jvm.Cond.fieldLink "LineCollector" 99 "LineCollector" "traceRuns" "Z").before a s = true := h _ (tb 113 rfl rfl)
set_option maxRecDepth 20000 in
theorem k_114 {a : Array Value} {s : State} (h : ∀ w ∈ LW, w.before a s = true) : (Jvm.Cond.fieldLink "LineCollector" 113 "LineCollector" "pauses" "I").before a s = true := h _ (tb 114 rfl rfl)
set_option maxRecDepth 20000 in
theorem k_115 {a : Array Value} {s : State} (h : ∀ w ∈ LW, w.before a s = true) : (Jvm.Cond.fieldLink "LineCollector" 185 "LineCollector" "moves" "I").before a s = true := h _ (tb 115 rfl rfl)
set_option maxRecDepth 20000 in
theorem k_116 {a : Array Value} {s : State} (h : ∀ w ∈ LW, w.before a s = true) : (Jvm.Cond.fieldLink "LineCollector" 188 "LineCollector" "goneAsWhite" "I").before a s = true := h _ (tb 116 rfl rfl)
set_option maxRecDepth 20000 in
theorem k_140 {a : Array Value} {s : State} (h : ∀ w ∈ LW, w.before a s = true) : (Jvm.Cond.methodLink "LineCollectorLaw" 97 ⟨"LineCollector", "pause", "(Z)I"⟩).before a s = true := h _ (tb 140 rfl rfl)
set_option maxRecDepth 20000 in
theorem k_144 {a : Array Value} {s : State} (h : ∀ w ∈ LW, w.before a s = true) : (Jvm.Cond.constant "LineCollector" 116 (1000000 : Int32)).before a s = true := h _ (tb 144 rfl rfl)
set_option maxRecDepth 20000 in
theorem k_145 {a : Array Value} {s : State} (h : ∀ w ∈ LW, w.before a s = true) : (Jvm.Cond.methodLink "LineCollector" 91 ⟨"LineCollector", "drainUpTo", "(I)V"⟩).before a s = true := h _ (tb 145 rfl rfl)
set_option maxRecDepth 20000 in
theorem k_149 {a : Array Value} {s : State} (h : ∀ w ∈ LW, w.before a s = true) : (Jvm.Cond.methodLink "LineCollector" 207 ⟨"LineCollector$Row", "takeFirst", "()LLineCollector$Item;"⟩).before a s = true := h _ (tb 149 rfl rfl)
set_option maxRecDepth 20000 in
theorem k_153 {a : Array Value} {s : State} (h : ∀ w ∈ LW, w.before a s = true) : (Jvm.Cond.methodLink "LineCollector" 211 ⟨"LineCollector", "letGo", "(LLineCollector$Item;)V"⟩).before a s = true := h _ (tb 153 rfl rfl)
set_option maxRecDepth 20000 in
theorem k_157 {a : Array Value} {s : State} (h : ∀ w ∈ LW, w.before a s = true) : (Jvm.Cond.methodLink "LineCollector" 215 ⟨"LineCollector", "remove", "(LLineCollector$Item;)V"⟩).before a s = true := h _ (tb 157 rfl rfl)
set_option maxRecDepth 20000 in
theorem k_161 {a : Array Value} {s : State} (h : ∀ w ∈ LW, w.before a s = true) : (Jvm.Cond.methodLink "LineCollector" 200 ⟨"LineCollector$Places", "vacate", "(II)V"⟩).before a s = true := h _ (tb 161 rfl rfl)
set_option maxRecDepth 20000 in
theorem k_165 {a : Array Value} {s : State} (h : ∀ w ∈ LW, w.before a s = true) : (Jvm.Cond.methodLink "LineCollector" 218 ⟨"LineCollector$Row", "add", "(LLineCollector$Item;)V"⟩).before a s = true := h _ (tb 165 rfl rfl)
set_option maxRecDepth 20000 in
theorem k_169 {a : Array Value} {s : State} (h : ∀ w ∈ LW, w.before a s = true) : (Jvm.Cond.methodLink "LineCollector" 220 ⟨"LineCollector$Item", "turnGreyIfWhite", "()V"⟩).before a s = true := h _ (tb 169 rfl rfl)
set_option maxRecDepth 20000 in
theorem k_173 {a : Array Value} {s : State} (h : ∀ w ∈ LW, w.before a s = true) : (Jvm.Cond.methodLink "LineCollector$Item" 36 ⟨"LineCollector$Item", "isWhite", "()Z"⟩).before a s = true := h _ (tb 173 rfl rfl)
set_option maxRecDepth 20000 in
theorem k_177 {a : Array Value} {s : State} (h : ∀ w ∈ LW, w.before a s = true) : (Jvm.Cond.methodLink "LineCollector$Item" 29 ⟨"LineCollector$Item", "isOld", "()Z"⟩).before a s = true := h _ (tb 177 rfl rfl)
set_option maxRecDepth 20000 in
theorem k_181 {a : Array Value} {s : State} (h : ∀ w ∈ LW, w.before a s = true) : (Jvm.Cond.methodLink "LineCollector" 117 ⟨"LineCollector$Places", "close", "()V"⟩).before a s = true := h _ (tb 181 rfl rfl)
set_option maxRecDepth 20000 in
theorem k_185 {a : Array Value} {s : State} (h : ∀ w ∈ LW, w.before a s = true) : (Jvm.Cond.methodLink "LineCollector$Places" 37 ⟨"LineCollector$Span", "open", "(II)V"⟩).before a s = true := h _ (tb 185 rfl rfl)
set_option maxRecDepth 20000 in
theorem k_189 {a : Array Value} {s : State} (h : ∀ w ∈ LW, w.before a s = true) : (Jvm.Cond.methodLink "LineCollector" 120 ⟨"LineCollector", "countSlots", "()I"⟩).before a s = true := h _ (tb 189 rfl rfl)
set_option maxRecDepth 20000 in
theorem k_193 {a : Array Value} {s : State} (h : ∀ w ∈ LW, w.before a s = true) : (Jvm.Cond.methodLink "LineCollector" 229 ⟨"LineCollector", "gatherSlots", "()V"⟩).before a s = true := h _ (tb 193 rfl rfl)
set_option maxRecDepth 20000 in
theorem k_197 {a : Array Value} {s : State} (h : ∀ w ∈ LW, w.before a s = true) : (Jvm.Cond.methodLink "LineCollector" 253 ⟨"LineCollector$Row", "clear", "()V"⟩).before a s = true := h _ (tb 197 rfl rfl)
set_option maxRecDepth 20000 in
theorem k_201 {a : Array Value} {s : State} (h : ∀ w ∈ LW, w.before a s = true) : (Jvm.Cond.methodLink "LineCollector" 256 ⟨"LineCollector$Log", "heldNow", "(I)LLineCollector$Item;"⟩).before a s = true := h _ (tb 201 rfl rfl)
set_option maxRecDepth 20000 in
theorem k_205 {a : Array Value} {s : State} (h : ∀ w ∈ LW, w.before a s = true) : (Jvm.Cond.methodLink "LineCollector" 232 ⟨"LineCollector$Row", "get", "(I)LLineCollector$Item;"⟩).before a s = true := h _ (tb 205 rfl rfl)
set_option maxRecDepth 20000 in
theorem k_209 {a : Array Value} {s : State} (h : ∀ w ∈ LW, w.before a s = true) : (Jvm.Cond.methodLink "LineCollector" 80 ⟨"LineCollector$Item", "isOld", "()Z"⟩).before a s = true := h _ (tb 209 rfl rfl)
set_option maxRecDepth 20000 in
theorem k_210 {a : Array Value} {s : State} (h : ∀ w ∈ LW, w.before a s = true) : (Jvm.Cond.methodLink "LineCollector" 235 ⟨"java/lang/Math", "min", "(II)I"⟩).before a s = true := h _ (tb 210 rfl rfl)
set_option maxRecDepth 20000 in
theorem k_213 {a : Array Value} {s : State} (h : ∀ w ∈ LW, w.before a s = true) : (Jvm.Cond.methodLink "LineCollector" 241 ⟨"LineCollector$Item", "growOld", "(I)V"⟩).before a s = true := h _ (tb 213 rfl rfl)
set_option maxRecDepth 20000 in
theorem k_217 {a : Array Value} {s : State} (h : ∀ w ∈ LW, w.before a s = true) : (Jvm.Cond.methodLink "LineCollector" 52 ⟨"LineCollector$Places", "find", "(I)I"⟩).before a s = true := h _ (tb 217 rfl rfl)
set_option maxRecDepth 20000 in
theorem k_221 {a : Array Value} {s : State} (h : ∀ w ∈ LW, w.before a s = true) : (Jvm.Cond.methodLink "LineCollector$Places" 41 ⟨"LineCollector$Span", "has", "(I)Z"⟩).before a s = true := h _ (tb 221 rfl rfl)
set_option maxRecDepth 20000 in
theorem k_225 {a : Array Value} {s : State} (h : ∀ w ∈ LW, w.before a s = true) : (Jvm.Cond.methodLink "LineCollector$Places" 44 ⟨"LineCollector$Span", "take", "(I)I"⟩).before a s = true := h _ (tb 225 rfl rfl)
set_option maxRecDepth 20000 in
theorem k_229 {a : Array Value} {s : State} (h : ∀ w ∈ LW, w.before a s = true) : (Jvm.Cond.methodLink "LineCollector$Places" 48 ⟨"LineCollector$Places", "openHole", "()Z"⟩).before a s = true := h _ (tb 229 rfl rfl)
set_option maxRecDepth 20000 in
theorem k_233 {a : Array Value} {s : State} (h : ∀ w ∈ LW, w.before a s = true) : (Jvm.Cond.methodLink "LineCollector$Places" 55 ⟨"LineCollector$Span", "endLine", "()I"⟩).before a s = true := h _ (tb 233 rfl rfl)
set_option maxRecDepth 20000 in
theorem k_237 {a : Array Value} {s : State} (h : ∀ w ∈ LW, w.before a s = true) : (Jvm.Cond.methodLink "LineCollector$Places" 59 ⟨"LineCollector$Places", "isFree", "(I)Z"⟩).before a s = true := h _ (tb 237 rfl rfl)
set_option maxRecDepth 20000 in
theorem k_241 {a : Array Value} {s : State} (h : ∀ w ∈ LW, w.before a s = true) : (Jvm.Cond.methodLink "LineCollector$Places" 33 ⟨"LineCollector$Span", "covers", "(I)Z"⟩).before a s = true := h _ (tb 241 rfl rfl)
set_option maxRecDepth 20000 in
theorem k_245 {a : Array Value} {s : State} (h : ∀ w ∈ LW, w.before a s = true) : (Jvm.Cond.methodLink "LineCollector$Places" 52 ⟨"LineCollector$Places", "openOverflow", "()Z"⟩).before a s = true := h _ (tb 245 rfl rfl)
set_option maxRecDepth 20000 in
theorem k_249 {a : Array Value} {s : State} (h : ∀ w ∈ LW, w.before a s = true) : (Jvm.Cond.methodLink "LineCollector" 244 ⟨"LineCollector", "moveTo", "(LLineCollector$Item;I)V"⟩).before a s = true := h _ (tb 249 rfl rfl)
set_option maxRecDepth 20000 in
theorem k_253 {a : Array Value} {s : State} (h : ∀ w ∈ LW, w.before a s = true) : (Jvm.Cond.methodLink "LineCollector" 197 ⟨"LineCollector$Places", "moveOut", "(II)V"⟩).before a s = true := h _ (tb 253 rfl rfl)
set_option maxRecDepth 20000 in
theorem k_257 {a : Array Value} {s : State} (h : ∀ w ∈ LW, w.before a s = true) : (Jvm.Cond.methodLink "LineCollector" 65 ⟨"LineCollector", "settle", "(LLineCollector$Item;I)V"⟩).before a s = true := h _ (tb 257 rfl rfl)
set_option maxRecDepth 20000 in
theorem k_261 {a : Array Value} {s : State} (h : ∀ w ∈ LW, w.before a s = true) : (Jvm.Cond.methodLink "LineCollector" 194 ⟨"LineCollector$Places", "occupy", "(II)V"⟩).before a s = true := h _ (tb 261 rfl rfl)
set_option maxRecDepth 20000 in
theorem k_265 {a : Array Value} {s : State} (h : ∀ w ∈ LW, w.before a s = true) : (Jvm.Cond.methodLink "LineCollector" 247 ⟨"LineCollector", "addFieldsToSlots", "(LLineCollector$Item;)V"⟩).before a s = true := h _ (tb 265 rfl rfl)
set_option maxRecDepth 20000 in
theorem k_269 {a : Array Value} {s : State} (h : ∀ w ∈ LW, w.before a s = true) : (Jvm.Cond.methodLink "LineCollector" 250 ⟨"LineCollector$Places", "forgetMovedOut", "()V"⟩).before a s = true := h _ (tb 269 rfl rfl)
set_option maxRecDepth 20000 in
theorem k_273 {a : Array Value} {s : State} (h : ∀ w ∈ LW, w.before a s = true) : (Jvm.Cond.methodLink "LineCollector" 123 ⟨"LineCollector", "loseYoung", "()V"⟩).before a s = true := h _ (tb 273 rfl rfl)
set_option maxRecDepth 20000 in
theorem k_277 {a : Array Value} {s : State} (h : ∀ w ∈ LW, w.before a s = true) : (Jvm.Cond.methodLink "LineCollector" 126 ⟨"LineCollector", "queueRootsAndLog", "()V"⟩).before a s = true := h _ (tb 277 rfl rfl)
set_option maxRecDepth 20000 in
theorem k_281 {a : Array Value} {s : State} (h : ∀ w ∈ LW, w.before a s = true) : (Jvm.Cond.methodLink "LineCollector" 259 ⟨"LineCollector$Log", "heldBefore", "(I)LLineCollector$Item;"⟩).before a s = true := h _ (tb 281 rfl rfl)
set_option maxRecDepth 20000 in
theorem k_285 {a : Array Value} {s : State} (h : ∀ w ∈ LW, w.before a s = true) : (Jvm.Cond.methodLink "LineCollector" 262 ⟨"LineCollector$Log", "clear", "()V"⟩).before a s = true := h _ (tb 285 rfl rfl)
set_option maxRecDepth 20000 in
theorem k_289 {a : Array Value} {s : State} (h : ∀ w ∈ LW, w.before a s = true) : (Jvm.Cond.methodLink "LineCollector" 109 ⟨"LineCollector", "countGrey", "()I"⟩).before a s = true := h _ (tb 289 rfl rfl)
set_option maxRecDepth 20000 in
theorem k_293 {a : Array Value} {s : State} (h : ∀ w ∈ LW, w.before a s = true) : (Jvm.Cond.methodLink "LineCollector" 129 ⟨"LineCollector", "loseWhite", "()V"⟩).before a s = true := h _ (tb 293 rfl rfl)
set_option maxRecDepth 20000 in
theorem k_297 {a : Array Value} {s : State} (h : ∀ w ∈ LW, w.before a s = true) : (Jvm.Cond.methodLink "LineCollector" 263 ⟨"LineCollector$Item", "isWhite", "()Z"⟩).before a s = true := h _ (tb 297 rfl rfl)
set_option maxRecDepth 20000 in
theorem k_298 {a : Array Value} {s : State} (h : ∀ w ∈ LW, w.before a s = true) : (Jvm.Cond.methodLink "LineCollector" 132 ⟨"LineCollector", "recountStuck", "()V"⟩).before a s = true := h _ (tb 298 rfl rfl)
set_option maxRecDepth 20000 in
theorem k_302 {a : Array Value} {s : State} (h : ∀ w ∈ LW, w.before a s = true) : (Jvm.Cond.methodLink "LineCollector" 266 ⟨"LineCollector", "countHolders", "(LLineCollector$Item;)I"⟩).before a s = true := h _ (tb 302 rfl rfl)
set_option maxRecDepth 20000 in
theorem k_306 {a : Array Value} {s : State} (h : ∀ w ∈ LW, w.before a s = true) : (Jvm.Cond.methodLink "LineCollector" 269 ⟨"LineCollector$Row", "countOf", "(LLineCollector$Item;)I"⟩).before a s = true := h _ (tb 306 rfl rfl)
set_option maxRecDepth 20000 in
theorem k_310 {a : Array Value} {s : State} (h : ∀ w ∈ LW, w.before a s = true) : (Jvm.Cond.methodLink "LineCollector" 272 ⟨"LineCollector$Item", "countFieldsHolding", "(LLineCollector$Item;)I"⟩).before a s = true := h _ (tb 310 rfl rfl)
set_option maxRecDepth 20000 in
theorem k_314 {a : Array Value} {s : State} (h : ∀ w ∈ LW, w.before a s = true) : (Jvm.Cond.methodLink "LineCollector" 135 ⟨"LineCollector", "whitenAll", "()V"⟩).before a s = true := h _ (tb 314 rfl rfl)
set_option maxRecDepth 20000 in
theorem k_318 {a : Array Value} {s : State} (h : ∀ w ∈ LW, w.before a s = true) : (Jvm.Cond.methodLink "LineCollector" 138 ⟨"LineCollector", "clearSparsestBlock", "()V"⟩).before a s = true := h _ (tb 318 rfl rfl)
set_option maxRecDepth 20000 in
theorem k_322 {a : Array Value} {s : State} (h : ∀ w ∈ LW, w.before a s = true) : (Jvm.Cond.methodLink "LineCollector" 275 ⟨"LineCollector$Places", "sparsestBlock", "()I"⟩).before a s = true := h _ (tb 322 rfl rfl)
set_option maxRecDepth 20000 in
theorem k_326 {a : Array Value} {s : State} (h : ∀ w ∈ LW, w.before a s = true) : (Jvm.Cond.methodLink "LineCollector$Places" 62 ⟨"LineCollector$Places", "usedLines", "(I)I"⟩).before a s = true := h _ (tb 326 rfl rfl)
set_option maxRecDepth 20000 in
theorem k_330 {a : Array Value} {s : State} (h : ∀ w ∈ LW, w.before a s = true) : (Jvm.Cond.methodLink "LineCollector$Places" 65 ⟨"LineCollector$Places", "isUsed", "(I)Z"⟩).before a s = true := h _ (tb 330 rfl rfl)
set_option maxRecDepth 20000 in
theorem k_334 {a : Array Value} {s : State} (h : ∀ w ∈ LW, w.before a s = true) : (Jvm.Cond.methodLink "LineCollector" 278 ⟨"LineCollector$Places", "shut", "(I)V"⟩).before a s = true := h _ (tb 334 rfl rfl)
set_option maxRecDepth 20000 in
theorem k_338 {a : Array Value} {s : State} (h : ∀ w ∈ LW, w.before a s = true) : (Jvm.Cond.methodLink "LineCollector" 141 ⟨"LineCollector", "beginTrace", "()V"⟩).before a s = true := h _ (tb 338 rfl rfl)
set_option maxRecDepth 20000 in
theorem k_342 {a : Array Value} {s : State} (h : ∀ w ∈ LW, w.before a s = true) : (Jvm.Cond.methodLink "LineCollector" 144 ⟨"LineCollector", "rememberRoots", "()V"⟩).before a s = true := h _ (tb 342 rfl rfl)
set_option maxRecDepth 20000 in
theorem k_346 {a : Array Value} {s : State} (h : ∀ w ∈ LW, w.before a s = true) : (Jvm.Cond.methodLink "LineCollectorLaw" 65 ⟨"LineCollectorLaw", "allocate", "(LLineCollector;III[J)I"⟩).before a s = true := h _ (tb 346 rfl rfl)
set_option maxRecDepth 20000 in
theorem k_349 {a : Array Value} {s : State} (h : ∀ w ∈ LW, w.before a s = true) : (Jvm.Cond.classLink "LineCollectorLaw" 13 "java/lang/IllegalArgumentException").before a s = true := h _ (tb 349 rfl rfl)
set_option maxRecDepth 20000 in
theorem k_350 {a : Array Value} {s : State} (h : ∀ w ∈ LW, w.before a s = true) : (Jvm.Cond.classLink "LineCollectorLaw" 15 "java/lang/UnsupportedOperationException").before a s = true := h _ (tb 350 rfl rfl)
set_option maxRecDepth 20000 in
theorem k_351 {a : Array Value} {s : State} (h : ∀ w ∈ LW, w.before a s = true) : (Jvm.Cond.methodLink "LineCollectorLaw" 7 ⟨"LineCollector", "allocate", "(III)I"⟩).before a s = true := h _ (tb 351 rfl rfl)
set_option maxRecDepth 20000 in
theorem k_355 {a : Array Value} {s : State} (h : ∀ w ∈ LW, w.before a s = true) : (Jvm.Cond.methodLink "LineCollector" 45 ⟨"LineCollector", "isRoot", "(I)Z"⟩).before a s = true := h _ (tb 355 rfl rfl)
set_option maxRecDepth 20000 in
theorem k_358 {a : Array Value} {s : State} (h : ∀ w ∈ LW, w.before a s = true) : (Jvm.Cond.classLink "LineCollector" 49 "java/lang/IllegalArgumentException").before a s = true := h _ (tb 358 rfl rfl)
set_option maxRecDepth 20000 in
theorem k_360 {a : Array Value} {s : State} (h : ∀ w ∈ LW, w.before a s = true) : (Jvm.Cond.castable "java/lang/IllegalArgumentException" "java/lang/IllegalArgumentException").before a s = true := h _ (tb 360 rfl rfl)
set_option maxRecDepth 20000 in
theorem k_423 {a : Array Value} {s : State} (h : ∀ w ∈ LW, w.before a s = true) : (Jvm.Cond.methodLink "LineCollector" 56 ⟨"LineCollector", "collect", "()V"⟩).before a s = true := h _ (tb 423 rfl rfl)
set_option maxRecDepth 20000 in
theorem k_427 {a : Array Value} {s : State} (h : ∀ w ∈ LW, w.before a s = true) : (Jvm.Cond.methodLink "LineCollector" 203 ⟨"LineCollector", "pause", "(Z)I"⟩).before a s = true := h _ (tb 427 rfl rfl)
set_option maxRecDepth 20000 in
theorem k_428 {a : Array Value} {s : State} (h : ∀ w ∈ LW, w.before a s = true) : (Jvm.Cond.methodLink "LineCollector" 106 ⟨"LineCollector", "stepUpTo", "(I)V"⟩).before a s = true := h _ (tb 428 rfl rfl)
set_option maxRecDepth 20000 in
theorem k_432 {a : Array Value} {s : State} (h : ∀ w ∈ LW, w.before a s = true) : (Jvm.Cond.methodLink "LineCollector" 223 ⟨"LineCollector", "blackenFirstGrey", "()Z"⟩).before a s = true := h _ (tb 432 rfl rfl)
set_option maxRecDepth 20000 in
theorem k_436 {a : Array Value} {s : State} (h : ∀ w ∈ LW, w.before a s = true) : (Jvm.Cond.methodLink "LineCollector" 226 ⟨"LineCollector", "blacken", "(LLineCollector$Item;)V"⟩).before a s = true := h _ (tb 436 rfl rfl)
set_option maxRecDepth 20000 in
theorem k_439 {a : Array Value} {s : State} (h : ∀ w ∈ LW, w.before a s = true) : (Jvm.Cond.classLink "LineCollector" 59 "java/lang/UnsupportedOperationException").before a s = true := h _ (tb 439 rfl rfl)
set_option maxRecDepth 20000 in
theorem k_441 {a : Array Value} {s : State} (h : ∀ w ∈ LW, w.before a s = true) : (Jvm.Cond.castable "java/lang/UnsupportedOperationException" "java/lang/UnsupportedOperationException").before a s = true := h _ (tb 441 rfl rfl)
set_option maxRecDepth 20000 in
theorem k_460 {a : Array Value} {s : State} (h : ∀ w ∈ LW, w.before a s = true) : (Jvm.Cond.fieldLink "LineCollector$Item" 9 "LineCollector$Item" "size" "I").before a s = true := h _ (tb 460 rfl rfl)
set_option maxRecDepth 20000 in
theorem k_461 {a : Array Value} {s : State} (h : ∀ w ∈ LW, w.before a s = true) : (Jvm.Cond.fieldLink "LineCollector" 160 "LineCollector$Item" "size" "I").before a s = true := h _ (tb 461 rfl rfl)
set_option maxRecDepth 20000 in
theorem k_463 {a : Array Value} {s : State} (h : ∀ w ∈ LW, w.before a s = true) : (Jvm.Cond.fieldLink "LineCollector" 163 "LineCollector$Item" "tag" "I").before a s = true := h _ (tb 463 rfl rfl)
set_option maxRecDepth 20000 in
theorem k_464 {a : Array Value} {s : State} (h : ∀ w ∈ LW, w.before a s = true) : (Jvm.Cond.fieldLink "LineCollector$Item" 18 "LineCollector$Item" "held" "[LLineCollector$Item;").before a s = true := h _ (tb 464 rfl rfl)
set_option maxRecDepth 20000 in
theorem k_465 {a : Array Value} {s : State} (h : ∀ w ∈ LW, w.before a s = true) : (Jvm.Cond.fieldLink "LineCollector$Log" 28 "LineCollector$Item" "held" "[LLineCollector$Item;").before a s = true := h _ (tb 465 rfl rfl)
set_option maxRecDepth 20000 in
theorem k_466 {a : Array Value} {s : State} (h : ∀ w ∈ LW, w.before a s = true) : (Jvm.Cond.fieldLink "LineCollector" 73 "LineCollector$Item" "held" "[LLineCollector$Item;").before a s = true := h _ (tb 466 rfl rfl)
set_option maxRecDepth 20000 in
theorem k_468 {a : Array Value} {s : State} (h : ∀ w ∈ LW, w.before a s = true) : (Jvm.Cond.fieldLink "LineCollector$Log" 31 "LineCollector$Item" "logged" "[Z").before a s = true := h _ (tb 468 rfl rfl)
set_option maxRecDepth 20000 in
theorem k_469 {a : Array Value} {s : State} (h : ∀ w ∈ LW, w.before a s = true) : (Jvm.Cond.fieldLink "LineCollector" 84 "LineCollector$Item" "logged" "[Z").before a s = true := h _ (tb 469 rfl rfl)
set_option maxRecDepth 20000 in
theorem k_470 {a : Array Value} {s : State} (h : ∀ w ∈ LW, w.before a s = true) : (Jvm.Cond.fieldLink "LineCollector" 191 "LineCollector$Item" "address" "I").before a s = true := h _ (tb 470 rfl rfl)
set_option maxRecDepth 20000 in
theorem k_471 {a : Array Value} {s : State} (h : ∀ w ∈ LW, w.before a s = true) : (Jvm.Cond.fieldLink "LineCollector$Item" 26 "LineCollector$Item" "count" "I").before a s = true := h _ (tb 471 rfl rfl)
set_option maxRecDepth 20000 in
theorem k_472 {a : Array Value} {s : State} (h : ∀ w ∈ LW, w.before a s = true) : (Jvm.Cond.fieldLink "LineCollector" 166 "LineCollector$Item" "count" "I").before a s = true := h _ (tb 472 rfl rfl)
set_option maxRecDepth 20000 in
theorem k_473 {a : Array Value} {s : State} (h : ∀ w ∈ LW, w.before a s = true) : (Jvm.Cond.fieldLink "LineCollector$Item" 33 "LineCollector$Item" "colour" "I").before a s = true := h _ (tb 473 rfl rfl)
set_option maxRecDepth 20000 in
theorem k_474 {a : Array Value} {s : State} (h : ∀ w ∈ LW, w.before a s = true) : (Jvm.Cond.fieldLink "LineCollector" 169 "LineCollector$Item" "colour" "I").before a s = true := h _ (tb 474 rfl rfl)
set_option maxRecDepth 20000 in
theorem k_490 {a : Array Value} {s : State} (h : ∀ w ∈ LW, w.before a s = true) : (Jvm.Cond.methodLink "LineCollectorLaw" 75 ⟨"LineCollectorLaw", "drop", "(LLineCollector;I)I"⟩).before a s = true := h _ (tb 490 rfl rfl)
set_option maxRecDepth 20000 in
theorem k_493 {a : Array Value} {s : State} (h : ∀ w ∈ LW, w.before a s = true) : (Jvm.Cond.methodLink "LineCollectorLaw" 17 ⟨"LineCollector", "drop", "(I)V"⟩).before a s = true := h _ (tb 493 rfl rfl)
set_option maxRecDepth 20000 in
theorem k_497 {a : Array Value} {s : State} (h : ∀ w ∈ LW, w.before a s = true) : (Jvm.Cond.methodLink "LineCollectorLaw" 79 ⟨"LineCollectorLaw", "copy", "(LLineCollector;II)I"⟩).before a s = true := h _ (tb 497 rfl rfl)
set_option maxRecDepth 20000 in
theorem k_500 {a : Array Value} {s : State} (h : ∀ w ∈ LW, w.before a s = true) : (Jvm.Cond.methodLink "LineCollectorLaw" 21 ⟨"LineCollector", "copy", "(II)V"⟩).before a s = true := h _ (tb 500 rfl rfl)
set_option maxRecDepth 20000 in
theorem k_504 {a : Array Value} {s : State} (h : ∀ w ∈ LW, w.before a s = true) : (Jvm.Cond.methodLink "LineCollectorLaw" 83 ⟨"LineCollectorLaw", "load", "(LLineCollector;III[J)I"⟩).before a s = true := h _ (tb 504 rfl rfl)
set_option maxRecDepth 20000 in
theorem k_507 {a : Array Value} {s : State} (h : ∀ w ∈ LW, w.before a s = true) : (Jvm.Cond.classLink "LineCollectorLaw" 28 "java/lang/IllegalStateException").before a s = true := h _ (tb 507 rfl rfl)
set_option maxRecDepth 20000 in
theorem k_508 {a : Array Value} {s : State} (h : ∀ w ∈ LW, w.before a s = true) : (Jvm.Cond.classLink "LineCollectorLaw" 30 "java/lang/IndexOutOfBoundsException").before a s = true := h _ (tb 508 rfl rfl)
set_option maxRecDepth 20000 in
theorem k_509 {a : Array Value} {s : State} (h : ∀ w ∈ LW, w.before a s = true) : (Jvm.Cond.methodLink "LineCollectorLaw" 25 ⟨"LineCollector", "load", "(III)I"⟩).before a s = true := h _ (tb 509 rfl rfl)
set_option maxRecDepth 20000 in
theorem k_513 {a : Array Value} {s : State} (h : ∀ w ∈ LW, w.before a s = true) : (Jvm.Cond.methodLink "LineCollector" 69 ⟨"LineCollector", "itemWithField", "(III)LLineCollector$Item;"⟩).before a s = true := h _ (tb 513 rfl rfl)
set_option maxRecDepth 20000 in
theorem k_517 {a : Array Value} {s : State} (h : ∀ w ∈ LW, w.before a s = true) : (Jvm.Cond.classLink "LineCollector" 103 "java/lang/IllegalStateException").before a s = true := h _ (tb 517 rfl rfl)
set_option maxRecDepth 20000 in
theorem k_519 {a : Array Value} {s : State} (h : ∀ w ∈ LW, w.before a s = true) : (Jvm.Cond.castable "java/lang/IllegalStateException" "java/lang/IllegalStateException").before a s = true := h _ (tb 519 rfl rfl)
set_option maxRecDepth 20000 in
theorem k_532 {a : Array Value} {s : State} (h : ∀ w ∈ LW, w.before a s = true) : (Jvm.Cond.methodLink "LineCollector" 154 ⟨"LineCollector$Item", "hasField", "(I)Z"⟩).before a s = true := h _ (tb 532 rfl rfl)
set_option maxRecDepth 20000 in
theorem k_536 {a : Array Value} {s : State} (h : ∀ w ∈ LW, w.before a s = true) : (Jvm.Cond.classLink "LineCollector" 157 "java/lang/IndexOutOfBoundsException").before a s = true := h _ (tb 536 rfl rfl)
set_option maxRecDepth 20000 in
theorem k_538 {a : Array Value} {s : State} (h : ∀ w ∈ LW, w.before a s = true) : (Jvm.Cond.castable "java/lang/IndexOutOfBoundsException" "java/lang/IndexOutOfBoundsException").before a s = true := h _ (tb 538 rfl rfl)
set_option maxRecDepth 20000 in
theorem k_551 {a : Array Value} {s : State} (h : ∀ w ∈ LW, w.before a s = true) : (Jvm.Cond.methodLink "LineCollector" 76 ⟨"LineCollector", "addressOf", "(LLineCollector$Item;)I"⟩).before a s = true := h _ (tb 551 rfl rfl)
set_option maxRecDepth 20000 in
theorem k_554 {a : Array Value} {s : State} (h : ∀ w ∈ LW, w.before a s = true) : (Jvm.Cond.methodLink "LineCollectorLaw" 86 ⟨"LineCollectorLaw", "store", "(LLineCollector;III)I"⟩).before a s = true := h _ (tb 554 rfl rfl)
set_option maxRecDepth 20000 in
theorem k_557 {a : Array Value} {s : State} (h : ∀ w ∈ LW, w.before a s = true) : (Jvm.Cond.methodLink "LineCollectorLaw" 32 ⟨"LineCollector", "store", "(III)V"⟩).before a s = true := h _ (tb 557 rfl rfl)
set_option maxRecDepth 20000 in
theorem k_561 {a : Array Value} {s : State} (h : ∀ w ∈ LW, w.before a s = true) : (Jvm.Cond.methodLink "LineCollector" 88 ⟨"LineCollector$Log", "add", "(LLineCollector$Item;I)V"⟩).before a s = true := h _ (tb 561 rfl rfl)
set_option maxRecDepth 20000 in
theorem k_565 {a : Array Value} {s : State} (h : ∀ w ∈ LW, w.before a s = true) : (Jvm.Cond.methodLink "LineCollectorLaw" 90 ⟨"LineCollectorLaw", "drain", "(LLineCollector;I[J)I"⟩).before a s = true := h _ (tb 565 rfl rfl)
set_option maxRecDepth 20000 in
theorem k_568 {a : Array Value} {s : State} (h : ∀ w ∈ LW, w.before a s = true) : (Jvm.Cond.methodLink "LineCollectorLaw" 36 ⟨"LineCollector", "drain", "(I)I"⟩).before a s = true := h _ (tb 568 rfl rfl)
set_option maxRecDepth 20000 in
theorem k_572 {a : Array Value} {s : State} (h : ∀ w ∈ LW, w.before a s = true) : (Jvm.Cond.methodLink "LineCollectorLaw" 94 ⟨"LineCollectorLaw", "trace", "(LLineCollector;I[J)I"⟩).before a s = true := h _ (tb 572 rfl rfl)
set_option maxRecDepth 20000 in
theorem k_575 {a : Array Value} {s : State} (h : ∀ w ∈ LW, w.before a s = true) : (Jvm.Cond.methodLink "LineCollectorLaw" 40 ⟨"LineCollector", "trace", "(I)I"⟩).before a s = true := h _ (tb 575 rfl rfl)
set_option maxRecDepth 20000 in
theorem k_579 {a : Array Value} {s : State} (h : ∀ w ∈ LW, w.before a s = true) : (Jvm.Cond.methodLink "LineCollectorLaw" 102 ⟨"LineCollectorLaw", "root", "(LLineCollector;I[J)I"⟩).before a s = true := h _ (tb 579 rfl rfl)
set_option maxRecDepth 20000 in
theorem k_582 {a : Array Value} {s : State} (h : ∀ w ∈ LW, w.before a s = true) : (Jvm.Cond.methodLink "LineCollectorLaw" 43 ⟨"LineCollector", "root", "(I)I"⟩).before a s = true := h _ (tb 582 rfl rfl)
set_option maxRecDepth 20000 in
theorem k_586 {a : Array Value} {s : State} (h : ∀ w ∈ LW, w.before a s = true) : (Jvm.Cond.methodLink "LineCollectorLaw" 105 ⟨"LineCollectorLaw", "field", "(LLineCollector;II[J)I"⟩).before a s = true := h _ (tb 586 rfl rfl)
set_option maxRecDepth 20000 in
theorem k_589 {a : Array Value} {s : State} (h : ∀ w ∈ LW, w.before a s = true) : (Jvm.Cond.classLink "LineCollectorLaw" 50 "java/util/NoSuchElementException").before a s = true := h _ (tb 589 rfl rfl)
set_option maxRecDepth 20000 in
theorem k_590 {a : Array Value} {s : State} (h : ∀ w ∈ LW, w.before a s = true) : (Jvm.Cond.methodLink "LineCollectorLaw" 46 ⟨"LineCollector", "field", "(II)I"⟩).before a s = true := h _ (tb 590 rfl rfl)
set_option maxRecDepth 20000 in
theorem k_594 {a : Array Value} {s : State} (h : ∀ w ∈ LW, w.before a s = true) : (Jvm.Cond.methodLink "LineCollector" 147 ⟨"LineCollector", "itemOrNull", "(I)LLineCollector$Item;"⟩).before a s = true := h _ (tb 594 rfl rfl)
set_option maxRecDepth 20000 in
theorem k_598 {a : Array Value} {s : State} (h : ∀ w ∈ LW, w.before a s = true) : (Jvm.Cond.classLink "LineCollector" 151 "java/util/NoSuchElementException").before a s = true := h _ (tb 598 rfl rfl)
set_option maxRecDepth 20000 in
theorem k_600 {a : Array Value} {s : State} (h : ∀ w ∈ LW, w.before a s = true) : (Jvm.Cond.castable "java/util/NoSuchElementException" "java/util/NoSuchElementException").before a s = true := h _ (tb 600 rfl rfl)
set_option maxRecDepth 20000 in
theorem k_613 {a : Array Value} {s : State} (h : ∀ w ∈ LW, w.before a s = true) : (Jvm.Cond.methodLink "LineCollectorLaw" 109 ⟨"LineCollectorLaw", "object", "(LLineCollector;II[J)I"⟩).before a s = true := h _ (tb 613 rfl rfl)
set_option maxRecDepth 20000 in
theorem k_616 {a : Array Value} {s : State} (h : ∀ w ∈ LW, w.before a s = true) : (Jvm.Cond.methodLink "LineCollectorLaw" 52 ⟨"LineCollector", "object", "(II)I"⟩).before a s = true := h _ (tb 616 rfl rfl)
set_option maxRecDepth 20000 in
theorem k_620 {a : Array Value} {s : State} (h : ∀ w ∈ LW, w.before a s = true) : (Jvm.Cond.methodLink "LineCollectorLaw" 112 ⟨"LineCollectorLaw", "line", "(LLineCollector;I[J)I"⟩).before a s = true := h _ (tb 620 rfl rfl)
set_option maxRecDepth 20000 in
theorem k_623 {a : Array Value} {s : State} (h : ∀ w ∈ LW, w.before a s = true) : (Jvm.Cond.methodLink "LineCollectorLaw" 55 ⟨"LineCollector", "line", "(I)I"⟩).before a s = true := h _ (tb 623 rfl rfl)
set_option maxRecDepth 20000 in
theorem k_627 {a : Array Value} {s : State} (h : ∀ w ∈ LW, w.before a s = true) : (Jvm.Cond.methodLink "LineCollector" 172 ⟨"LineCollector$Places", "isUsed", "(I)Z"⟩).before a s = true := h _ (tb 627 rfl rfl)
set_option maxRecDepth 20000 in
theorem k_628 {a : Array Value} {s : State} (h : ∀ w ∈ LW, w.before a s = true) : (Jvm.Cond.methodLink "LineCollector" 175 ⟨"LineCollector$Places", "isFree", "(I)Z"⟩).before a s = true := h _ (tb 628 rfl rfl)
set_option maxRecDepth 20000 in
theorem k_629 {a : Array Value} {s : State} (h : ∀ w ∈ LW, w.before a s = true) : (Jvm.Cond.methodLink "LineCollectorLaw" 115 ⟨"LineCollectorLaw", "figure", "(LLineCollector;I[J)I"⟩).before a s = true := h _ (tb 629 rfl rfl)
set_option maxRecDepth 20000 in
theorem k_632 {a : Array Value} {s : State} (h : ∀ w ∈ LW, w.before a s = true) : (Jvm.Cond.methodLink "LineCollectorLaw" 58 ⟨"LineCollector", "figure", "(I)I"⟩).before a s = true := h _ (tb 632 rfl rfl)
set_option maxRecDepth 20000 in
theorem k_636 {a : Array Value} {s : State} (h : ∀ w ∈ LW, w.before a s = true) : (Jvm.Cond.methodLink "LineCollector" 178 ⟨"LineCollector", "countItems", "()I"⟩).before a s = true := h _ (tb 636 rfl rfl)
set_option maxRecDepth 20000 in
theorem k_640 {a : Array Value} {s : State} (h : ∀ w ∈ LW, w.before a s = true) : (Jvm.Cond.methodLink "LineCollector" 181 ⟨"LineCollector", "countYoung", "()I"⟩).before a s = true := h _ (tb 640 rfl rfl)
set_option maxRecDepth 20000 in
theorem k_650 {a : Array Value} {s : State} (h : ∀ w ∈ LW, w.before a s = true) : (Jvm.Cond.fieldLink "LineCollectorModel" 69 "LineCollectorModel" "code" "I").before a s = true := h _ (tb 650 rfl rfl)
set_option maxRecDepth 20000 in
theorem k_651 {a : Array Value} {s : State} (h : ∀ w ∈ LW, w.before a s = true) : (Jvm.Cond.fieldLink "LineCollectorModel" 7 "LineCollectorModel" "cells" "[I").before a s = true := h _ (tb 651 rfl rfl)
set_option maxRecDepth 20000 in
theorem k_652 {a : Array Value} {s : State} (h : ∀ w ∈ LW, w.before a s = true) : (Jvm.Cond.fieldLink "LineCollectorModel" 13 "LineCollectorModel" "state" "[I").before a s = true := h _ (tb 652 rfl rfl)
set_option maxRecDepth 20000 in
theorem k_653 {a : Array Value} {s : State} (h : ∀ w ∈ LW, w.before a s = true) : (Jvm.Cond.fieldLink "LineCollectorModel" 16 "LineCollectorModel" "at" "[I").before a s = true := h _ (tb 653 rfl rfl)
set_option maxRecDepth 20000 in
theorem k_654 {a : Array Value} {s : State} (h : ∀ w ∈ LW, w.before a s = true) : (Jvm.Cond.fieldLink "LineCollectorModel" 19 "LineCollectorModel" "size" "[I").before a s = true := h _ (tb 654 rfl rfl)
set_option maxRecDepth 20000 in
theorem k_655 {a : Array Value} {s : State} (h : ∀ w ∈ LW, w.before a s = true) : (Jvm.Cond.fieldLink "LineCollectorModel" 22 "LineCollectorModel" "tag" "[I").before a s = true := h _ (tb 655 rfl rfl)
set_option maxRecDepth 20000 in
theorem k_656 {a : Array Value} {s : State} (h : ∀ w ∈ LW, w.before a s = true) : (Jvm.Cond.fieldLink "LineCollectorModel" 25 "LineCollectorModel" "count" "[I").before a s = true := h _ (tb 656 rfl rfl)
set_option maxRecDepth 20000 in
theorem k_657 {a : Array Value} {s : State} (h : ∀ w ∈ LW, w.before a s = true) : (Jvm.Cond.fieldLink "LineCollectorModel" 28 "LineCollectorModel" "colour" "[I").before a s = true := h _ (tb 657 rfl rfl)
set_option maxRecDepth 20000 in
theorem k_658 {a : Array Value} {s : State} (h : ∀ w ∈ LW, w.before a s = true) : (Jvm.Cond.fieldLink "LineCollectorModel" 31 "LineCollectorModel" "fields" "[I").before a s = true := h _ (tb 658 rfl rfl)
set_option maxRecDepth 20000 in
theorem k_659 {a : Array Value} {s : State} (h : ∀ w ∈ LW, w.before a s = true) : (Jvm.Cond.fieldLink "LineCollectorModel" 34 "LineCollectorModel" "logged" "[Z").before a s = true := h _ (tb 659 rfl rfl)
set_option maxRecDepth 20000 in
theorem k_660 {a : Array Value} {s : State} (h : ∀ w ∈ LW, w.before a s = true) : (Jvm.Cond.fieldLink "LineCollectorModel" 115 "LineCollectorModel" "next" "I").before a s = true := h _ (tb 660 rfl rfl)
set_option maxRecDepth 20000 in
theorem k_661 {a : Array Value} {s : State} (h : ∀ w ∈ LW, w.before a s = true) : (Jvm.Cond.fieldLink "LineCollectorModel" 38 "LineCollectorModel" "roots" "[I").before a s = true := h _ (tb 661 rfl rfl)
set_option maxRecDepth 20000 in
theorem k_662 {a : Array Value} {s : State} (h : ∀ w ∈ LW, w.before a s = true) : (Jvm.Cond.fieldLink "LineCollectorModel" 41 "LineCollectorModel" "before" "[I").before a s = true := h _ (tb 662 rfl rfl)
set_option maxRecDepth 20000 in
theorem k_663 {a : Array Value} {s : State} (h : ∀ w ∈ LW, w.before a s = true) : (Jvm.Cond.fieldLink "LineCollectorModel" 44 "LineCollectorModel" "holeFrom" "I").before a s = true := h _ (tb 663 rfl rfl)
set_option maxRecDepth 20000 in
theorem k_664 {a : Array Value} {s : State} (h : ∀ w ∈ LW, w.before a s = true) : (Jvm.Cond.fieldLink "LineCollectorModel" 72 "LineCollectorModel" "holeEnd" "I").before a s = true := h _ (tb 664 rfl rfl)
set_option maxRecDepth 20000 in
theorem k_665 {a : Array Value} {s : State} (h : ∀ w ∈ LW, w.before a s = true) : (Jvm.Cond.fieldLink "LineCollectorModel" 85 "LineCollectorModel" "holeCursor" "I").before a s = true := h _ (tb 665 rfl rfl)
set_option maxRecDepth 20000 in
theorem k_666 {a : Array Value} {s : State} (h : ∀ w ∈ LW, w.before a s = true) : (Jvm.Cond.fieldLink "LineCollectorModel" 48 "LineCollectorModel" "overflow" "I").before a s = true := h _ (tb 666 rfl rfl)
set_option maxRecDepth 20000 in
theorem k_667 {a : Array Value} {s : State} (h : ∀ w ∈ LW, w.before a s = true) : (Jvm.Cond.fieldLink "LineCollectorModel" 95 "LineCollectorModel" "overflowCursor" "I").before a s = true := h _ (tb 667 rfl rfl)
set_option maxRecDepth 20000 in
theorem k_668 {a : Array Value} {s : State} (h : ∀ w ∈ LW, w.before a s = true) : (Jvm.Cond.fieldLink "LineCollectorModel" 51 "LineCollectorModel" "left" "[Z").before a s = true := h _ (tb 668 rfl rfl)
set_option maxRecDepth 20000 in
theorem k_669 {a : Array Value} {s : State} (h : ∀ w ∈ LW, w.before a s = true) : (Jvm.Cond.fieldLink "LineCollectorModel" 54 "LineCollectorModel" "cleared" "I").before a s = true := h _ (tb 669 rfl rfl)
set_option maxRecDepth 20000 in
theorem k_670 {a : Array Value} {s : State} (h : ∀ w ∈ LW, w.before a s = true) : (Jvm.Cond.fieldLink "LineCollectorModel" 57 "LineCollectorModel" "row" "[I").before a s = true := h _ (tb 670 rfl rfl)
set_option maxRecDepth 20000 in
theorem k_671 {a : Array Value} {s : State} (h : ∀ w ∈ LW, w.before a s = true) : (Jvm.Cond.fieldLink "LineCollectorModel" 118 "LineCollectorModel" "waiting" "I").before a s = true := h _ (tb 671 rfl rfl)
set_option maxRecDepth 20000 in
theorem k_672 {a : Array Value} {s : State} (h : ∀ w ∈ LW, w.before a s = true) : (Jvm.Cond.fieldLink "LineCollectorModel" 60 "LineCollectorModel" "logField" "[I").before a s = true := h _ (tb 672 rfl rfl)
set_option maxRecDepth 20000 in
theorem k_673 {a : Array Value} {s : State} (h : ∀ w ∈ LW, w.before a s = true) : (Jvm.Cond.fieldLink "LineCollectorModel" 63 "LineCollectorModel" "logOld" "[I").before a s = true := h _ (tb 673 rfl rfl)
set_option maxRecDepth 20000 in
theorem k_674 {a : Array Value} {s : State} (h : ∀ w ∈ LW, w.before a s = true) : (Jvm.Cond.fieldLink "LineCollectorModel" 153 "LineCollectorModel" "logs" "I").before a s = true := h _ (tb 674 rfl rfl)
set_option maxRecDepth 20000 in
theorem k_675 {a : Array Value} {s : State} (h : ∀ w ∈ LW, w.before a s = true) : (Jvm.Cond.fieldLink "LineCollectorModel" 66 "LineCollectorModel" "slots" "[I").before a s = true := h _ (tb 675 rfl rfl)
set_option maxRecDepth 20000 in
theorem k_676 {a : Array Value} {s : State} (h : ∀ w ∈ LW, w.before a s = true) : (Jvm.Cond.fieldLink "LineCollectorModel" 140 "LineCollectorModel" "slotted" "I").before a s = true := h _ (tb 676 rfl rfl)
set_option maxRecDepth 20000 in
theorem k_677 {a : Array Value} {s : State} (h : ∀ w ∈ LW, w.before a s = true) : (Jvm.Cond.fieldLink "LineCollectorModel" 143 "LineCollectorModel" "traces" "Z").before a s = true := h _ (tb 677 rfl rfl)
set_option maxRecDepth 20000 in
theorem k_678 {a : Array Value} {s : State} (h : ∀ w ∈ LW, w.before a s = true) : (Jvm.Cond.fieldLink "LineCollectorModel" 196 "LineCollectorModel" "pauses" "I").before a s = true := h _ (tb 678 rfl rfl)
set_option maxRecDepth 20000 in
theorem k_679 {a : Array Value} {s : State} (h : ∀ w ∈ LW, w.before a s = true) : (Jvm.Cond.fieldLink "LineCollectorModel" 112 "LineCollectorModel" "moves" "I").before a s = true := h _ (tb 679 rfl rfl)
set_option maxRecDepth 20000 in
theorem k_680 {a : Array Value} {s : State} (h : ∀ w ∈ LW, w.before a s = true) : (Jvm.Cond.fieldLink "LineCollectorModel" 159 "LineCollectorModel" "whites" "I").before a s = true := h _ (tb 680 rfl rfl)
set_option maxRecDepth 20000 in
theorem k_744 {a : Array Value} {s : State} (h : ∀ w ∈ LW, w.before a s = true) : (Jvm.Cond.methodLink "LineCollectorLaw" 71 ⟨"LineCollectorModel", "thrown", "()I"⟩).before a s = true := h _ (tb 744 rfl rfl)
set_option maxRecDepth 20000 in
theorem k_748 {a : Array Value} {s : State} (h : ∀ w ∈ LW, w.before a s = true) : (Jvm.Cond.methodLink "LineCollectorLaw" 70 ⟨"LineCollectorModel", "allocate", "(III)I"⟩).before a s = true := h _ (tb 748 rfl rfl)
set_option maxRecDepth 20000 in
theorem k_752 {a : Array Value} {s : State} (h : ∀ w ∈ LW, w.before a s = true) : (Jvm.Cond.methodLink "LineCollectorModel" 206 ⟨"LineCollectorModel", "isRoot", "(I)Z"⟩).before a s = true := h _ (tb 752 rfl rfl)
set_option maxRecDepth 20000 in
theorem k_755 {a : Array Value} {s : State} (h : ∀ w ∈ LW, w.before a s = true) : (Jvm.Cond.methodLink "LineCollectorModel" 101 ⟨"LineCollectorModel", "place", "(I)I"⟩).before a s = true := h _ (tb 755 rfl rfl)
set_option maxRecDepth 20000 in
theorem k_759 {a : Array Value} {s : State} (h : ∀ w ∈ LW, w.before a s = true) : (Jvm.Cond.methodLink "LineCollectorModel" 88 ⟨"LineCollectorModel", "placeInLines", "(I)I"⟩).before a s = true := h _ (tb 759 rfl rfl)
set_option maxRecDepth 20000 in
theorem k_763 {a : Array Value} {s : State} (h : ∀ w ∈ LW, w.before a s = true) : (Jvm.Cond.methodLink "LineCollectorModel" 82 ⟨"LineCollectorModel", "isFree", "(I)Z"⟩).before a s = true := h _ (tb 763 rfl rfl)
set_option maxRecDepth 20000 in
theorem k_767 {a : Array Value} {s : State} (h : ∀ w ∈ LW, w.before a s = true) : (Jvm.Cond.methodLink "LineCollectorModel" 75 ⟨"LineCollectorModel", "isUsed", "(I)Z"⟩).before a s = true := h _ (tb 767 rfl rfl)
set_option maxRecDepth 20000 in
theorem k_771 {a : Array Value} {s : State} (h : ∀ w ∈ LW, w.before a s = true) : (Jvm.Cond.methodLink "LineCollectorModel" 79 ⟨"LineCollectorModel", "isTaken", "(I)Z"⟩).before a s = true := h _ (tb 771 rfl rfl)
set_option maxRecDepth 20000 in
theorem k_775 {a : Array Value} {s : State} (h : ∀ w ∈ LW, w.before a s = true) : (Jvm.Cond.methodLink "LineCollectorModel" 92 ⟨"LineCollectorModel", "placeInBlock", "(I)I"⟩).before a s = true := h _ (tb 775 rfl rfl)
set_option maxRecDepth 20000 in
theorem k_779 {a : Array Value} {s : State} (h : ∀ w ∈ LW, w.before a s = true) : (Jvm.Cond.methodLink "LineCollectorModel" 98 ⟨"LineCollectorModel", "isFreeBlock", "(I)Z"⟩).before a s = true := h _ (tb 779 rfl rfl)
set_option maxRecDepth 20000 in
theorem k_783 {a : Array Value} {s : State} (h : ∀ w ∈ LW, w.before a s = true) : (Jvm.Cond.methodLink "LineCollectorModel" 209 ⟨"LineCollectorModel", "collect", "()V"⟩).before a s = true := h _ (tb 783 rfl rfl)
set_option maxRecDepth 20000 in
theorem k_787 {a : Array Value} {s : State} (h : ∀ w ∈ LW, w.before a s = true) : (Jvm.Cond.methodLink "LineCollectorModel" 199 ⟨"LineCollectorModel", "halt", "(Z)I"⟩).before a s = true := h _ (tb 787 rfl rfl)
set_option maxRecDepth 20000 in
theorem k_791 {a : Array Value} {s : State} (h : ∀ w ∈ LW, w.before a s = true) : (Jvm.Cond.methodLink "LineCollectorModel" 174 ⟨"LineCollectorModel", "drainAll", "()V"⟩).before a s = true := h _ (tb 791 rfl rfl)
set_option maxRecDepth 20000 in
theorem k_795 {a : Array Value} {s : State} (h : ∀ w ∈ LW, w.before a s = true) : (Jvm.Cond.methodLink "LineCollectorModel" 134 ⟨"LineCollectorModel", "drainOne", "()V"⟩).before a s = true := h _ (tb 795 rfl rfl)
set_option maxRecDepth 20000 in
theorem k_799 {a : Array Value} {s : State} (h : ∀ w ∈ LW, w.before a s = true) : (Jvm.Cond.methodLink "LineCollectorModel" 131 ⟨"LineCollectorModel", "vanish", "(I)V"⟩).before a s = true := h _ (tb 799 rfl rfl)
set_option maxRecDepth 20000 in
theorem k_803 {a : Array Value} {s : State} (h : ∀ w ∈ LW, w.before a s = true) : (Jvm.Cond.methodLink "LineCollectorModel" 121 ⟨"LineCollectorModel", "wait", "(I)V"⟩).before a s = true := h _ (tb 803 rfl rfl)
set_option maxRecDepth 20000 in
theorem k_807 {a : Array Value} {s : State} (h : ∀ w ∈ LW, w.before a s = true) : (Jvm.Cond.methodLink "LineCollectorModel" 125 ⟨"LineCollectorModel", "isWhite", "(I)Z"⟩).before a s = true := h _ (tb 807 rfl rfl)
set_option maxRecDepth 20000 in
theorem k_811 {a : Array Value} {s : State} (h : ∀ w ∈ LW, w.before a s = true) : (Jvm.Cond.methodLink "LineCollectorModel" 128 ⟨"LineCollectorModel", "lose", "(I)V"⟩).before a s = true := h _ (tb 811 rfl rfl)
set_option maxRecDepth 20000 in
theorem k_815 {a : Array Value} {s : State} (h : ∀ w ∈ LW, w.before a s = true) : (Jvm.Cond.methodLink "LineCollectorModel" 104 ⟨"LineCollectorModel", "lift", "(IZ)V"⟩).before a s = true := h _ (tb 815 rfl rfl)
set_option maxRecDepth 20000 in
theorem k_819 {a : Array Value} {s : State} (h : ∀ w ∈ LW, w.before a s = true) : (Jvm.Cond.methodLink "LineCollectorModel" 168 ⟨"LineCollectorModel", "forget", "()V"⟩).before a s = true := h _ (tb 819 rfl rfl)
set_option maxRecDepth 20000 in
theorem k_823 {a : Array Value} {s : State} (h : ∀ w ∈ LW, w.before a s = true) : (Jvm.Cond.methodLink "LineCollectorModel" 177 ⟨"LineCollectorModel", "countSlots", "()I"⟩).before a s = true := h _ (tb 823 rfl rfl)
set_option maxRecDepth 20000 in
theorem k_827 {a : Array Value} {s : State} (h : ∀ w ∈ LW, w.before a s = true) : (Jvm.Cond.methodLink "LineCollectorModel" 150 ⟨"LineCollectorModel", "addSlot", "(I)V"⟩).before a s = true := h _ (tb 827 rfl rfl)
set_option maxRecDepth 20000 in
theorem k_831 {a : Array Value} {s : State} (h : ∀ w ∈ LW, w.before a s = true) : (Jvm.Cond.methodLink "LineCollectorModel" 156 ⟨"LineCollectorModel", "survive", "(I)V"⟩).before a s = true := h _ (tb 831 rfl rfl)
set_option maxRecDepth 20000 in
theorem k_835 {a : Array Value} {s : State} (h : ∀ w ∈ LW, w.before a s = true) : (Jvm.Cond.methodLink "LineCollectorModel" 147 ⟨"LineCollectorModel", "shift", "(I)V"⟩).before a s = true := h _ (tb 835 rfl rfl)
set_option maxRecDepth 20000 in
theorem k_839 {a : Array Value} {s : State} (h : ∀ w ∈ LW, w.before a s = true) : (Jvm.Cond.methodLink "LineCollectorModel" 108 ⟨"LineCollectorModel", "lay", "(II)V"⟩).before a s = true := h _ (tb 839 rfl rfl)
set_option maxRecDepth 20000 in
theorem k_843 {a : Array Value} {s : State} (h : ∀ w ∈ LW, w.before a s = true) : (Jvm.Cond.methodLink "LineCollectorModel" 171 ⟨"LineCollectorModel", "endStep", "()V"⟩).before a s = true := h _ (tb 843 rfl rfl)
set_option maxRecDepth 20000 in
theorem k_847 {a : Array Value} {s : State} (h : ∀ w ∈ LW, w.before a s = true) : (Jvm.Cond.methodLink "LineCollectorModel" 181 ⟨"LineCollectorModel", "settle", "()V"⟩).before a s = true := h _ (tb 847 rfl rfl)
set_option maxRecDepth 20000 in
theorem k_851 {a : Array Value} {s : State} (h : ∀ w ∈ LW, w.before a s = true) : (Jvm.Cond.methodLink "LineCollectorModel" 184 ⟨"LineCollectorModel", "greys", "()I"⟩).before a s = true := h _ (tb 851 rfl rfl)
set_option maxRecDepth 20000 in
theorem k_855 {a : Array Value} {s : State} (h : ∀ w ∈ LW, w.before a s = true) : (Jvm.Cond.methodLink "LineCollectorModel" 187 ⟨"LineCollectorModel", "sweep", "()V"⟩).before a s = true := h _ (tb 855 rfl rfl)
set_option maxRecDepth 20000 in
theorem k_859 {a : Array Value} {s : State} (h : ∀ w ∈ LW, w.before a s = true) : (Jvm.Cond.methodLink "LineCollectorModel" 137 ⟨"LineCollectorModel", "objectAt", "(I)I"⟩).before a s = true := h _ (tb 859 rfl rfl)
set_option maxRecDepth 20000 in
theorem k_863 {a : Array Value} {s : State} (h : ∀ w ∈ LW, w.before a s = true) : (Jvm.Cond.methodLink "LineCollectorModel" 190 ⟨"LineCollectorModel", "countAnew", "()V"⟩).before a s = true := h _ (tb 863 rfl rfl)
set_option maxRecDepth 20000 in
theorem k_867 {a : Array Value} {s : State} (h : ∀ w ∈ LW, w.before a s = true) : (Jvm.Cond.methodLink "LineCollectorModel" 162 ⟨"LineCollectorModel", "holders", "(I)I"⟩).before a s = true := h _ (tb 867 rfl rfl)
set_option maxRecDepth 20000 in
theorem k_871 {a : Array Value} {s : State} (h : ∀ w ∈ LW, w.before a s = true) : (Jvm.Cond.methodLink "LineCollectorModel" 193 ⟨"LineCollectorModel", "clearBlock", "()V"⟩).before a s = true := h _ (tb 871 rfl rfl)
set_option maxRecDepth 20000 in
theorem k_875 {a : Array Value} {s : State} (h : ∀ w ∈ LW, w.before a s = true) : (Jvm.Cond.methodLink "LineCollectorModel" 165 ⟨"LineCollectorModel", "usedLines", "(I)I"⟩).before a s = true := h _ (tb 875 rfl rfl)
set_option maxRecDepth 20000 in
theorem k_879 {a : Array Value} {s : State} (h : ∀ w ∈ LW, w.before a s = true) : (Jvm.Cond.methodLink "LineCollectorModel" 203 ⟨"LineCollectorModel", "step", "()V"⟩).before a s = true := h _ (tb 879 rfl rfl)
set_option maxRecDepth 20000 in
theorem k_883 {a : Array Value} {s : State} (h : ∀ w ∈ LW, w.before a s = true) : (Jvm.Cond.methodLink "LineCollectorModel" 212 ⟨"LineCollectorModel", "make", "(II)I"⟩).before a s = true := h _ (tb 883 rfl rfl)
set_option maxRecDepth 20000 in
theorem k_887 {a : Array Value} {s : State} (h : ∀ w ∈ LW, w.before a s = true) : (Jvm.Cond.methodLink "LineCollectorLaw" 78 ⟨"LineCollectorModel", "drop", "(I)V"⟩).before a s = true := h _ (tb 887 rfl rfl)
set_option maxRecDepth 20000 in
theorem k_891 {a : Array Value} {s : State} (h : ∀ w ∈ LW, w.before a s = true) : (Jvm.Cond.methodLink "LineCollectorLaw" 82 ⟨"LineCollectorModel", "copy", "(II)V"⟩).before a s = true := h _ (tb 891 rfl rfl)
set_option maxRecDepth 20000 in
theorem k_895 {a : Array Value} {s : State} (h : ∀ w ∈ LW, w.before a s = true) : (Jvm.Cond.methodLink "LineCollectorLaw" 85 ⟨"LineCollectorModel", "load", "(III)I"⟩).before a s = true := h _ (tb 895 rfl rfl)
set_option maxRecDepth 20000 in
theorem k_899 {a : Array Value} {s : State} (h : ∀ w ∈ LW, w.before a s = true) : (Jvm.Cond.methodLink "LineCollectorModel" 216 ⟨"LineCollectorModel", "reach", "(III)V"⟩).before a s = true := h _ (tb 899 rfl rfl)
set_option maxRecDepth 20000 in
theorem k_903 {a : Array Value} {s : State} (h : ∀ w ∈ LW, w.before a s = true) : (Jvm.Cond.methodLink "LineCollectorModel" 220 ⟨"LineCollectorModel", "addressOf", "(I)I"⟩).before a s = true := h _ (tb 903 rfl rfl)
set_option maxRecDepth 20000 in
theorem k_907 {a : Array Value} {s : State} (h : ∀ w ∈ LW, w.before a s = true) : (Jvm.Cond.methodLink "LineCollectorLaw" 89 ⟨"LineCollectorModel", "store", "(III)V"⟩).before a s = true := h _ (tb 907 rfl rfl)
set_option maxRecDepth 20000 in
theorem k_911 {a : Array Value} {s : State} (h : ∀ w ∈ LW, w.before a s = true) : (Jvm.Cond.methodLink "LineCollectorLaw" 93 ⟨"LineCollectorModel", "drain", "(I)I"⟩).before a s = true := h _ (tb 911 rfl rfl)
set_option maxRecDepth 20000 in
theorem k_915 {a : Array Value} {s : State} (h : ∀ w ∈ LW, w.before a s = true) : (Jvm.Cond.methodLink "LineCollectorLaw" 96 ⟨"LineCollectorModel", "trace", "(I)I"⟩).before a s = true := h _ (tb 915 rfl rfl)
set_option maxRecDepth 20000 in
theorem k_919 {a : Array Value} {s : State} (h : ∀ w ∈ LW, w.before a s = true) : (Jvm.Cond.methodLink "LineCollectorLaw" 101 ⟨"LineCollectorModel", "pause", "(Z)I"⟩).before a s = true := h _ (tb 919 rfl rfl)
set_option maxRecDepth 20000 in
theorem k_923 {a : Array Value} {s : State} (h : ∀ w ∈ LW, w.before a s = true) : (Jvm.Cond.methodLink "LineCollectorLaw" 104 ⟨"LineCollectorModel", "root", "(I)I"⟩).before a s = true := h _ (tb 923 rfl rfl)
set_option maxRecDepth 20000 in
theorem k_927 {a : Array Value} {s : State} (h : ∀ w ∈ LW, w.before a s = true) : (Jvm.Cond.methodLink "LineCollectorLaw" 108 ⟨"LineCollectorModel", "field", "(II)I"⟩).before a s = true := h _ (tb 927 rfl rfl)
set_option maxRecDepth 20000 in
theorem k_931 {a : Array Value} {s : State} (h : ∀ w ∈ LW, w.before a s = true) : (Jvm.Cond.methodLink "LineCollectorLaw" 111 ⟨"LineCollectorModel", "object", "(II)I"⟩).before a s = true := h _ (tb 931 rfl rfl)
set_option maxRecDepth 20000 in
theorem k_935 {a : Array Value} {s : State} (h : ∀ w ∈ LW, w.before a s = true) : (Jvm.Cond.methodLink "LineCollectorLaw" 114 ⟨"LineCollectorModel", "line", "(I)I"⟩).before a s = true := h _ (tb 935 rfl rfl)
set_option maxRecDepth 20000 in
theorem k_939 {a : Array Value} {s : State} (h : ∀ w ∈ LW, w.before a s = true) : (Jvm.Cond.methodLink "LineCollectorLaw" 117 ⟨"LineCollectorModel", "figure", "(I)I"⟩).before a s = true := h _ (tb 939 rfl rfl)
set_option maxRecDepth 20000 in
theorem k_943 {a : Array Value} {s : State} (h : ∀ w ∈ LW, w.before a s = true) : (Jvm.Cond.methodLink "LineCollectorModel" 223 ⟨"LineCollectorModel", "objects", "(I)I"⟩).before a s = true := h _ (tb 943 rfl rfl)
set_option maxRecDepth 20000 in
theorem x_ins7 : Cond.instantiable "java/lang/IllegalArgumentException" 6 ∈ LW := tb 359 rfl rfl
set_option maxRecDepth 20000 in
theorem x_ini7 : Cond.initialized "java/lang/IllegalArgumentException" ∈ LW := tb 10 rfl rfl
set_option maxRecDepth 20000 in
theorem x_ins8 : Cond.instantiable "java/lang/IllegalStateException" 6 ∈ LW := tb 518 rfl rfl
set_option maxRecDepth 20000 in
theorem x_ini8 : Cond.initialized "java/lang/IllegalStateException" ∈ LW := tb 14 rfl rfl
set_option maxRecDepth 20000 in
theorem x_ins9 : Cond.instantiable "java/lang/IndexOutOfBoundsException" 6 ∈ LW := tb 537 rfl rfl
set_option maxRecDepth 20000 in
theorem x_ini9 : Cond.initialized "java/lang/IndexOutOfBoundsException" ∈ LW := tb 15 rfl rfl
set_option maxRecDepth 20000 in
theorem x_ins10 : Cond.instantiable "java/lang/UnsupportedOperationException" 6 ∈ LW := tb 440 rfl rfl
set_option maxRecDepth 20000 in
theorem x_ini10 : Cond.initialized "java/lang/UnsupportedOperationException" ∈ LW := tb 12 rfl rfl
set_option maxRecDepth 20000 in
theorem x_ins11 : Cond.instantiable "java/util/NoSuchElementException" 6 ∈ LW := tb 599 rfl rfl
set_option maxRecDepth 20000 in
theorem x_ini11 : Cond.initialized "java/util/NoSuchElementException" ∈ LW := tb 16 rfl rfl
set_option maxRecDepth 20000 in
theorem x_minS {a : Array Value} {s : State} (h : ∀ w ∈ LW, w.before a s = true) : (Cond.static Lib.Math.min.name).before a s = true := h _ (tb 211 rfl rfl)
set_option maxRecDepth 20000 in
theorem x_minI {a : Array Value} {s : State} (h : ∀ w ∈ LW, w.before a s = true) : (Cond.initialized "java/lang/Math").before a s = true := h _ (tb 11 rfl rfl)
set_option maxRecDepth 20000 in
theorem x_minC {a : Array Value} {s : State} (h : ∀ w ∈ LW, w.before a s = true) : (Cond.code Lib.Math.min.name Lib.Math.min.code 2 (some .int)).before a s = true := h _ (tb 212 rfl rfl)
theorem p_I : parseFieldDescriptor "I" = some .int := by decide +kernel
theorem p_Z : parseFieldDescriptor "Z" = some .boolean := by decide +kernel
end
section
/-! The walk's judgement in a short form: the constants in one tuple, the heap by its memory, the locals as ints and references -/
abbrev Kx : Type := Program × Launch × Env × Room × State × MethodId × Array Value × List Frame × Method × Code × (State → Prop)
abbrev kp (K : Kx) : Program := K.1
abbrev kl (K : Kx) : Launch := K.2.1
abbrev ke (K : Kx) : Env := K.2.2.1
abbrev kR (K : Kx) : Room := K.2.2.2.1
abbrev ks (K : Kx) : State := K.2.2.2.2.1
abbrev km (K : Kx) : MethodId := K.2.2.2.2.2.1
abbrev ka (K : Kx) : Array Value := K.2.2.2.2.2.2.1
abbrev kw (K : Kx) : List Frame := K.2.2.2.2.2.2.2.1
abbrev kh (K : Kx) : Method := K.2.2.2.2.2.2.2.2.1
abbrev kc (K : Kx) : Code := K.2.2.2.2.2.2.2.2.2.1
abbrev kq (K : Kx) : State → Prop := K.2.2.2.2.2.2.2.2.2.2
abbrev Av : Type := Int32 ⊕ Option Nat ⊕ Unit
def avr (G : Gl) (v : Av) : Value := match v with
  | .inl n => .int n
  | .inr (.inl e) => rv G e
  | .inr (.inr _) => .ref (ga G)
def lvr (G : Gl) (lv : List (Nat × Av)) : List (Nat × Value) := lv.map (fun q => (q.1, avr G q.2))
theorem avr_cat (G : Gl) (v : Av) : (avr G v).category = 1 := by
  rcases v with n | e | u
  · rfl
  · exact rv_cat G e
  · rfl
def okX (G : Gl) (q x : Nat) (μ : Mem) : Prop := ∃ z, x = gb G + z ∧ okO μ z q
def Qe (G : Gl) (post : Option Value → Mem → Prop) (pe : Nat → Mem → Prop) : Array Value → State → Outcome → State → Prop := fun _ st o t =>
  va_F (gF G) st t ∧ ((∃ (v : Option Value) (μ : Mem), o = .returned v ∧ post v μ ∧ Wd G μ t) ∨ (∃ (q x : Nat) (μ : Mem), o = .threw x ∧ pe q μ ∧ Wd G μ t ∧ okX G q x μ))
def Rn (K : Kx) (G : Gl) (nL pc : Nat) (lv : List (Nat × Av)) (st : List Value) (μ : Mem) (cells slots : Nat) : Prop :=
  ∀ (H : Heap) (locs : List Loc) (ls : Array Slot), Hd G μ H → va_S (gF G) (ks K).heap H locs → lv_has ls nL (lvr G lv) →
    W (kp K) (kl K) (ke K) (kR K) (ks K) (km K) (ka K) (kw K) (kh K) (kc K) H locs cells slots (kq K) (F0 (km K) pc ls st)
def Cx (K : Kx) (G : Gl) (cc : ByteArray) (own : String) (nL : Nat) (rm : Room) : Prop :=
  (kp K).tables.exec = Jvm.exec ∧ (kc K).code = cc ∧ (kc K).maxLocals = nL ∧ (ks K).vm.findClass own = some (km K).cls ∧ (∀ w ∈ LW, w.before (ka K) (ks K) = true) ∧ va_K (gD G) CL (gT G) (ks K) ∧ Xtra G (ks K) (ks K).heap ∧ kR K = rm ∧
  (kh K).locks = false ∧ (∃ μ0, Hq G μ0 (ks K).heap) ∧ (kl K).stackTraces = false
/-- what the method owes at its end -/
def Cq (K : Kx) (G : Gl) (rm : Room) (rt : Option FieldType) (post : Option Value → Mem → Prop) (pe : Nat → Mem → Prop) : Prop :=
  (kh K).sig.returnType = rt ∧ kq K = MQX (kw K) (Qe G post pe) (ka K) (ks K) rm.cells rm.slots (gF G)

section RA
variable {K : Kx} {G : Gl} {cc : ByteArray} {own : String} {nL : Nat} {rm : Room} {pc : Nat} {lv : List (Nat × Av)} {st : List Value} {μ : Mem}
theorem Cx.x (h : Cx K G cc own nL rm) : (kp K).tables.exec = Jvm.exec := h.1
theorem Cx.b (h : Cx K G cc own nL rm) : (kc K).code = cc := h.2.1
theorem Cx.n (h : Cx K G cc own nL rm) : (kc K).maxLocals = nL := h.2.2.1
theorem Cx.o (h : Cx K G cc own nL rm) : (ks K).vm.findClass own = some (km K).cls := h.2.2.2.1
theorem Cx.w (h : Cx K G cc own nL rm) : ∀ w ∈ LW, w.before (ka K) (ks K) = true := h.2.2.2.2.1
theorem Cx.k (h : Cx K G cc own nL rm) : va_K (gD G) CL (gT G) (ks K) := h.2.2.2.2.2.1
theorem Cx.e (h : Cx K G cc own nL rm) : Xtra G (ks K) (ks K).heap := h.2.2.2.2.2.2.1
theorem Cx.r (h : Cx K G cc own nL rm) : kR K = rm := h.2.2.2.2.2.2.2.1
theorem Cx.l (h : Cx K G cc own nL rm) : (kh K).locks = false := h.2.2.2.2.2.2.2.2.1
theorem Cx.d (h : Cx K G cc own nL rm) : ∃ μ0, Hq G μ0 (ks K).heap := h.2.2.2.2.2.2.2.2.2.1
theorem Cx.s (h : Cx K G cc own nL rm) : (kl K).stackTraces = false := h.2.2.2.2.2.2.2.2.2.2
end RA
section RX
variable {K : Kx} {G : Gl} {cc : ByteArray} {own : String} {nL : Nat} {rm : Room} {pc : Nat} {lv : List (Nat × Av)} {st : List Value} {μ : Mem} {a b : Nat}
theorem lv_get {ls : Array Slot} (hl : lv_has ls nL (lvr G lv)) (k : Nat) {i : Nat} {v : Av} (hk : lv[k]? = some (i, v)) : ls[i]? = some (.val (avr G v)) :=
  lv_at hl k (by simp [lvr, hk])
theorem lv_less {ls : Array Slot} {l l' : List (Nat × Value)} (h : lv_has ls nL l) (hs : ∀ q ∈ l', q ∈ l) : lv_has ls nL l' := ⟨h.1, h.2.1, fun q hq => h.2.2 q (hs q hq)⟩
theorem lv_put {ls : Array Slot} {i : Nat} {v : Av} {lv' : List (Nat × Av)} (h : lv_has ls nL ((i, avr G v) :: (lvr G lv).filter (fun q => !(q.1 == i) && !(q.1 + 1 == i && q.2.category == 2)))) (hl : lv.filter (fun q => q.1 != i) = lv') : lv_has ls nL (lvr G ((i, v) :: lv')) := by
  refine lv_less h fun q hq => ?_
  subst hl
  rw [lvr, List.map_cons] at hq
  rcases List.mem_cons.mp hq with rfl | hq
  · exact List.mem_cons_self
  · obtain ⟨q0, h0, rfl⟩ := List.mem_map.mp hq
    obtain ⟨h1, h2⟩ := List.mem_filter.mp h0
    refine List.mem_cons_of_mem _ (List.mem_filter.mpr ⟨List.mem_map.mpr ⟨q0, h1, rfl⟩, ?_⟩)
    have h3 : (q0.1 == i) = false := by simpa [bne] using h2
    simp [h3, avr_cat]
theorem r_sub {lv' : List (Nat × Av)} (ps : List Nat) (h : ps.filterMap (fun k => lv[k]?) = lv') (k : Rn K G nL pc lv' st μ a b) : Rn K G nL pc lv st μ a b := by
  intro H locs ls hH hS hl
  refine k H locs ls hH hS (lv_less hl fun q hq => ?_)
  subst h
  obtain ⟨q0, h0, rfl⟩ := List.mem_map.mp hq
  obtain ⟨k, -, hk⟩ := List.mem_filterMap.mp h0
  exact List.mem_map.mpr ⟨q0, List.mem_of_getElem? hk, rfl⟩
theorem r_widen {a' b' : Nat} (h1 : a ≤ a') (h2 : b ≤ b') (k : Rn K G nL pc lv st μ a' b') : Rn K G nL pc lv st μ a b := fun H locs ls hH hS hl => W.widen h1 h2 (k H locs ls hH hS hl)
theorem r_iconst (C : Cx K G cc own nL rm) {n : Int} {v : Int32} (hd : decode cc pc = .ok (.iconst n, 1)) (hv : Int32.ofInt n = v) (k : Rn K G nL (pc + 1) lv (.int v :: st) μ a b) : Rn K G nL pc lv st μ a b := by
  intro H locs ls hH hS hl
  exact lv_iconst C.x C.b hd hv (k H locs ls hH hS hl)
theorem r_bipush (C : Cx K G cc own nL rm) {n : Int} {v : Int32} (hd : decode cc pc = .ok (.bipush n, 2)) (hv : (Int8.ofInt n).toInt32 = v) (k : Rn K G nL (pc + 2) lv (.int v :: st) μ a b) : Rn K G nL pc lv st μ a b := by
  intro H locs ls hH hS hl
  exact lv_bipush C.x C.b hd hv (k H locs ls hH hS hl)
theorem r_sipush (C : Cx K G cc own nL rm) {n : Int} {v : Int32} (hd : decode cc pc = .ok (.sipush n, 3)) (hv : (Int16.ofInt n).toInt32 = v) (k : Rn K G nL (pc + 3) lv (.int v :: st) μ a b) : Rn K G nL pc lv st μ a b := by
  intro H locs ls hH hS hl
  exact lv_sipush C.x C.b hd hv (k H locs ls hH hS hl)
theorem r_ldc (C : Cx K G cc own nL rm) {index : Nat} {v : Int32} (hc : (Cond.constant own index v).before (ka K) (ks K) = true) (hd : decode cc pc = .ok (.ldc index, 2)) (k : Rn K G nL (pc + 2) lv (.int v :: st) μ a b) : Rn K G nL pc lv st μ a b := by
  intro H locs ls hH hS hl
  exact W.ldc C.x C.b C.o hc rfl hd (k H locs ls hH hS hl)
theorem r_iload_n (C : Cx K G cc own nL rm) {f : Fin 4} {i : Nat} {x : Int32} (hd : decode cc pc = .ok (.iload_n f, 1)) (hi : (f : Nat) = i) (j : Nat) (hj : lv[j]? = some (i, .inl x)) (k : Rn K G nL (pc + 1) lv (.int x :: st) μ a b) : Rn K G nL pc lv st μ a b := by
  intro H locs ls hH hS hl
  exact lv_iload_n C.x C.b hd hi (lv_get hl j hj) (k H locs ls hH hS hl)
theorem r_iload (C : Cx K G cc own nL rm) {i : Nat} {x : Int32} (hd : decode cc pc = .ok (.iload i, 2)) (j : Nat) (hj : lv[j]? = some (i, .inl x)) (k : Rn K G nL (pc + 2) lv (.int x :: st) μ a b) : Rn K G nL pc lv st μ a b := by
  intro H locs ls hH hS hl
  exact lv_iload C.x C.b hd (lv_get hl j hj) (k H locs ls hH hS hl)
theorem r_aload_n (C : Cx K G cc own nL rm) {f : Fin 4} {i : Nat} {x : Option Nat} (hd : decode cc pc = .ok (.aload_n f, 1)) (hi : (f : Nat) = i) (j : Nat) (hj : lv[j]? = some (i, .inr (.inl x))) (k : Rn K G nL (pc + 1) lv (rv G x :: st) μ a b) : Rn K G nL pc lv st μ a b := by
  intro H locs ls hH hS hl
  have hg := lv_get hl j hj
  have hk := k H locs ls hH hS hl
  cases x with
  | none => exact lv_aload_nN C.x C.b hd hi hg hk
  | some y => exact lv_aload_n C.x C.b hd hi hg hk
theorem r_aload (C : Cx K G cc own nL rm) {i : Nat} {x : Option Nat} (hd : decode cc pc = .ok (.aload i, 2)) (j : Nat) (hj : lv[j]? = some (i, .inr (.inl x))) (k : Rn K G nL (pc + 2) lv (rv G x :: st) μ a b) : Rn K G nL pc lv st μ a b := by
  intro H locs ls hH hS hl
  have hg := lv_get hl j hj
  have hk := k H locs ls hH hS hl
  cases x with
  | none => exact lv_aloadN C.x C.b hd hg hk
  | some y => exact lv_aload C.x C.b hd hg hk
theorem r_aloadS (C : Cx K G cc own nL rm) {f : Fin 4} {i : Nat} {u : Unit} (hd : decode cc pc = .ok (.aload_n f, 1)) (hi : (f : Nat) = i) (j : Nat) (hj : lv[j]? = some (i, .inr (.inr u))) (k : Rn K G nL (pc + 1) lv (.ref (ga G) :: st) μ a b) : Rn K G nL pc lv st μ a b := by
  intro H locs ls hH hS hl
  exact lv_aload_n C.x C.b hd hi (lv_get hl j hj) (k H locs ls hH hS hl)
theorem r_istore_n (C : Cx K G cc own nL rm) {f : Fin 4} {i : Nat} {x : Int32} {lv' : List (Nat × Av)} (hd : decode cc pc = .ok (.istore_n f, 1)) (hi : (f : Nat) = i) (hn : i < nL) (hq : lv.filter (fun q => q.1 != i) = lv') (k : Rn K G nL (pc + 1) ((i, .inl x) :: lv') st μ a b) : Rn K G nL pc lv (.int x :: st) μ a b := by
  intro H locs ls hH hS hl
  exact lv_istore_n C.x C.b hd hi hl hn rfl fun ls1 hl1 => k H locs ls1 hH hS (lv_put (v := .inl x) hl1 hq)
theorem r_istore (C : Cx K G cc own nL rm) {i : Nat} {x : Int32} {lv' : List (Nat × Av)} (hd : decode cc pc = .ok (.istore i, 2)) (hn : i < nL) (hq : lv.filter (fun q => q.1 != i) = lv') (k : Rn K G nL (pc + 2) ((i, .inl x) :: lv') st μ a b) : Rn K G nL pc lv (.int x :: st) μ a b := by
  intro H locs ls hH hS hl
  exact lv_istore C.x C.b hd hl hn rfl fun ls1 hl1 => k H locs ls1 hH hS (lv_put (v := .inl x) hl1 hq)
theorem r_astore_n (C : Cx K G cc own nL rm) {f : Fin 4} {i : Nat} {x : Option Nat} {lv' : List (Nat × Av)} (hd : decode cc pc = .ok (.astore_n f, 1)) (hi : (f : Nat) = i) (hn : i < nL) (hq : lv.filter (fun q => q.1 != i) = lv') (k : Rn K G nL (pc + 1) ((i, .inr (.inl x)) :: lv') st μ a b) : Rn K G nL pc lv (rv G x :: st) μ a b := by
  intro H locs ls hH hS hl
  cases x with
  | none => exact lv_astore_nN C.x C.b hd hi hl hn rfl fun ls1 hl1 => k H locs ls1 hH hS (lv_put (v := .inr (.inl none)) hl1 hq)
  | some y => exact lv_astore_n C.x C.b hd hi hl hn rfl fun ls1 hl1 => k H locs ls1 hH hS (lv_put (v := .inr (.inl (some y))) hl1 hq)
theorem r_astore (C : Cx K G cc own nL rm) {i : Nat} {x : Option Nat} {lv' : List (Nat × Av)} (hd : decode cc pc = .ok (.astore i, 2)) (hn : i < nL) (hq : lv.filter (fun q => q.1 != i) = lv') (k : Rn K G nL (pc + 2) ((i, .inr (.inl x)) :: lv') st μ a b) : Rn K G nL pc lv (rv G x :: st) μ a b := by
  intro H locs ls hH hS hl
  cases x with
  | none => exact lv_astoreN C.x C.b hd hl hn rfl fun ls1 hl1 => k H locs ls1 hH hS (lv_put (v := .inr (.inl none)) hl1 hq)
  | some y => exact lv_astore C.x C.b hd hl hn rfl fun ls1 hl1 => k H locs ls1 hH hS (lv_put (v := .inr (.inl (some y))) hl1 hq)
theorem r_iinc (C : Cx K G cc own nL rm) {i : Nat} {n : Int} {x v : Int32} {lv' : List (Nat × Av)} (hd : decode cc pc = .ok (.iinc i n, 3)) (j : Nat) (hj : lv[j]? = some (i, .inl x)) (hv : Int32.ofInt n = v) (hn : i < nL) (hq : lv.filter (fun q => q.1 != i) = lv') (k : Rn K G nL (pc + 3) ((i, .inl (x + v)) :: lv') st μ a b) : Rn K G nL pc lv st μ a b := by
  intro H locs ls hH hS hl
  subst hv
  exact lv_iinc C.x C.b hd hl (k := j) (by simp [lvr, hj, avr]) rfl hn rfl fun ls1 hl1 => k H locs ls1 hH hS (lv_put (v := .inl (x + Int32.ofInt n)) hl1 hq)
theorem r_iadd (C : Cx K G cc own nL rm) {x y : Int32} (hd : decode cc pc = .ok (.iadd, 1)) (k : Rn K G nL (pc + 1) lv (.int (x + y) :: st) μ a b) : Rn K G nL pc lv (.int y :: .int x :: st) μ a b := by
  intro H locs ls hH hS hl
  exact lv_iadd C.x C.b hd (k H locs ls hH hS hl)
theorem r_isub (C : Cx K G cc own nL rm) {x y : Int32} (hd : decode cc pc = .ok (.isub, 1)) (k : Rn K G nL (pc + 1) lv (.int (x - y) :: st) μ a b) : Rn K G nL pc lv (.int y :: .int x :: st) μ a b := by
  intro H locs ls hH hS hl
  exact lv_isub C.x C.b hd (k H locs ls hH hS hl)
theorem r_imul (C : Cx K G cc own nL rm) {x y : Int32} (hd : decode cc pc = .ok (.imul, 1)) (k : Rn K G nL (pc + 1) lv (.int (x * y) :: st) μ a b) : Rn K G nL pc lv (.int y :: .int x :: st) μ a b := by
  intro H locs ls hH hS hl
  exact lv_imul C.x C.b hd (k H locs ls hH hS hl)
theorem r_iand (C : Cx K G cc own nL rm) {x y : Int32} (hd : decode cc pc = .ok (.iand, 1)) (k : Rn K G nL (pc + 1) lv (.int (x &&& y) :: st) μ a b) : Rn K G nL pc lv (.int y :: .int x :: st) μ a b := by
  intro H locs ls hH hS hl
  exact lv_iand C.x C.b hd (k H locs ls hH hS hl)
theorem r_idiv (C : Cx K G cc own nL rm) {x y : Int32} (hd : decode cc pc = .ok (.idiv, 1)) (hy : ¬ y = 0) (k : Rn K G nL (pc + 1) lv (.int (x / y) :: st) μ a b) : Rn K G nL pc lv (.int y :: .int x :: st) μ a b := by
  intro H locs ls hH hS hl
  exact lv_idiv C.x C.b hd hy (k H locs ls hH hS hl)
theorem r_irem (C : Cx K G cc own nL rm) {x y : Int32} (hd : decode cc pc = .ok (.irem, 1)) (hy : ¬ y = 0) (k : Rn K G nL (pc + 1) lv (.int (x - x / y * y) :: st) μ a b) : Rn K G nL pc lv (.int y :: .int x :: st) μ a b := by
  intro H locs ls hH hS hl
  exact lv_irem C.x C.b hd hy (k H locs ls hH hS hl)
theorem r_i2l (C : Cx K G cc own nL rm) {x : Int32} (hd : decode cc pc = .ok (.i2l, 1)) (k : Rn K G nL (pc + 1) lv (.long x.toInt64 :: st) μ a b) : Rn K G nL pc lv (.int x :: st) μ a b := by
  intro H locs ls hH hS hl
  exact lv_i2l C.x C.b hd rfl (k H locs ls hH hS hl)
theorem r_lcmp (C : Cx K G cc own nL rm) {x y : Int64} (hd : decode cc pc = .ok (.lcmp, 1)) (k : Rn K G nL (pc + 1) lv (.int (lg_cmp x y) :: st) μ a b) : Rn K G nL pc lv (.long y :: .long x :: st) μ a b := by
  intro H locs ls hH hS hl
  exact W.lcmp C.x C.b hd (k H locs ls hH hS hl)
theorem r_dupI (C : Cx K G cc own nL rm) {x : Int32} (hd : decode cc pc = .ok (.dup, 1)) (k : Rn K G nL (pc + 1) lv (.int x :: .int x :: st) μ a b) : Rn K G nL pc lv (.int x :: st) μ a b := by
  intro H locs ls hH hS hl
  exact lv_dup C.x C.b hd rfl (k H locs ls hH hS hl)
theorem r_dupR (C : Cx K G cc own nL rm) {x : Option Nat} (hd : decode cc pc = .ok (.dup, 1)) (k : Rn K G nL (pc + 1) lv (rv G x :: rv G x :: st) μ a b) : Rn K G nL pc lv (rv G x :: st) μ a b := by
  intro H locs ls hH hS hl
  exact lv_dup C.x C.b hd (rv_cat G x) (k H locs ls hH hS hl)
theorem r_dup2 (C : Cx K G cc own nL rm) {x : Int32} {y : Option Nat} (hd : decode cc pc = .ok (.dup2, 1)) (k : Rn K G nL (pc + 1) lv (.int x :: rv G y :: .int x :: rv G y :: st) μ a b) : Rn K G nL pc lv (.int x :: rv G y :: st) μ a b := by
  intro H locs ls hH hS hl
  exact lv_dup2_11 C.x C.b hd rfl (rv_cat G y) (k H locs ls hH hS hl)
theorem r_popI (C : Cx K G cc own nL rm) {x : Int32} (hd : decode cc pc = .ok (.pop, 1)) (k : Rn K G nL (pc + 1) lv st μ a b) : Rn K G nL pc lv (.int x :: st) μ a b := by
  intro H locs ls hH hS hl
  exact lv_pop C.x C.b hd rfl (k H locs ls hH hS hl)
theorem r_null (C : Cx K G cc own nL rm) (hd : decode cc pc = .ok (.aconst_null, 1)) (k : Rn K G nL (pc + 1) lv (rv G none :: st) μ a b) : Rn K G nL pc lv st μ a b := by
  intro H locs ls hH hS hl
  exact lv_null C.x C.b hd (k H locs ls hH hS hl)
theorem r_goto (C : Cx K G cc own nL rm) {off : Int} {tgt : Nat} (hd : decode cc pc = .ok (.goto off, 3)) (ht : (pc : Int) + off = (tgt : Int)) (k : Rn K G nL tgt lv st μ a b) : Rn K G nL pc lv st μ a b := by
  intro H locs ls hH hS hl
  exact lv_goto C.x C.b hd ht (k H locs ls hH hS hl)
theorem r_if_eq (C : Cx K G cc own nL rm) {x : Int32} {off : Int} {tgt : Nat} (hd : decode cc pc = .ok (.ifCond .eq off, 3)) (ht : (pc : Int) + off = (tgt : Int)) (kt : x = 0 → Rn K G nL tgt lv st μ a b) (kf : ¬ x = 0 → Rn K G nL (pc + 3) lv st μ a b) : Rn K G nL pc lv (.int x :: st) μ a b := by
  intro H locs ls hH hS hl
  exact lv_if_eq C.x C.b hd ht (fun h => kt h H locs ls hH hS hl) (fun h => kf h H locs ls hH hS hl)
theorem r_icmp_eq (C : Cx K G cc own nL rm) {x y : Int32} {off : Int} {tgt : Nat} (hd : decode cc pc = .ok (.if_icmp .eq off, 3)) (ht : (pc : Int) + off = (tgt : Int)) (kt : x = y → Rn K G nL tgt lv st μ a b) (kf : ¬ x = y → Rn K G nL (pc + 3) lv st μ a b) : Rn K G nL pc lv (.int y :: .int x :: st) μ a b := by
  intro H locs ls hH hS hl
  exact lv_icmp_eq C.x C.b hd ht (fun h => kt h H locs ls hH hS hl) (fun h => kf h H locs ls hH hS hl)
theorem r_if_ne (C : Cx K G cc own nL rm) {x : Int32} {off : Int} {tgt : Nat} (hd : decode cc pc = .ok (.ifCond .ne off, 3)) (ht : (pc : Int) + off = (tgt : Int)) (kt : ¬ x = 0 → Rn K G nL tgt lv st μ a b) (kf : x = 0 → Rn K G nL (pc + 3) lv st μ a b) : Rn K G nL pc lv (.int x :: st) μ a b := by
  intro H locs ls hH hS hl
  exact lv_if_ne C.x C.b hd ht (fun h => kt h H locs ls hH hS hl) (fun h => kf h H locs ls hH hS hl)
theorem r_icmp_ne (C : Cx K G cc own nL rm) {x y : Int32} {off : Int} {tgt : Nat} (hd : decode cc pc = .ok (.if_icmp .ne off, 3)) (ht : (pc : Int) + off = (tgt : Int)) (kt : ¬ x = y → Rn K G nL tgt lv st μ a b) (kf : x = y → Rn K G nL (pc + 3) lv st μ a b) : Rn K G nL pc lv (.int y :: .int x :: st) μ a b := by
  intro H locs ls hH hS hl
  exact lv_icmp_ne C.x C.b hd ht (fun h => kt h H locs ls hH hS hl) (fun h => kf h H locs ls hH hS hl)
theorem r_if_lt (C : Cx K G cc own nL rm) {x : Int32} {off : Int} {tgt : Nat} (hd : decode cc pc = .ok (.ifCond .lt off, 3)) (ht : (pc : Int) + off = (tgt : Int)) (kt : x < 0 → Rn K G nL tgt lv st μ a b) (kf : ¬ x < 0 → Rn K G nL (pc + 3) lv st μ a b) : Rn K G nL pc lv (.int x :: st) μ a b := by
  intro H locs ls hH hS hl
  exact lv_if_lt C.x C.b hd ht (fun h => kt h H locs ls hH hS hl) (fun h => kf h H locs ls hH hS hl)
theorem r_icmp_lt (C : Cx K G cc own nL rm) {x y : Int32} {off : Int} {tgt : Nat} (hd : decode cc pc = .ok (.if_icmp .lt off, 3)) (ht : (pc : Int) + off = (tgt : Int)) (kt : x < y → Rn K G nL tgt lv st μ a b) (kf : ¬ x < y → Rn K G nL (pc + 3) lv st μ a b) : Rn K G nL pc lv (.int y :: .int x :: st) μ a b := by
  intro H locs ls hH hS hl
  exact lv_icmp_lt C.x C.b hd ht (fun h => kt h H locs ls hH hS hl) (fun h => kf h H locs ls hH hS hl)
theorem r_if_ge (C : Cx K G cc own nL rm) {x : Int32} {off : Int} {tgt : Nat} (hd : decode cc pc = .ok (.ifCond .ge off, 3)) (ht : (pc : Int) + off = (tgt : Int)) (kt : 0 ≤ x → Rn K G nL tgt lv st μ a b) (kf : ¬ 0 ≤ x → Rn K G nL (pc + 3) lv st μ a b) : Rn K G nL pc lv (.int x :: st) μ a b := by
  intro H locs ls hH hS hl
  exact lv_if_ge C.x C.b hd ht (fun h => kt h H locs ls hH hS hl) (fun h => kf h H locs ls hH hS hl)
theorem r_icmp_ge (C : Cx K G cc own nL rm) {x y : Int32} {off : Int} {tgt : Nat} (hd : decode cc pc = .ok (.if_icmp .ge off, 3)) (ht : (pc : Int) + off = (tgt : Int)) (kt : y ≤ x → Rn K G nL tgt lv st μ a b) (kf : ¬ y ≤ x → Rn K G nL (pc + 3) lv st μ a b) : Rn K G nL pc lv (.int y :: .int x :: st) μ a b := by
  intro H locs ls hH hS hl
  exact lv_icmp_ge C.x C.b hd ht (fun h => kt h H locs ls hH hS hl) (fun h => kf h H locs ls hH hS hl)
theorem r_if_gt (C : Cx K G cc own nL rm) {x : Int32} {off : Int} {tgt : Nat} (hd : decode cc pc = .ok (.ifCond .gt off, 3)) (ht : (pc : Int) + off = (tgt : Int)) (kt : 0 < x → Rn K G nL tgt lv st μ a b) (kf : ¬ 0 < x → Rn K G nL (pc + 3) lv st μ a b) : Rn K G nL pc lv (.int x :: st) μ a b := by
  intro H locs ls hH hS hl
  exact lv_if_gt C.x C.b hd ht (fun h => kt h H locs ls hH hS hl) (fun h => kf h H locs ls hH hS hl)
theorem r_icmp_gt (C : Cx K G cc own nL rm) {x y : Int32} {off : Int} {tgt : Nat} (hd : decode cc pc = .ok (.if_icmp .gt off, 3)) (ht : (pc : Int) + off = (tgt : Int)) (kt : y < x → Rn K G nL tgt lv st μ a b) (kf : ¬ y < x → Rn K G nL (pc + 3) lv st μ a b) : Rn K G nL pc lv (.int y :: .int x :: st) μ a b := by
  intro H locs ls hH hS hl
  exact lv_icmp_gt C.x C.b hd ht (fun h => kt h H locs ls hH hS hl) (fun h => kf h H locs ls hH hS hl)
theorem r_if_le (C : Cx K G cc own nL rm) {x : Int32} {off : Int} {tgt : Nat} (hd : decode cc pc = .ok (.ifCond .le off, 3)) (ht : (pc : Int) + off = (tgt : Int)) (kt : x ≤ 0 → Rn K G nL tgt lv st μ a b) (kf : ¬ x ≤ 0 → Rn K G nL (pc + 3) lv st μ a b) : Rn K G nL pc lv (.int x :: st) μ a b := by
  intro H locs ls hH hS hl
  exact lv_if_le C.x C.b hd ht (fun h => kt h H locs ls hH hS hl) (fun h => kf h H locs ls hH hS hl)
theorem r_icmp_le (C : Cx K G cc own nL rm) {x y : Int32} {off : Int} {tgt : Nat} (hd : decode cc pc = .ok (.if_icmp .le off, 3)) (ht : (pc : Int) + off = (tgt : Int)) (kt : x ≤ y → Rn K G nL tgt lv st μ a b) (kf : ¬ x ≤ y → Rn K G nL (pc + 3) lv st μ a b) : Rn K G nL pc lv (.int y :: .int x :: st) μ a b := by
  intro H locs ls hH hS hl
  exact lv_icmp_le C.x C.b hd ht (fun h => kt h H locs ls hH hS hl) (fun h => kf h H locs ls hH hS hl)
theorem r_ifnull (C : Cx K G cc own nL rm) {x : Option Nat} {off : Int} {tgt : Nat} (hd : decode cc pc = .ok (.ifnull off, 3)) (ht : (pc : Int) + off = (tgt : Int)) (kt : x = none → Rn K G nL tgt lv st μ a b) (kf : ∀ y, x = some y → Rn K G nL (pc + 3) lv st μ a b) : Rn K G nL pc lv (rv G x :: st) μ a b := by
  intro H locs ls hH hS hl
  cases x with
  | none => exact lv_ifnullN C.x C.b hd ht (kt rfl H locs ls hH hS hl)
  | some y => exact lv_ifnull C.x C.b hd (kf y rfl H locs ls hH hS hl)
theorem r_ifnonnull (C : Cx K G cc own nL rm) {x : Option Nat} {off : Int} {tgt : Nat} (hd : decode cc pc = .ok (.ifnonnull off, 3)) (ht : (pc : Int) + off = (tgt : Int)) (kt : ∀ y, x = some y → Rn K G nL tgt lv st μ a b) (kf : x = none → Rn K G nL (pc + 3) lv st μ a b) : Rn K G nL pc lv (rv G x :: st) μ a b := by
  intro H locs ls hH hS hl
  cases x with
  | none => exact lv_ifnonnullN C.x C.b hd (kf rfl H locs ls hH hS hl)
  | some y => exact lv_ifnonnull C.x C.b hd ht (kt y rfl H locs ls hH hS hl)
theorem r_acmp_eq (C : Cx K G cc own nL rm) {x y : Option Nat} {off : Int} {tgt : Nat} (hd : decode cc pc = .ok (.if_acmp .eq off, 3)) (ht : (pc : Int) + off = (tgt : Int)) (kt : x = y → Rn K G nL tgt lv st μ a b) (kf : ¬ x = y → Rn K G nL (pc + 3) lv st μ a b) : Rn K G nL pc lv (rv G y :: rv G x :: st) μ a b := by
  intro H locs ls hH hS hl
  rw [← rv_rf, ← rv_rf]
  exact lv_acmp_eq C.x C.b hd ht (fun h => kt ((map_inj G x y).mp h) H locs ls hH hS hl) (fun h => kf (fun q => h ((map_inj G x y).mpr q)) H locs ls hH hS hl)
theorem r_acmp_ne (C : Cx K G cc own nL rm) {x y : Option Nat} {off : Int} {tgt : Nat} (hd : decode cc pc = .ok (.if_acmp .ne off, 3)) (ht : (pc : Int) + off = (tgt : Int)) (kt : ¬ x = y → Rn K G nL tgt lv st μ a b) (kf : x = y → Rn K G nL (pc + 3) lv st μ a b) : Rn K G nL pc lv (rv G y :: rv G x :: st) μ a b := by
  intro H locs ls hH hS hl
  rw [← rv_rf, ← rv_rf]
  exact lv_acmp_ne C.x C.b hd ht (fun h => kt (fun q => h ((map_inj G x y).mpr q)) H locs ls hH hS hl) (fun h => kf ((map_inj G x y).mp h) H locs ls hH hS hl)
theorem r_tin (C : Cx K G cc own nL rm) {dflt hi off : Int} {offs : Array Int} {len tgt : Nat} {x : Int32} (hd : decode cc pc = .ok (.tableswitch dflt 0 hi offs, len)) {c : Int32} (hx : x = c) (h1 : ¬ c.toInt < 0) (h2 : ¬ hi < c.toInt) (ho : offs[(c.toInt - 0).toNat]? = some off) (ht : (pc : Int) + off = (tgt : Int)) (k : Rn K G nL tgt lv st μ a b) : Rn K G nL pc lv (.int x :: st) μ a b := by
  intro H locs ls hH hS hl
  subst hx
  exact lv_tableIn C.x C.b hd h1 h2 ho ht (k H locs ls hH hS hl)
theorem sw_out {x : Int32} {N : Nat} (hN : N < 2 ^ 31) (h : ∀ n : Nat, n ≤ N → ¬ x = Int32.ofNat n) : x.toInt < 0 ∨ (N : Int) < x.toInt := by
  by_cases h0 : x.toInt < 0
  · exact Or.inl h0
  · refine Or.inr (Int.not_le.mp fun h1 => h x.toInt.toNat (by omega) ?_)
    apply Int32.toInt_inj.mp
    have h2 := nI_toInt (n := x.toInt.toNat) (by omega)
    unfold nI at h2
    rw [h2]
    omega
theorem r_tout (C : Cx K G cc own nL rm) {dflt : Int} {N : Nat} {offs : Array Int} {len tgt : Nat} {x : Int32} (hd : decode cc pc = .ok (.tableswitch dflt 0 (N : Int) offs, len)) (hN : N < 2 ^ 31) (h : ∀ n : Nat, n ≤ N → ¬ x = Int32.ofNat n) (ht : (pc : Int) + dflt = (tgt : Int)) (k : Rn K G nL tgt lv st μ a b) : Rn K G nL pc lv (.int x :: st) μ a b := by
  intro H locs ls hH hS hl
  exact lv_tableOut C.x C.b hd (sw_out hN h) ht (k H locs ls hH hS hl)
theorem x_same {s : State} {ci : Nat} {Cn : String} {T : u_T} {N : Nat} (hc : CL[ci]? = some (Cn, T, N)) {j : Nat} (hj : j < N) : ∀ x, s.fieldFound? (T j).1 (T j).2.1 (T j).2.2.1 = some x → s.fieldFound? Cn (T j).2.1 (T j).2.2.1 = some x := by
  intro x h
  have h0 : (T j).1 = Cn := cl_own hc j hj
  rw [h0] at h
  exact h
theorem r_getI (C : Cx K G cc own nL rm) {Cn : String} {T : u_T} {N ci idx : Nat} (hc : CL[ci]? = some (Cn, T, N)) (j : Nat) (hj : j < N) (hlk : (Cond.fieldLink own idx Cn (T j).2.1 (T j).2.2.1).before (ka K) (ks K) = true) (hsh : (shp ci)[j]? = some none) {r : Nat} (hr : LayG G μ → okO μ r ci) (hd : decode cc pc = .ok (.getfield idx, 3)) (k : Rn K G nL (pc + 3) lv (.int (mI μ r j) :: st) μ a b) : Rn K G nL pc lv (rv G (some r) :: st) μ a b := by
  intro H locs ls hH hS hl
  have h1 := hr hH.1
  have h9 := cl_lt hc
  exact va_get C.x C.b C.w (cl_in hc) C.o C.k (hH.P h1.1 (rend_o h1.2 (by omega))) 0 rfl hc j hj hlk (x_same hc hj) (flds_get hsh) hd (k H locs ls hH hS hl)
theorem r_getR (C : Cx K G cc own nL rm) {Cn : String} {T : u_T} {N ci idx : Nat} (hc : CL[ci]? = some (Cn, T, N)) (j : Nat) (hj : j < N) (hlk : (Cond.fieldLink own idx Cn (T j).2.1 (T j).2.2.1).before (ka K) (ks K) = true) {d : Nat} (hsh : (shp ci)[j]? = some (some d)) {r : Nat} (hr : LayG G μ → okO μ r ci) (hd : decode cc pc = .ok (.getfield idx, 3)) (k : Rn K G nL (pc + 3) lv (rv G (some (r + d)) :: st) μ a b) : Rn K G nL pc lv (rv G (some r) :: st) μ a b := by
  intro H locs ls hH hS hl
  have h1 := hr hH.1
  have h9 := cl_lt hc
  exact va_get C.x C.b C.w (cl_in hc) C.o C.k (hH.P h1.1 (rend_o h1.2 (by omega))) 0 rfl hc j hj hlk (x_same hc hj) (flds_get hsh) hd (k H locs ls hH hS hl)
theorem r_putT (C : Cx K G cc own nL rm) {Cn : String} {T : u_T} {N ci idx : Nat} (hc : CL[ci]? = some (Cn, T, N)) (j : Nat) (hj : j < N) (hlk : (Cond.fieldLink own idx Cn (T j).2.1 (T j).2.2.1).before (ka K) (ks K) = true) (hsh : (shp ci)[j]? = some none) (hfin : (T j).2.2.2 = false) {ty : FieldType} (hty : parseFieldDescriptor (T j).2.2.1 = some ty) {v : Int32} (hn : narrow ty (.int v) = .int v) (hfit : fits ty (.int v) = true) {r : Nat} (hr : LayG G μ → okO μ r ci) (hd : decode cc pc = .ok (.putfield idx, 3)) (k : ∀ μ1, μ1 = sI μ r j v → Rn K G nL (pc + 3) lv st μ1 a b) : Rn K G nL pc lv (.int v :: rv G (some r) :: st) μ a b := by
  intro H locs ls hH hS hl
  have h1 := hr hH.1
  have h9 := cl_lt hc
  have hap := va_apart (own := own) C.w (cl_in hc) (fun k => ftyD (T k).2.2.1) (cl_ty hc) (cl_nm hc) C.k hc
  have hre := rend_o (G := G) h1.2 (by omega)
  obtain ⟨q, h2, cell, q1, q2, q3, q4⟩ := hH.P h1.1 hre 0 _ rfl
  have hq : q = (Cn, T, N) := Option.some.inj (h2.symm.trans hc)
  subst hq
  obtain ⟨hSl, hfc, kC, hkC, hkind⟩ := C.k.1 ci _ hc
  obtain ⟨cf, kf, fi, f, hi, hsl⟩ := hSl j hj
  have hlay := C.w _ (cl_in hc _ (u_in_lay hj))
  unfold u_lay at hlay
  rw [if_neg (by rw [hfin]; decide)] at hlay
  have hst := (u_facts hfc hkC (u_lays C.w (cl_in hc) hj) hi).1
  have h6 := u_store hfc hkC hkind hlay hi hty hn hfit
  refine W.putK C.x C.b (f := f) ⟨C.o, hlk, ⟨_, _, _, x_same hc hj _ hi⟩, hst⟩ (by rw [q2]; exact h6) q1 q3 (by rw [hsl]; exact k2_hasslot (q4 j hj)) rfl rfl hd fun H' e1 e2 e3 => ?_
  rw [hsl] at e1 ⊢
  refine k _ rfl H' _ ls (hH.put (r := r) (hH.1.sI r j v) rfl e2 e3 (fun x hx => rend_ne hx) ?_) (hS.put e2 e3 (by unfold gF; omega)) hl
  rw [rend_o (μ := sI μ r j v) (ci := ci) h1.2 (by omega), flds_set hsh]
  exact ⟨_, hc, t_OB.to (V := updV (vp_V (flds G μ r ci)) j (.int v)) ⟨_, e1, q2, q3, t_set q4 hap hj (.int v)⟩ (fun i _ => vp_updV_set (by rw [flds_len, cl_len hc]; exact hj) (.int v) i)⟩
theorem r_putI (C : Cx K G cc own nL rm) {Cn : String} {T : u_T} {N ci idx : Nat} (hc : CL[ci]? = some (Cn, T, N)) (j : Nat) (hj : j < N) (hlk : (Cond.fieldLink own idx Cn (T j).2.1 (T j).2.2.1).before (ka K) (ks K) = true) (hsh : (shp ci)[j]? = some none) (hfin : (T j).2.2.2 = false) (hty : parseFieldDescriptor (T j).2.2.1 = some .int) {v : Int32} {r : Nat} (hr : LayG G μ → okO μ r ci) (hd : decode cc pc = .ok (.putfield idx, 3)) (k : ∀ μ1, μ1 = sI μ r j v → Rn K G nL (pc + 3) lv st μ1 a b) : Rn K G nL pc lv (.int v :: rv G (some r) :: st) μ a b :=
  r_putT C hc j hj hlk hsh hfin hty rfl rfl hr hd k
theorem r_putZ (C : Cx K G cc own nL rm) {Cn : String} {T : u_T} {N ci idx : Nat} (hc : CL[ci]? = some (Cn, T, N)) (j : Nat) (hj : j < N) (hlk : (Cond.fieldLink own idx Cn (T j).2.1 (T j).2.2.1).before (ka K) (ks K) = true) (hsh : (shp ci)[j]? = some none) (hfin : (T j).2.2.2 = false) (hty : parseFieldDescriptor (T j).2.2.1 = some .boolean) {v : Int32} (hz : zb v) {r : Nat} (hr : LayG G μ → okO μ r ci) (hd : decode cc pc = .ok (.putfield idx, 3)) (k : ∀ μ1, μ1 = sI μ r j v → Rn K G nL (pc + 3) lv st μ1 a b) : Rn K G nL pc lv (.int v :: rv G (some r) :: st) μ a b := by
  rcases hz with rfl | rfl
  · exact r_putT C hc j hj hlk hsh hfin hty rfl rfl hr hd k
  · exact r_putT C hc j hj hlk hsh hfin hty rfl rfl hr hd k
theorem r_iald (C : Cx K G cc own nL rm) {r n : Nat} {i : Int32} (hr : LayG G μ → okA μ r 20 n) (hin : vp_in i n) (hd : decode cc pc = .ok (.iaload, 1)) (k : Rn K G nL (pc + 1) lv (.int (mI μ r i.toNatClampNeg) :: st) μ a b) : Rn K G nL pc lv (.int i :: rv G (some r) :: st) μ a b := by
  intro H locs ls hH hS hl
  have h1 := hr hH.1
  exact va_iald C.x C.b C.k (hH.P h1.1 (rend_i h1)) 0 0 rfl rfl hin hd (k H locs ls hH hS hl)
theorem r_zald (C : Cx K G cc own nL rm) {r n : Nat} {i : Int32} (hr : LayG G μ → okA μ r 21 n) (hin : vp_in i n) (hd : decode cc pc = .ok (.baload, 1)) (k : Rn K G nL (pc + 1) lv (.int (mI μ r i.toNatClampNeg) :: st) μ a b) : Rn K G nL pc lv (.int i :: rv G (some r) :: st) μ a b := by
  intro H locs ls hH hS hl
  have h1 := hr hH.1
  exact va_zald C.x C.b C.k (hH.P h1.1 (rend_z h1)) 0 1 rfl rfl hin hd (k H locs ls hH hS hl)
theorem r_lald (C : Cx K G cc own nL rm) {r n : Nat} {i : Int32} (hr : LayG G μ → okA μ r 23 n) (hin : vp_in i n) (hd : decode cc pc = .ok (.laload, 1)) (k : Rn K G nL (pc + 1) lv (.long (mI μ r i.toNatClampNeg).toInt64 :: st) μ a b) : Rn K G nL pc lv (.int i :: rv G (some r) :: st) μ a b := by
  intro H locs ls hH hS hl
  have h1 := hr hH.1
  exact va_lald C.x C.b C.k (hH.P h1.1 (rend_j h1)) 0 3 rfl rfl hin hd (k H locs ls hH hS hl)
theorem r_aald (C : Cx K G cc own nL rm) {r n : Nat} {i : Int32} (hr : LayG G μ → okA μ r 22 n) (hin : vp_in i n) (hd : decode cc pc = .ok (.aaload, 1)) (k : ∀ e, e = mR μ r i.toNatClampNeg → Rn K G nL (pc + 1) lv (rv G e :: st) μ a b) : Rn K G nL pc lv (.int i :: rv G (some r) :: st) μ a b := by
  intro H locs ls hH hS hl
  have h1 := hr hH.1
  have hk := k _ rfl H locs ls hH hS hl
  rw [← rv_rf] at hk
  exact va_aldq C.x C.b C.k (hH.P h1.1 (rend_q h1)) 0 2 rfl rfl hin hd hk
theorem r_alen (C : Cx K G cc own nL rm) {r n kd t0 : Nat} {x : vp_A} {v : Int32} {ty : FieldType} (hr : LayG G μ → okA μ r kd n) (hre : okA μ r kd n → ∃ cA, rend G μ r = .inl (cA, x) ∧ (gT G)[t0]? = some (cA, ty)) (hx : Int32.ofNat x.1 = v) (hd : decode cc pc = .ok (.arraylength, 1)) (k : Rn K G nL (pc + 1) lv (.int v :: st) μ a b) : Rn K G nL pc lv (rv G (some r) :: st) μ a b := by
  intro H locs ls hH hS hl
  have h1 := hr hH.1
  obtain ⟨cA, h2, h3⟩ := hre h1
  exact va_alen C.x C.b C.k (hH.P h1.1 h2) 0 t0 rfl h3 hx hd (k H locs ls hH hS hl)
theorem r_alenQ (C : Cx K G cc own nL rm) {r n : Nat} {v : Int32} (hr : LayG G μ → okA μ r 22 n) (hv : Int32.ofNat n = v) (hd : decode cc pc = .ok (.arraylength, 1)) (k : Rn K G nL (pc + 1) lv (.int v :: st) μ a b) : Rn K G nL pc lv (rv G (some r) :: st) μ a b := r_alen (t0 := 2) (ty := .object "LineCollector$Item") C hr (fun h => ⟨gA G 2, rend_q h, rfl⟩) hv hd k
theorem r_iast (C : Cx K G cc own nL rm) {r n : Nat} {i : Int32} (hr : LayG G μ → okA μ r 20 n) (hin : vp_in i n) (hd : decode cc pc = .ok (.iastore, 1)) {v : Int32} (k : ∀ μ1, μ1 = sI μ r i.toNatClampNeg v → Rn K G nL (pc + 1) lv st μ1 a b) : Rn K G nL pc lv (.int v :: .int i :: rv G (some r) :: st) μ a b := by
  intro H locs ls hH hS hl
  have h1 := hr hH.1
  have hre := rend_i (G := G) h1
  have ha : H[gb G + r]? = some (arrV (gA G 0) n (fun j => .int (mI μ r j))) := by
    have h2 : va_at (gD G) CL (gb G + r, rend G μ r) H := hH.2.2 r h1.1
    rw [hre] at h2
    exact h2
  refine W.iast C.x C.b ha ((C.k.2 0 _ rfl).1 n _) (fun q => by cases q) (by show ¬ (i < 0 ∨ (arrV _ _ _).slots.size ≤ _); rw [arrV_size]; exact hin) rfl rfl hd fun H1 e z oq => ?_
  refine k _ rfl H1 _ ls (hH.put (r := r) (hH.1.sI r i.toNatClampNeg v) rfl z oq (fun x hx => rend_ne hx) ?_) (hS.put z oq (by unfold gF; omega)) hl
  rw [rend_i (μ := sI μ r i.toNatClampNeg v) (r := r) (n := n) h1]
  show H1[gb G + r]? = some (arrV (gA G 0) n (fun j => .int (mI (sI μ r i.toNatClampNeg v) r j)))
  rw [e, arrV_store]
  congr 2
  funext q
  by_cases hq : q = i.toNatClampNeg
  · subst hq
    simp [updV, mI_sI]
  · simp [updV, mI_sI, hq]
theorem r_zast (C : Cx K G cc own nL rm) {r n : Nat} {i : Int32} (hr : LayG G μ → okA μ r 21 n) (hin : vp_in i n) (hd : decode cc pc = .ok (.bastore, 1)) {v : Int32} (hz : zb v) (k : ∀ μ1, μ1 = sI μ r i.toNatClampNeg v → Rn K G nL (pc + 1) lv st μ1 a b) : Rn K G nL pc lv (.int v :: .int i :: rv G (some r) :: st) μ a b := by
  intro H locs ls hH hS hl
  have hnar : narrow .boolean (.int v) = .int v := by rcases hz with rfl | rfl <;> rfl
  have h1 := hr hH.1
  have hre := rend_z (G := G) h1
  have ha : H[gb G + r]? = some (arrV (gA G 1) n (fun j => .int (mI μ r j))) := by
    have h2 : va_at (gD G) CL (gb G + r, rend G μ r) H := hH.2.2 r h1.1
    rw [hre] at h2
    exact h2
  refine W.zast C.x C.b ha ((C.k.2 1 _ rfl).1 n _) (fun q => by cases q) (by show ¬ (i < 0 ∨ (arrV _ _ _).slots.size ≤ _); rw [arrV_size]; exact hin) rfl rfl hd fun H1 e z oq => ?_
  refine k _ rfl H1 _ ls (hH.put (r := r) (hH.1.sI r i.toNatClampNeg v) rfl z oq (fun x hx => rend_ne hx) ?_) (hS.put z oq (by unfold gF; omega)) hl
  rw [rend_z (μ := sI μ r i.toNatClampNeg v) (r := r) (n := n) h1]
  show H1[gb G + r]? = some (arrV (gA G 1) n (fun j => .int (mI (sI μ r i.toNatClampNeg v) r j)))
  rw [e, arrV_store]
  congr 2
  funext q
  by_cases hq : q = i.toNatClampNeg
  · subst hq
    simp [updV, mI_sI, hnar]
  · simp [updV, mI_sI, hq]
theorem r_last (C : Cx K G cc own nL rm) {r n : Nat} {i : Int32} (hr : LayG G μ → okA μ r 23 n) (hin : vp_in i n) (hd : decode cc pc = .ok (.lastore, 1)) {v : Int32} (k : ∀ μ1, μ1 = sI μ r i.toNatClampNeg v → Rn K G nL (pc + 1) lv st μ1 a b) : Rn K G nL pc lv (.long v.toInt64 :: .int i :: rv G (some r) :: st) μ a b := by
  intro H locs ls hH hS hl
  have h1 := hr hH.1
  have hre := rend_j (G := G) h1
  have ha : H[gb G + r]? = some (arrV (gA G 3) n (fun j => .long (mI μ r j).toInt64)) := by
    have h2 : va_at (gD G) CL (gb G + r, rend G μ r) H := hH.2.2 r h1.1
    rw [hre] at h2
    exact h2
  refine W.last C.x C.b ha ((C.k.2 3 _ rfl).1 n _) (fun q => by cases q) (by show ¬ (i < 0 ∨ (arrV _ _ _).slots.size ≤ _); rw [arrV_size]; exact hin) rfl rfl hd fun H1 e z oq => ?_
  refine k _ rfl H1 _ ls (hH.put (r := r) (hH.1.sI r i.toNatClampNeg v) rfl z oq (fun x hx => rend_ne hx) ?_) (hS.put z oq (by unfold gF; omega)) hl
  rw [rend_j (μ := sI μ r i.toNatClampNeg v) (r := r) (n := n) h1]
  show H1[gb G + r]? = some (arrV (gA G 3) n (fun j => .long (mI (sI μ r i.toNatClampNeg v) r j).toInt64))
  rw [e, arrV_store]
  congr 2
  funext q
  by_cases hq : q = i.toNatClampNeg
  · subst hq
    simp [updV, mI_sI]
  · simp [updV, mI_sI, hq]
theorem r_aast (C : Cx K G cc own nL rm) {r n : Nat} {i : Int32} (hr : LayG G μ → okA μ r 22 n) (hin : vp_in i n) (hd : decode cc pc = .ok (.aastore, 1)) {v : Option Nat} (hv : ∀ y, v = some y → okO μ y 5) (k : ∀ μ1, μ1 = sR μ r i.toNatClampNeg v → Rn K G nL (pc + 1) lv st μ1 a b) : Rn K G nL pc lv (rv G v :: .int i :: rv G (some r) :: st) μ a b := by
  intro H locs ls hH hS hl
  have h1 := hr hH.1
  have hre := rend_q (G := G) h1
  have ha : H[gb G + r]? = some (arrV (gA G 2) n (fun j => va_rf ((mR μ r j).map (fun x => gb G + x)))) := by
    have h2 : va_at (gD G) CL (gb G + r, rend G μ r) H := hH.2.2 r h1.1
    rw [hre] at h2
    exact h2
  have fin : ∀ (H1 : Heap), H1[gb G + r]? = some ((arrV (gA G 2) n (fun j => va_rf ((mR μ r j).map (fun x => gb G + x)))).setSlot i.toNatClampNeg (rv G v)) → H1.size = H.size → (∀ q, q ≠ gb G + r → H1[q]? = H[q]?) →
      W (kp K) (kl K) (ke K) (kR K) (ks K) (km K) (ka K) (kw K) (kh K) (kc K) H1 (locs ++ [⟨gb G + r, i.toNatClampNeg⟩]) a b (kq K) (F0 (km K) (pc + 1) ls st) := by
    intro H1 e z oq
    refine k _ rfl H1 _ ls (hH.put (r := r) (hH.1.sR r i.toNatClampNeg v) rfl z oq (fun x hx => rend_neR hx) ?_) (hS.put z oq (by unfold gF; omega)) hl
    rw [rend_q (μ := sR μ r i.toNatClampNeg v) (r := r) (n := n) h1]
    show H1[gb G + r]? = some (arrV (gA G 2) n (fun j => va_rf ((mR (sR μ r i.toNatClampNeg v) r j).map (fun x => gb G + x))))
    rw [e, arrV_store]
    congr 2
    funext q
    by_cases hq : q = i.toNatClampNeg
    · subst hq
      simp [updV, mR_sR, rv_rf]
    · simp [updV, mR_sR, hq]
  have hlt : i.toNatClampNeg < n := Nat.not_le.mp fun q => hin (Or.inr q)
  have h0 : ¬ i < 0 := fun q => hin (Or.inl q)
  cases v with
  | none =>
    exact va_WaastN (C := "LineCollector$Item") C.x C.b ha ((C.k.2 2 _ rfl).1 n _) (fun h => by cases h) (by show ¬ (i < 0 ∨ (arrV _ _ _).slots.size ≤ _); rw [arrV_size]; exact hin) rfl rfl hd fun H1 e z oq => fin H1 e z oq
  | some y =>
    have hy := hv y rfl
    obtain ⟨q, h2, cellV, g1, g2, g3, -⟩ := hH.P hy.1 (rend_o (G := G) hy.2 (by decide)) 0 _ rfl
    have hcls := (C.k.1 5 _ rfl).2
    obtain ⟨kA, comp, k1, k2, k3, -⟩ := (C.k.2 2 _ rfl).2
    have hcomp : comp = (gD G).1 5 := Option.some.inj (k3.symm.trans hcls.1)
    subst hcomp
    obtain ⟨kC, hkC, -⟩ := hcls.2
    exact W.aast C.x C.b ha (fun q h => by cases h) (fun h => by cases h) k1 k2 rfl hkC ⟨h0, by show _ < (arrV _ _ _).slots.size; rw [arrV_size]; exact hlt⟩ g1 (fun q h => by rw [g3] at h; cases h) (by rw [g2]; exact hkC) (by rw [g2]; exact va_assign hcls) rfl rfl hd fun H1 e z oq => fin H1 e z oq
end RX
end
section
/-! Methods by a tuple; entry, calls, returns -/
abbrev Mi : Type := MethodName × ByteArray × Nat × Option FieldType × Room × Nat
abbrev iy (i : Mi) : MethodName := i.1
abbrev ib (i : Mi) : ByteArray := i.2.1
abbrev il (i : Mi) : Nat := i.2.2.1
abbrev ir (i : Mi) : Option FieldType := i.2.2.2.1
abbrev im (i : Mi) : Room := i.2.2.2.2.1
abbrev ia (i : Mi) : Nat := i.2.2.2.2.2
def avl (G : Gl) (avs : List Av) : List Value := avs.map (avr G)
def Ct (l : Launch) (G : Gl) (i : Mi) (avs : List Av) (μ : Mem) (post : Option Value → Mem → Prop) (pe : Nat → Mem → Prop) : Prop :=
  MetX l (iy i) (Cond.code (iy i) (ib i) (il i) (ir i) :: LW) (im i) (va_Pc (avl G avs) (Wd G μ)) (Qe G post pe) (im i).cells (im i).slots (gF G)
def CtW (l : Launch) (G : Gl) (i : Mi) (hh : List (Nat × Nat × Nat × Nat)) (avs : List Av) (μ : Mem) (post : Option Value → Mem → Prop) (pe : Nat → Mem → Prop) : Prop :=
  MetX l (iy i) (Cond.codeWith (iy i) (ib i) (il i) (ir i) hh :: LW) (im i) (va_Pc (avl G avs) (Wd G μ)) (Qe G post pe) (im i).cells (im i).slots (gF G)
def noX : Nat → Mem → Prop := fun _ _ => False
def poV (post : Mem → Prop) : Option Value → Mem → Prop := fun v μ => v = none ∧ post μ
def poI (post : Int32 → Mem → Prop) : Option Value → Mem → Prop := fun v μ => ∃ n : Int32, v = some (.int n) ∧ post n μ
def poQ (G : Gl) (post : Option Nat → Mem → Prop) : Option Value → Mem → Prop := fun v μ => ∃ e : Option Nat, v = some (rv G e) ∧ post e μ
def MiB (i : Mi) : Prop := Cond.initialized (iy i).cls ∈ LW ∧ ((iy i).cls ≠ "java/lang/invoke/MethodHandle" ∧ (iy i).cls ≠ "java/lang/invoke/VarHandle") ∧ (parseMethodDescriptor (iy i).desc).map (fun d => d.parameters.length) = some (ia i)
def MiV (i : Mi) (Cn : String) : Prop := MiB i ∧ Cond.code (iy i) (ib i) (il i) (ir i) ∈ LW ∧ Cond.instanceMethod (iy i) ∈ LW ∧ Cond.selects Cn (iy i) (iy i) ∈ LW
def MiS (i : Mi) : Prop := MiB i ∧ Cond.code (iy i) (ib i) (il i) (ir i) ∈ LW ∧ Cond.static (iy i) ∈ LW
def MiW (i : Mi) (hh : List (Nat × Nat × Nat × Nat)) : Prop := MiB i ∧ Cond.codeWith (iy i) (ib i) (il i) (ir i) hh ∈ LW ∧ Cond.static (iy i) ∈ LW
theorem lg_len (G : Gl) (avs : List Av) : (lg_sl (avl G avs)).length = avs.length := by
  induction avs with
  | nil => rfl
  | cons v vs ih =>
    unfold avl lg_sl at ih ⊢
    rw [List.map_cons, List.flatMap_cons, if_neg (by rw [avr_cat]; decide), List.length_append, ih]
    simp
    omega
theorem lv_args_eq (G : Gl) (avs : List Av) (n : Nat) : lv_args n (avl G avs) = lvr G ((avs.zipIdx n).map (fun q => (q.2, q.1))) := by
  induction avs generalizing n with
  | nil => rfl
  | cons v vs ih =>
    unfold avl at ih ⊢
    rw [List.map_cons, lv_args, if_neg (by rw [avr_cat]; decide), ih, List.zipIdx_cons]
    rfl
theorem Xtra.at {G : Gl} {s U : State} {H : Heap} {locs : List Loc} (h : Xtra G s s.heap) (hS : va_S (gF G) s.heap H locs) (hb : gb G ≤ s.heap.size) (hvm : s.vm.Alike U.vm) : Xtra G U H := by
  obtain ⟨h1, h2, h3, h4, h5, h6⟩ := h
  have hk : ∀ q : Nat, q < s.heap.size → ¬ gF G q → H[q]? = s.heap[q]? := hS.2.1
  exact ⟨(h1.kept (hk _ (by omega) (by unfold gF; omega))).moved hvm, h2, (h3.kept hk).moved hvm, (h4.kept hk).moved hvm, h5.moved hvm, fun q hq => (h6 q hq).moved hvm⟩
theorem Wd.at {G : Gl} {μ : Mem} {s U : State} {H : Heap} {locs : List Loc} (hH : Hd G μ H) (hK : va_K (gD G) CL (gT G) s) (h : Xtra G s s.heap) (hS : va_S (gF G) s.heap H locs) (hb : gb G ≤ s.heap.size) (hU : U.heap = H) (hvm : s.vm.Alike U.vm) : Wd G μ U := by
  subst hU
  exact ⟨hH, hK.moved hvm, h.at hS hb hvm⟩
theorem base_le {K : Kx} {G : Gl} (h : ∃ μ0, Hq G μ0 (ks K).heap) : gb G ≤ (ks K).heap.size := by
  obtain ⟨μ0, h⟩ := h
  rw [h.1]
  omega
/-- into a method -/
theorem ct_of {l : Launch} {G : Gl} {i : Mi} {avs : List Av} {μ : Mem} {post : Option Value → Mem → Prop} {pe : Nat → Mem → Prop} (hl : l.stackTraces = false) (hy : plainName (iy i).cls = true) (hn : avs.length ≤ il i)
    (body : ∀ K : Kx, kl K = l → Cx K G (ib i) (iy i).cls (il i) (im i) → Cq K G (im i) (ir i) post pe → (kc K).exceptionTable.isEmpty = true → Rn K G (il i) 0 ((avs.zipIdx 0).map (fun q => (q.2, q.1))) [] μ 0 0) : Ct l G i avs μ post pe := by
  refine MetX.ofW (cc := ib i) (maxL := il i) (ret := ir i) hy rfl ?_
  intro p e s m args below meth c s₁ B hml hv
  obtain ⟨rfl, hH, hK, hX⟩ := hv
  have hts : ∀ w ∈ (Cond.code (iy i) (ib i) (il i) (ir i) :: LW), w.before (avl G avs).toArray s = true := atoms_spec B.pre
  have hent := lv_entry (avl G avs) (n := il i) (by rw [lg_len]; exact hn)
  rw [lg_entry_eq]
  rw [lv_args_eq] at hent
  exact body (p, l, e, im i, s, m, (avl G avs).toArray, below, meth, c, MQX below (Qe G post pe) (avl G avs).toArray s (im i).cells (im i).slots (gF G)) rfl
    ⟨B.exec, B.bytes, hml, findClass_of_methodNamed B.named, fun w hw => hts w (List.mem_cons_of_mem _ hw), hK, hX, rfl, B.notSynchronized, ⟨μ, hH.2⟩, hl⟩ ⟨B.returns, rfl⟩ (B.noHandlers (hts _ List.mem_cons_self)) s.heap [] _ hH va_S.rf hent
theorem ctw_of {l : Launch} {G : Gl} {i : Mi} {hh : List (Nat × Nat × Nat × Nat)} {avs : List Av} {μ : Mem} {post : Option Value → Mem → Prop} {pe : Nat → Mem → Prop} (hl : l.stackTraces = false) (hy : plainName (iy i).cls = true) (hn : avs.length ≤ il i)
    (body : ∀ K : Kx, kl K = l → Cx K G (ib i) (iy i).cls (il i) (im i) → Cq K G (im i) (ir i) post pe → (kc K).exceptionTable.toList.map (fun h => (h.startPc, h.endPc, h.handlerPc, h.catchType)) = hh → Rn K G (il i) 0 ((avs.zipIdx 0).map (fun q => (q.2, q.1))) [] μ 0 0) : CtW l G i hh avs μ post pe := by
  refine MetX.ofWW (cc := ib i) (maxL := il i) (ret := ir i) (hh := hh) hy rfl ?_
  intro p e s m args below meth c s₁ B hml hv
  obtain ⟨rfl, hH, hK, hX⟩ := hv
  have hts : ∀ w ∈ (Cond.codeWith (iy i) (ib i) (il i) (ir i) hh :: LW), w.before (avl G avs).toArray s = true := atoms_spec B.pre
  have hent := lv_entry (avl G avs) (n := il i) (by rw [lg_len]; exact hn)
  rw [lg_entry_eq]
  rw [lv_args_eq] at hent
  obtain ⟨m9, meth9, c9, hn9, h1, h2, -, -, h3, -⟩ := Cond.codeWith_spec (hts _ List.mem_cons_self)
  cases B.named.symm.trans hn9
  cases B.method.symm.trans h1
  cases (Stand.of_body B).code.symm.trans h2
  exact body (p, l, e, im i, s, m, (avl G avs).toArray, below, meth, c, MQX below (Qe G post pe) (avl G avs).toArray s (im i).cells (im i).slots (gF G)) rfl
    ⟨B.exec, B.bytes, hml, findClass_of_methodNamed B.named, fun w hw => hts w (List.mem_cons_of_mem _ hw), hK, hX, rfl, B.notSynchronized, ⟨μ, hH.2⟩, hl⟩ ⟨B.returns, rfl⟩ h3 s.heap [] _ hH va_S.rf hent
section CX
variable {K : Kx} {G : Gl} {cc : ByteArray} {own : String} {nL : Nat} {rm : Room} {rt : Option FieldType} {post : Option Value → Mem → Prop} {pe : Nat → Mem → Prop} {pc : Nat} {lv : List (Nat × Av)} {st : List Value} {μ : Mem} {a b : Nat}
theorem Cx.nc (C : Cx K G cc own nL rm) (i : Nat) {x y : String} (h : ncPairs[i]? = some (x, y)) : va_Nc x y (ks K) := C.e.2.2.2.2.2 (x, y) (List.mem_of_getElem? h)
/-- the end of a method -/
theorem q_ret (C : Cx K G cc own nL rm) {H : Heap} {locs : List Loc} (hH : Hd G μ H) (hS : va_S (gF G) (ks K).heap H locs) {v : Option Value} (hp : post v μ) : ∀ t : State, t.heap = H → (ks K).WarmedH t.vm → Qe G post pe (ka K) (ks K) (.returned v) t :=
  fun t ht hW => ⟨hS.F ht, Or.inl ⟨v, μ, rfl, hp, Wd.at hH C.k C.e hS (base_le C.d) ht hW.alike⟩⟩
theorem r_vret {po : Mem → Prop} (C : Cx K G cc own nL rm) (Q : Cq K G rm none (poV po) pe) (hd : decode cc pc = .ok (.return_, 1)) (h1 : a ≤ rm.cells) (h2 : b ≤ rm.slots) (hp : po μ) : Rn K G nL pc lv [] μ a b := by
  intro H locs ls hH hS hl
  have hlocks := C.l
  refine W.widen h1 h2 ?_
  rw [Q.2]
  exact wx_mono (fun t => mq_x) (W.vret C.x C.b Q.1 (q_ret C hH hS ⟨rfl, hp⟩) hS.2.2 hd hlocks)
theorem r_iret {po : Int32 → Mem → Prop} (C : Cx K G cc own nL rm) (Q : Cq K G rm (some .int) (poI po) pe) {v : Int32} (hd : decode cc pc = .ok (.ireturn, 1)) (h1 : a ≤ rm.cells) (h2 : b ≤ rm.slots) (hp : po v μ) : Rn K G nL pc lv [.int v] μ a b := by
  intro H locs ls hH hS hl
  have hlocks := C.l
  refine W.widen h1 h2 ?_
  rw [Q.2]
  exact wx_mono (fun t => mq_x) (W.iret C.x C.b Q.1 (q_ret C hH hS ⟨v, rfl, hp⟩) hS.2.2 hd hlocks)
theorem r_zret {po : Int32 → Mem → Prop} (C : Cx K G cc own nL rm) (Q : Cq K G rm (some .boolean) (poI po) pe) {v : Int32} (hz : zb v) (hd : decode cc pc = .ok (.ireturn, 1)) (h1 : a ≤ rm.cells) (h2 : b ≤ rm.slots) (hp : po v μ) : Rn K G nL pc lv [.int v] μ a b := by
  intro H locs ls hH hS hl
  have hlocks := C.l
  refine W.widen h1 h2 ?_
  rw [Q.2]
  exact wx_mono (fun t => mq_x) (W.zret C.x C.b Q.1 (by rcases hz with rfl | rfl <;> rfl) (q_ret C hH hS ⟨v, rfl, hp⟩) hS.2.2 hd hlocks)
theorem r_aret {cn : String} {po : Option Nat → Mem → Prop} (C : Cx K G cc own nL rm) (Q : Cq K G rm (some (.object cn)) (poQ G po) pe) {v : Option Nat} (hd : decode cc pc = .ok (.areturn, 1)) (h1 : a ≤ rm.cells) (h2 : b ≤ rm.slots) (hp : po v μ) : Rn K G nL pc lv [rv G v] μ a b := by
  intro H locs ls hH hS hl
  have hlocks := C.l
  refine W.widen h1 h2 ?_
  rw [Q.2]
  exact wx_mono (fun t => mq_x) (W.aret C.x C.b Q.1 (Or.inl ⟨_, rfl⟩) (by cases v with | none => exact Or.inl rfl | some y => exact Or.inr ⟨_, rfl⟩) (q_ret C hH hS ⟨v, rfl, hp⟩) hS.2.2 hd hlocks)
/-- behind a call -/
theorem s_over {H : Heap} {locs L : List Loc} {st0 t : State} (hS : va_S (gF G) (ks K).heap H locs) (h0 : st0.heap = H) (hF : va_F (gF G) st0 t) (hL : ∀ q ∈ L, gF G q.base) : va_S (gF G) (ks K).heap t.heap (locs ++ L) := by
  subst h0
  refine ⟨Nat.le_trans hS.1 hF.1, fun q h1 h2 => (hF.2 q (Nat.lt_of_lt_of_le h1 hS.1) h2).trans (hS.2.1 q h1 h2), fun q hq => ?_⟩
  rcases List.mem_append.mp hq with h | h
  · exact hS.2.2 q h
  · exact hL q h
theorem pc_in (C : Cx K G cc own nL rm) {H : Heap} {locs : List Loc} (hH : Hd G μ H) (hS : va_S (gF G) (ks K).heap H locs) {avs : List Av} {av : Array Value} (hav : av = (avl G avs).toArray) : ∀ U : State, U.heap = H → (ks K).WarmedH U.vm → va_Pc (avl G avs) (Wd G μ) av U :=
  fun _ hU hW => ⟨hav, Wd.at hH C.k C.e hS (base_le C.d) hU hW.alike⟩
theorem ws_in (C : Cx K G cc own nL rm) {w0 : Cond} (h0 : w0 ∈ LW) : ∀ w ∈ (w0 :: LW), ∀ (a' : Array Value) (U : State), (ks K).WarmedH U.vm → w.before a' U = true := by
  intro w hw a' U hU
  rcases List.mem_cons.mp hw with rfl | hw
  · exact lw_ok _ h0 hU (C.w _ h0)
  · exact lw_ok _ hw hU (C.w _ hw)
theorem st_room {g : JFrame} {st : List Value} (h0 : g.monitorRoom = 0) (h : (st.map fun v => v.category).sum ≤ 8) : 2 * g.monitorRoom + (st.map fun v => v.category).sum ≤ 8 := by
  omega
/-- the walk goes on behind a call that returns -/
theorem k_ret {po : Option Value → Mem → Prop} {pf : Nat → Mem → Prop} {H : Heap} {locs : List Loc} {ls : Array Slot} {mc ms : Nat} {avs : Array Value} (hS : va_S (gF G) (ks K).heap H locs) (hl : lv_has ls nL (lvr G lv))
    (kr : ∀ v μ1, po v μ1 → Rn K G nL (pc + 3) lv (v.toList ++ st) μ1 (a + mc) (b + ms)) :
    ∀ (v : Option Value) (st0 t : State) (L : List Loc), st0.heap = H → (ks K).WarmedH t.vm → Qe G po pf avs st0 (.returned v) t → (∀ q ∈ L, gF G q.base) →
      W (kp K) (kl K) (ke K) (kR K) (ks K) (km K) (ka K) (kw K) (kh K) (kc K) t.heap (locs ++ L) (a + mc) (b + ms) (kq K) (F0 (km K) (pc + 3) ls (v.toList ++ st)) := by
  intro v st0 t L h0 hW hq hL
  obtain ⟨hF, ⟨v', μ1, h1, h2, h3⟩ | ⟨q, x, μ1, h1, -⟩⟩ := hq
  · cases h1
    exact kr v μ1 h2 t.heap _ ls h3.1 (s_over hS h0 hF hL) hl
  · cases h1
theorem r_cV (C : Cx K G cc own nL rm) {i : Mi} {Cn : String} {T : u_T} {N ci rr idx : Nat} {As : List Av} {po : Option Value → Mem → Prop} {stk : List Value} (hM : Ct (kl K) G i (.inr (.inl (some rr)) :: As) μ po noX) (hi : MiV i Cn) (hc : CL[ci]? = some (Cn, T, N)) (hr : LayG G μ → okO μ rr ci)
    (hlk : (Cond.methodLink own idx (iy i)).before (ka K) (ks K) = true) (hn : As.length = ia i) (hrm : (im i).frames + 1 ≤ rm.frames ∧ 8 + (il i + 11) + (im i).locals ≤ rm.locals ∧ a + (im i).cells ≤ rm.cells ∧ b + (im i).slots ≤ rm.slots)
    (hw : (st.map fun v => v.category).sum ≤ 8) (hd : decode cc pc = .ok (.invokevirtual idx, 3)) (hstk : stk = (avl G As).reverse ++ rv G (some rr) :: st) (kr : ∀ v μ1, po v μ1 → Rn K G nL (pc + 3) lv (v.toList ++ st) μ1 (a + (im i).cells) (b + (im i).slots)) : Rn K G nL pc lv stk μ a b := by
  intro H locs ls hH hS hl
  have h1 := hr hH.1
  have h9 := cl_lt hc
  obtain ⟨q, h2, cell, q1, q2, q3, -⟩ := hH.P h1.1 (rend_o (G := G) h1.2 (by omega)) 0 _ rfl
  have hcls : (ks K).vm.findClass Cn = some cell.cls := by rw [q2]; exact (C.k.1 ci _ hc).2.1
  obtain ⟨⟨i1, i2, i3⟩, i4, i5, i6⟩ := hi
  have hR := C.r
  refine overX (g := F0 (km K) pc ls stk) (rest := st) (avs := (avl G (.inr (.inl (some rr)) :: As)).toArray) C.b hM rfl rfl (by rw [hR]; exact hrm.1) (by rw [hR]; exact hrm.2.1) rfl (hl.1.trans C.n.symm) hd (st_room rfl hw) (ws_in C i4) (fun a' U hU => lw_ok _ i1 hU (C.w _ i1)) ?_ (by rw [hR]; exact hrm.2.2.1) (by rw [hR]; exact hrm.2.2.2) (pc_in C hH hS rfl) (k_ret hS hl kr) ?_
  · intro T0 hT0 X
    exact landV X C.x C.o hlk (C.w _ i5) (C.w _ i6) (C.w _ i4) i2 (by rw [hT0]; exact q1) (by rw [q3]; rfl) hcls rfl (argsL := avl G As) (by rw [i3, ← hn]; simp [avl]) hstk (by rw [C.b]; exact hd)
  · intro x st0 t L _ _ hq _
    obtain ⟨-, ⟨v, μ1, h3, -⟩ | ⟨q, x, μ1, -, h3, -⟩⟩ := hq
    · cases h3
    · exact h3.elim
theorem r_cS (C : Cx K G cc own nL rm) {i : Mi} {idx : Nat} {As : List Av} {po : Option Value → Mem → Prop} {stk : List Value} (hM : Ct (kl K) G i As μ po noX) (hi : MiS i)
    (hlk : (Cond.methodLink own idx (iy i)).before (ka K) (ks K) = true) (hn : As.length = ia i) (hrm : (im i).frames + 1 ≤ rm.frames ∧ 8 + (il i + 11) + (im i).locals ≤ rm.locals ∧ a + (im i).cells ≤ rm.cells ∧ b + (im i).slots ≤ rm.slots)
    (hw : (st.map fun v => v.category).sum ≤ 8) (hd : decode cc pc = .ok (.invokestatic idx, 3)) (hstk : stk = (avl G As).reverse ++ st) (kr : ∀ v μ1, po v μ1 → Rn K G nL (pc + 3) lv (v.toList ++ st) μ1 (a + (im i).cells) (b + (im i).slots)) : Rn K G nL pc lv stk μ a b := by
  intro H locs ls hH hS hl
  obtain ⟨⟨i1, i2, i3⟩, i4, i5⟩ := hi
  have hR := C.r
  refine overX (g := F0 (km K) pc ls stk) (rest := st) (avs := (avl G As).toArray) C.b hM rfl rfl (by rw [hR]; exact hrm.1) (by rw [hR]; exact hrm.2.1) rfl (hl.1.trans C.n.symm) hd (st_room rfl hw) (ws_in C i4) (fun a' U hU => lw_ok _ i1 hU (C.w _ i1)) ?_ (by rw [hR]; exact hrm.2.2.1) (by rw [hR]; exact hrm.2.2.2) (pc_in C hH hS rfl) (k_ret hS hl kr) ?_
  · intro T0 hT0 X
    obtain ⟨mk, hnamed⟩ := Cond.code_named (C.w _ i4)
    obtain ⟨methM, cM, hmethM, hcM, -, hlM, -, -, -, hsigM⟩ := Cond.code_spec hnamed (C.w _ i4)
    exact landS X C.x C.o hlk (C.w _ i5) (C.w _ i1) hnamed hmethM hcM hlM hsigM i2 rfl (argsL := avl G As) (by rw [i3, ← hn]; simp [avl]) hstk (by rw [C.b]; exact hd)
  · intro x st0 t L _ _ hq _
    obtain ⟨-, ⟨v, μ1, h3, -⟩ | ⟨q, x, μ1, -, h3, -⟩⟩ := hq
    · cases h3
    · exact h3.elim
theorem r_cW (C : Cx K G cc own nL rm) {i : Mi} {hh : List (Nat × Nat × Nat × Nat)} {idx : Nat} {As : List Av} {po : Option Value → Mem → Prop} {stk : List Value} (hM : CtW (kl K) G i hh As μ po noX) (hi : MiW i hh)
    (hlk : (Cond.methodLink own idx (iy i)).before (ka K) (ks K) = true) (hn : As.length = ia i) (hrm : (im i).frames + 1 ≤ rm.frames ∧ 8 + (il i + 11) + (im i).locals ≤ rm.locals ∧ a + (im i).cells ≤ rm.cells ∧ b + (im i).slots ≤ rm.slots)
    (hw : (st.map fun v => v.category).sum ≤ 8) (hd : decode cc pc = .ok (.invokestatic idx, 3)) (hstk : stk = (avl G As).reverse ++ st) (kr : ∀ v μ1, po v μ1 → Rn K G nL (pc + 3) lv (v.toList ++ st) μ1 (a + (im i).cells) (b + (im i).slots)) : Rn K G nL pc lv stk μ a b := by
  intro H locs ls hH hS hl
  obtain ⟨⟨i1, i2, i3⟩, i4, i5⟩ := hi
  have hR := C.r
  refine overX (g := F0 (km K) pc ls stk) (rest := st) (avs := (avl G As).toArray) C.b hM rfl rfl (by rw [hR]; exact hrm.1) (by rw [hR]; exact hrm.2.1) rfl (hl.1.trans C.n.symm) hd (st_room rfl hw) (ws_in C i4) (fun a' U hU => lw_ok _ i1 hU (C.w _ i1)) ?_ (by rw [hR]; exact hrm.2.2.1) (by rw [hR]; exact hrm.2.2.2) (pc_in C hH hS rfl) (k_ret hS hl kr) ?_
  · intro T0 hT0 X
    obtain ⟨mk, methM, cM, hnamed, hmethM, hcM, -, hlM, -, -, -, hsigM⟩ := Cond.codeWith_spec (C.w _ i4)
    exact landS X C.x C.o hlk (C.w _ i5) (C.w _ i1) hnamed hmethM hcM hlM hsigM i2 rfl (argsL := avl G As) (by rw [i3, ← hn]; simp [avl]) hstk (by rw [C.b]; exact hd)
  · intro x st0 t L _ _ hq _
    obtain ⟨-, ⟨v, μ1, h3, -⟩ | ⟨q, x, μ1, -, h3, -⟩⟩ := hq
    · cases h3
    · exact h3.elim
/-- Math.min -/
theorem r_min (C : Cx K G cc own nL rm) {x y : Int32} {idx : Nat} (hlk : (Cond.methodLink own idx Lib.Math.min.name).before (ka K) (ks K) = true) (hs : (Cond.static Lib.Math.min.name).before (ka K) (ks K) = true) (hi : (Cond.initialized "java/lang/Math").before (ka K) (ks K) = true) (hco : (Cond.code Lib.Math.min.name Lib.Math.min.code 2 (some .int)).before (ka K) (ks K) = true)
    (hrm : 1 ≤ rm.frames ∧ (st.map fun v => v.category).sum + 13 ≤ rm.locals ∧ a ≤ rm.cells ∧ b ≤ rm.slots) (hd : decode cc pc = .ok (.invokestatic idx, 3)) (k : Rn K G nL (pc + 3) lv (.int (jmin x y) :: st) μ a b) : Rn K G nL pc lv (.int y :: .int x :: st) μ a b := by
  intro H locs ls hH hS hl
  have hR := C.r
  exact va_mmin C.x C.b (C.n.trans hl.1.symm) C.o hlk hs hi hco (by rw [hR]; exact hrm.1) (by rw [hR]; exact hrm.2.1) (by rw [hR]; exact hrm.2.2.1) (by rw [hR]; exact hrm.2.2.2) hd (k H locs ls hH hS hl)
end CX
end
section
/-! Throwing and catching -/
theorem at_vm {D : va_G} {cl : List vw_C} {q : Nat × va_E} {H : Heap} {cell : Cell} (h : va_at D cl q H) (hc : H[q.1]? = some cell) : cell.vm = .none := by
  obtain ⟨x, e⟩ := q
  cases e with
  | inl y =>
    obtain ⟨cA, n, f⟩ := y
    have h' : H[x]? = some (vp_cell cA (n, f)) := h
    cases Option.some.inj (hc.symm.trans h')
    rcases f with f | f | f | f | f <;> rfl
  | inr o =>
    obtain ⟨r, -, c2, h2, -, h3, -⟩ := h
    cases Option.some.inj (hc.symm.trans h2)
    exact h3
theorem rend_bump {G : Gl} {μ : Mem} {k r : Nat} (h : r < mN μ) : rend G (bump μ k) r = rend G μ r := by
  have hk : mK (bump μ k) r = mK μ r := by rw [mK_bump, if_neg (by omega)]
  unfold rend
  rw [hk]
  rfl
theorem Hd.bump {G : Gl} {μ : Mem} {H H1 : Heap} {k : Nat} {X : String} (h : Hd G μ H) (hk : CL[k]? = some (X, fT_0, 0)) (hz : H1.size = H.size + 1) (ho : ∀ q, q < H.size → H1[q]? = H[q]?) {ce : Cell} (he : H1[H.size]? = some ce) (hc : ce.cls = (gD G).1 k) (hv : ce.vm = .none) : Hd G (bump μ k) H1 := by
  refine ⟨h.1.bump k, by rw [hz, h.2.1, mN_bump]; omega, fun r hr => ?_⟩
  rw [mN_bump] at hr
  by_cases e : r < mN μ
  · rw [rend_bump e]
    exact (h.2.2 r e).kept (ho _ (by rw [h.2.1]; omega))
  · have er : r = mN μ := by omega
    subst er
    have h9 := cl_lt hk
    rw [rend_o (ci := k) (by rw [mK_bump, if_pos rfl]) (by omega)]
    exact ⟨_, hk, ce, by rw [← h.2.1]; exact he, hc, hv, fun j hj => absurd hj (Nat.not_lt_zero j)⟩
section TX
variable {p : Program} {l : Launch} {e : Env} {R : Room} {s : State} {m₀ : MethodId} {args : Array Value} {below : List Frame} {meth : Method} {c : Code} {W0 : State} {locs : List Loc} {cells slots : Nat}
set_option maxHeartbeats 1000000 in
/-- 'throw new X()', from the call of X's constructor on: the heap afterwards is the heap before but for the exception's own cell -/
theorem x_throw0 (X : Stand p l e R s m₀ args below meth c W0 locs cells slots) (hexec : p.tables.exec = Jvm.exec) (htr : e.platform.stackTraces = false) {own cls : String} {names : List String} {ic : Nat}
    (hown : s.vm.findClass own = some m₀.cls) (hcls : Bundle.fit cls = true) (hnames : ∀ n ∈ names, Bundle.fit n = true)
    (h : ∀ a ∈ Bundle.ownAtoms0 own ic cls names, a.before args s = true)
    (hlocs : ∀ x ∈ locs, ∀ cell, s.heap[x.base]? = some cell → cell.vm.isStatics = false)
    {a : Addr} {cX : ClassId} {kX : Class} (hfoundX : s.vm.findClass cls = some cX) (hkX : s.vm.classes[cX]? = some kX) (hcell : W0.heap[a]? = some (freshCell cX kX)) (hnew : s.heap.size ≤ a)
    {g : JFrame} (hg : g.method = m₀) (hsize : g.locals.size = c.maxLocals) (hlocked : g.locked = none) (hentered : g.entered = []) {rest : List Value} (hstack : g.stack = .ref a :: .ref a :: rest)
    (hd6 : decode c.code g.pc = .ok (.invokespecial ic, 3)) (hd9 : decode c.code (g.pc + 3) = .ok (.athrow, 1)) (hout : ∀ x ∈ c.exceptionTable.toList, covers x (g.pc + 3) = false)
    (hRframes : names.length + 3 < R.frames) (hRlocals : 2 * g.monitorRoom + ((Value.ref a :: rest).map fun v => v.category).sum + (13 * (names.length + 1) + 41) ≤ R.locals) (hlocks : meth.locks = false) :
    ∃ U : State, Steps p.tables e below (W0.setTop g) U ∧ U.status = .running ∧ Ended U below (.threw a) ∧ s.WarmedH U.vm ∧ s.sameButNew ({ U with vm := s.vm } : State) locs cells slots ∧
      ∃ ce : Cell, U.heap[a]? = some ce ∧ ce.cls = cX ∧ ce.vm = .none ∧ U.heap.size = W0.heap.size ∧ ∀ q, q ≠ a → U.heap[q]? = W0.heap[q]? := by
  have howns : e.platform.frameOwnsMonitors = true := by rw [X.admits.platform]
  have hfin : e.platform.finalization = false := by rw [X.admits.platform]
  have hpl : e.platform.magicAccessors = ({} : Platform).magicAccessors := by rw [X.admits.platform]
  have a' : ∀ x, x ∈ Bundle.ownAtoms0 own ic cls names → x.holds args s none s [] = true := fun x hx => h x hx
  obtain ⟨T, Z, L, LZ, Y⟩ := ThrowableC.of_atoms (args := args) howns hfin hpl (fun x hx => h x (by simp [Bundle.ownAtoms0, hx]))
  obtain ⟨P1, Ps, hlen, L1, hL, hP1m, hlink1, hlink⟩ := Bundle.chain0 (args := args) hpl Y.init0 names cls hcls hnames (fun x hx => h x (by simp [Bundle.ownAtoms0, hx]))
  have hfound : s.vm.findClass cls = some P1.m.cls := findClass_of_methodNamed hP1m
  cases Option.some.inj (hfoundX.symm.trans hfound)
  obtain ⟨c1, kX', hc1, hk, hord, -, -, hn6⟩ := Cond.instantiable_spec (a' (.instantiable cls 6) (by simp [Bundle.ownAtoms0]))
  cases Option.some.inj (hc1.symm.trans hfound)
  cases Option.some.inj (hkX.symm.trans hk)
  have hsel0 : selectMethod e.platform s.vm P1.m.cls T.fill0 = .method T.fill0 := by
    obtain ⟨c2, r2, m2, q1, q2, q3, q4, -⟩ := Cond.selects_spec (a' (.selects cls Bundle.tFill0 Bundle.tFill0) (by simp [Bundle.ownAtoms0]))
    cases Option.some.inj (q1.symm.trans hfound)
    cases Option.some.inj (q2.symm.trans (State.methodFound?_of_named Y.fill0 (by decide)))
    cases Option.some.inj (q3.symm.trans Y.fill0)
    rw [Launch.admits_selectMethod X.admits]; exact q4
  have hselF : selectMethod e.platform s.vm P1.m.cls T.fill = .method T.fill := by
    obtain ⟨c2, r2, m2, q1, q2, q3, q4, -⟩ := Cond.selects_spec (a' (.selects cls Bundle.tFill Bundle.tFill) (by simp [Bundle.ownAtoms0]))
    cases Option.some.inj (q1.symm.trans hfound)
    cases Option.some.inj (q2.symm.trans (State.methodFound?_of_named Y.fill (by decide)))
    cases Option.some.inj (q3.symm.trans Y.fill)
    rw [Launch.admits_selectMethod X.admits]; exact q4
  obtain ⟨cellS0, hcS0, hiss⟩ := Y.statics
  obtain ⟨u0, hu0⟩ := Cond.staticRefV Y.unassigned L.unassignedStatic L.statics hcS0 hiss (a' (.isRef (.static Bundle.tN "UNASSIGNED_STACK" Bundle.steD)) (by simp [Bundle.ownAtoms0]))
  obtain ⟨sen, hsen⟩ := Cond.staticRefV Y.sentinel L.sentinelStatic L.statics hcS0 hiss (a' (.isRef (.static Bundle.tN "SUPPRESSED_SENTINEL" Bundle.listD)) (by simp [Bundle.ownAtoms0]))
  obtain ⟨ci198, i198, fB, hk198, hg198, ha198, hsB, -, hnB, htB, hffB⟩ := Cond.ownField (t := .object "java/lang/Object") Y.found L.cls (by decide +kernel) (a' (.fieldLink Bundle.tN 198 Bundle.tN "backtrace" "Ljava/lang/Object;") (by simp [Bundle.ownAtoms0])) (a' (.lays Bundle.tN Bundle.tN "backtrace" "Ljava/lang/Object;") (by simp [Bundle.ownAtoms0])) e.platform hpl
  obtain ⟨cellS, hcS', heS, -, hkeep⟩ := X.same.2.2.2.2.2 T.aS cellS0 hcS0
  have hcellS : W0.heap[T.aS]? = some cellS := hcS'
  have hout' : ∀ i, (⟨T.aS, i⟩ : Loc) ∉ locs := fun i hmem => by
    have := hlocs _ hmem cellS0 hcS0
    rw [hiss] at this; cases this
  have hknownS : cellS.vm ≠ .unknown := by
    rw [heS]; intro hu
    rw [show cellS0.vm = .unknown from hu] at hiss
    cases hiss
  have hneS : T.aS ≠ a := Nat.ne_of_lt (Nat.lt_of_lt_of_le (Array.getElem?_eq_some_iff.mp hcS0).1 hnew)
  obtain ⟨tyC, dC, hdC, hdnC⟩ := Cond.laysAt hfound hk Y.cause (a' (.lays cls Bundle.tN "cause" "Ljava/lang/Throwable;") (by simp [Bundle.ownAtoms0]))
  obtain ⟨tyS, dS, hdS, hdnS⟩ := Cond.laysAt hfound hk Y.stack (a' (.lays cls Bundle.tN "stackTrace" Bundle.steD) (by simp [Bundle.ownAtoms0]))
  obtain ⟨tyP, dP, hdP, hdnP⟩ := Cond.laysAt hfound hk Y.supp (a' (.lays cls Bundle.tN "suppressedExceptions" Bundle.listD) (by simp [Bundle.ownAtoms0]))
  obtain ⟨tyB, dB, hdB, hdnB⟩ := Cond.laysAt hfound hk hffB (a' (.lays cls Bundle.tN "backtrace" "Ljava/lang/Object;") (by simp [Bundle.ownAtoms0]))
  have bC := Cond.laysApart hdB hdC hdnB hdnC (by rw [hnB, Y.causeName]; decide)
  have bS := Cond.laysApart hdB hdS hdnB hdnS (by rw [hnB, Y.stackName]; decide)
  have bP := Cond.laysApart hdB hdP hdnB hdnP (by rw [hnB, Y.suppName]; decide)
  have hskip : SkipFacts T e.platform s (fun u => u) u0 ((preparedCellV T.toThrowableT (freshCell P1.m.cls kX) a u0 sen).withEntry W0.cur) :=
    ⟨{ ci198 := ci198, i198 := i198, fBack := fB }, ⟨hk198, hg198, ha198, hsB⟩, by
      have := fresh_default (c := P1.m.cls) tyB
      rw [htB] at this
      simpa [preparedCellV, Cell.setSlot, Cell.withEntry, Array.getElem?_setIfInBounds, bC, bS, bP, bC.symm, bS.symm, bP.symm, defaultValue] using this, fun _ _ => rfl⟩
  obtain ⟨tm, methC, cdC, kC, vm₁, hnC, -, -, -, -, -, -, -, hW₁, st1⟩ := Steps.initCold (tb := p.tables) (e := e) (below := below) (s := s) (U := W0) X.here hexec X.warmed hpl hown (t := Bundle.init0 cls) rfl rfl (Bundle.fit_spec hcls).2
    (a' (.methodLink own ic (Bundle.init0 cls)) (by simp [Bundle.ownAtoms0])) (h (.instanceMethod (Bundle.init0 cls)) (by cases names <;> simp [Bundle.ownAtoms0, Bundle.chain0Atoms, Bundle.passAtoms])) (bytes := Bundle.five) (maxL := 1) (h (.code (Bundle.init0 cls) Bundle.five 1 none) (by cases names <;> simp [Bundle.ownAtoms0, Bundle.chain0Atoms, Bundle.passAtoms]))
    (f := g) hg (a := a) (rest := .ref a :: rest) hstack hd6
  cases Option.some.inj (hnC.symm.trans hP1m)
  have X₁ := X.noted hW₁
  obtain ⟨vm₂, X₂, st2⟩ := X₁.ctorPlainOffV hexec (g := { g with stack := .ref a :: rest }) hg hsize T L Z LZ (P1 :: Ps)
    (fun P hP => by rcases List.mem_cons.mp hP with rfl | hP; exact L1; exact hL P hP) ⟨hlink1, hlink⟩ (u0 := u0) (sen := sen) (self := a) (cell := freshCell P1.m.cls kX) (cellS := cellS)
    hcell (fun _ => by simp) (by simp) rfl rfl hsel0 hselF hcellS hneS hknownS (by rw [hkeep _ (hout' _)]; exact hu0) (by rw [hkeep _ (hout' _)]; exact hsen)
    (Takes.of_laid hk hord tyC (by rw [Y.causeType]; rfl)) (Takes.of_laid hk hord tyS (by rw [Y.stackType]; exact fits_refV_array _ u0)) (Takes.of_laid hk hord tyP (by rw [Y.suppType]; exact fits_refV_object _ sen)) Y.objLocals hskip htr [] hd6
    (by simp only [List.length_cons, hlen]; omega) (by simp only [List.length_cons, hlen]; exact hRlocals)
  obtain ⟨hwalk, hrun, hended, hWU, hsame⟩ := X₂.athrowLeaves hexec (g := { g with stack := .ref a :: rest, pc := g.pc + 3 }) hg hlocked hentered hout (a := a) (rest := rest) rfl hd9 hlocks
  have hlt : a < ((W0.setVm vm₁).setVm vm₂).heap.size := (Array.getElem?_eq_some_iff.mp hcell).1
  have hU := heapAt_setCell_self (s := (W0.setVm vm₁).setVm vm₂) ((preparedCellV T.toThrowableT (freshCell P1.m.cls kX) a u0 sen).setSlot T.fStack.slot u0.v) hlt
  refine ⟨_, st1 _ (fun acts => ?_), hrun, hended, hWU, hsame.weaken (fun y hy hlt' => ?_) (Nat.le_refl _) (Nat.le_refl _), _, hU, rfl, rfl, ?_, fun q hq => ?_⟩
  · rw [doInvoke_state]
    exact st2 _ hwalk
  · rcases List.mem_append.mp hy with h1 | h1
    · exact h1
    · exfalso
      have hb : y.base = a := by
        simp only [List.mem_cons, List.not_mem_nil, or_false] at h1
        rcases h1 with rfl | rfl | rfl | rfl <;> rfl
      rw [hb] at hlt'
      exact Nat.not_lt.mpr hnew hlt'
  · exact size_setCell ((W0.setVm vm₁).setVm vm₂) a _
  · exact heapAt_setCell_ne (s := (W0.setVm vm₁).setVm vm₂) _ (Ne.symm hq)
end TX
section TY
variable {K : Kx} {G : Gl} {cc : ByteArray} {own : String} {nL : Nat} {rm : Room} {rt : Option FieldType} {post : Option Value → Mem → Prop} {pe : Nat → Mem → Prop} {pc : Nat} {lv : List (Nat × Av)} {st : List Value} {μ : Mem} {a b : Nat}
def exNames : List String := ["java/lang/RuntimeException", "java/lang/Exception"]
def exOk (own : String) (ic : Nat) (X : String) : Prop := ∀ w ∈ Bundle.ownAtoms0 own ic X exNames, w ∈ LW ∨ w = .isRef (.static Bundle.tN "UNASSIGNED_STACK" Bundle.steD) ∨ w = .isRef (.static Bundle.tN "SUPPRESSED_SENTINEL" Bundle.listD) ∨ w = .laysStatic Bundle.tN "UNASSIGNED_STACK" Bundle.steD ∨ w = .laysStatic Bundle.tN "SUPPRESSED_SENTINEL" Bundle.listD
theorem locs_ok (C : Cx K G cc own nL rm) {H : Heap} {locs : List Loc} (hS : va_S (gF G) (ks K).heap H locs) : ∀ x ∈ locs, ∀ cell, (ks K).heap[x.base]? = some cell → cell.vm.isStatics = false := by
  intro x hx cell hc
  obtain ⟨μ0, h0⟩ := C.d
  have h1 : gb G ≤ x.base := hS.2.2 x hx
  have h2 : x.base < (ks K).heap.size := (Array.getElem?_eq_some_iff.mp hc).1
  have h3 := h0.1
  rw [h3] at h2
  have h4 := h0.2 (x.base - gb G) (Nat.sub_lt_left_of_lt_add h1 h2)
  have h5 : gb G + (x.base - gb G) = x.base := Nat.add_sub_cancel' h1
  rw [h5] at h4
  rw [at_vm h4 hc]
  rfl
theorem r_throw (C : Cx K G cc own nL rm) (Q : Cq K G rm rt post pe) (hE : (kc K).exceptionTable.isEmpty = true) {X : String} {i0 ic q : Nat} (hq : CL[q]? = some (X, fT_0, 0)) (hfit : Bundle.fit X = true) (hcl : (Cond.classLink own i0 X).before (ka K) (ks K) = true) (hins : Cond.instantiable X 6 ∈ LW) (hini : Cond.initialized X ∈ LW) (hat : exOk own ic X)
    (d0 : decode cc pc = .ok (.new i0, 3)) (d1 : decode cc (pc + 3) = .ok (.dup, 1)) (d2 : decode cc (pc + 4) = .ok (.invokespecial ic, 3)) (d3 : decode cc (pc + 7) = .ok (.athrow, 1))
    (hrm : 5 < rm.frames ∧ 81 ≤ rm.locals ∧ a + 1 ≤ rm.cells ∧ b + 6 ≤ rm.slots) (hp : pe q (bump μ q)) : Rn K G nL pc lv [] μ a b := by
  intro H locs ls hH hS hl
  have hR := C.r
  obtain ⟨hfc, kC0, hkC0, hkind⟩ := (C.k.1 q _ hq).2
  refine W.newcK C.x C.b C.o hcl (C.w _ hins) (C.w _ hini) rfl d0 (by rw [hR]; exact hrm.2.2.1) (by rw [hR]; exact hrm.2.2.2) hfc rfl fun H1 kC hkC e1 z1 o1 => ?_
  refine lv_dup (pc := pc + 3) C.x C.b d1 rfl ?_
  intro T0 hT0 XS
  have hadm : (ke K).platform.stackTraces = false := by
    have h1 := XS.admits.2.2.2.2.1
    rw [h1]
    exact C.s
  have hsz : (ks K).heap.size ≤ H.size := hS.1
  obtain ⟨U, hst, hrun, hend, hW, hsame, ce, u1, u2, u3, u4, u5⟩ := x_throw0 XS C.x hadm C.o hfit (names := exNames) (by decide) (fun w hw => by
      rcases hat w hw with h | rfl | rfl | rfl | rfl
      · exact C.w _ h
      · exact C.e.2.2.1.isRef
      · exact C.e.2.2.2.1.isRef
      · exact C.e.2.2.1.lays
      · exact C.e.2.2.2.1.lays) (locs_ok C hS) hfc hkC (a := H.size) (by rw [hT0]; exact e1) hsz (g := F0 (km K) (pc + 3 + 1) ls [.ref H.size, .ref H.size]) rfl (hl.1.trans C.n.symm) rfl rfl (rest := []) rfl
    (by rw [C.b]; exact d2) (by rw [C.b]; exact d3) (fun x hx => by
      have h1 : (kc K).exceptionTable = #[] := by simpa using hE
      rw [h1] at hx
      cases hx) (by rw [hR]; exact hrm.1) (by rw [hR]; exact hrm.2.1) C.l
  refine ⟨U, hst, ?_⟩
  have hUo : ∀ x : Nat, x < H.size → U.heap[x]? = H[x]? := fun x hx => by rw [u5 x (Nat.ne_of_lt hx), hT0]; exact o1 x hx
  have hHU : Hd G (bump μ q) U.heap := hH.bump hq (by rw [u4, hT0]; exact z1) hUo u1 u2 u3
  have hSU : va_S (gF G) (ks K).heap U.heap locs := ⟨by rw [u4, hT0, z1]; omega, fun x h1 h2 => (hUo x (Nat.lt_of_lt_of_le h1 hsz)).trans (hS.2.1 x h1 h2), hS.2.2⟩
  rw [Q.2]
  exact ⟨.threw H.size, hrun, hend, ⟨hSU.F rfl, Or.inr ⟨q, H.size, bump μ q, rfl, hp, Wd.at hHU C.k C.e hSU (base_le C.d) rfl hW.alike, mN μ, hH.2.1, by rw [mN_bump]; omega, by rw [mK_bump, if_pos rfl]⟩⟩, hW, locs, hsame.mono hrm.2.2.1 hrm.2.2.2, hS.2.2⟩
/-- an exception of a callee goes through a method without handlers -/
theorem r_cVt (C : Cx K G cc own nL rm) (Q : Cq K G rm rt post pe) (hE : (kc K).exceptionTable.isEmpty = true) {i : Mi} {Cn : String} {T : u_T} {N ci rr idx : Nat} {As : List Av} {po : Option Value → Mem → Prop} {stk : List Value} (hM : Ct (kl K) G i (.inr (.inl (some rr)) :: As) μ po pe) (hi : MiV i Cn) (hc : CL[ci]? = some (Cn, T, N)) (hr : LayG G μ → okO μ rr ci)
    (hlk : (Cond.methodLink own idx (iy i)).before (ka K) (ks K) = true) (hn : As.length = ia i) (hrm : (im i).frames + 1 ≤ rm.frames ∧ 8 + (il i + 11) + (im i).locals ≤ rm.locals ∧ a + (im i).cells ≤ rm.cells ∧ b + (im i).slots ≤ rm.slots)
    (hw : (st.map fun v => v.category).sum ≤ 8) (hd : decode cc pc = .ok (.invokevirtual idx, 3)) (hstk : stk = (avl G As).reverse ++ rv G (some rr) :: st) (kr : ∀ v μ1, po v μ1 → Rn K G nL (pc + 3) lv (v.toList ++ st) μ1 (a + (im i).cells) (b + (im i).slots)) : Rn K G nL pc lv stk μ a b := by
  intro H locs ls hH hS hl
  have h1 := hr hH.1
  have h9 := cl_lt hc
  obtain ⟨q, h2, cell, q1, q2, q3, -⟩ := hH.P h1.1 (rend_o (G := G) h1.2 (by omega)) 0 _ rfl
  have hcls : (ks K).vm.findClass Cn = some cell.cls := by rw [q2]; exact (C.k.1 ci _ hc).2.1
  obtain ⟨⟨i1, i2, i3⟩, i4, i5, i6⟩ := hi
  have hR := C.r
  refine overX (g := F0 (km K) pc ls stk) (rest := st) (avs := (avl G (.inr (.inl (some rr)) :: As)).toArray) C.b hM rfl rfl (by rw [hR]; exact hrm.1) (by rw [hR]; exact hrm.2.1) rfl (hl.1.trans C.n.symm) hd (st_room rfl hw) (ws_in C i4) (fun a' U hU => lw_ok _ i1 hU (C.w _ i1)) ?_ (by rw [hR]; exact hrm.2.2.1) (by rw [hR]; exact hrm.2.2.2) (pc_in C hH hS rfl) (k_ret hS hl kr) ?_
  · intro T0 hT0 X
    exact landV X C.x C.o hlk (C.w _ i5) (C.w _ i6) (C.w _ i4) i2 (by rw [hT0]; exact q1) (by rw [q3]; rfl) hcls rfl (argsL := avl G As) (by rw [i3, ← hn]; simp [avl]) hstk (by rw [C.b]; exact hd)
  · intro x st0 t L h0 hWt hq hL T1 hT1 X1
    obtain ⟨hF, ⟨v, μ1, h3, -⟩ | ⟨q, x', μ1, h3, h4, h5, h6⟩⟩ := hq
    · cases h3
    · cases h3
      have hSU := s_over hS h0 hF hL
      obtain ⟨hwalk, hrun, hend, hW, hsame⟩ := X1.leaveThrown x (g := F0 (km K) pc ls st) rfl rfl rfl (fun y hy => by
        have h1 : (kc K).exceptionTable = #[] := by simpa using hE
        rw [h1] at hy
        cases hy) C.l
      refine ⟨_, hwalk, ?_⟩
      rw [Q.2]
      have hTt : (T1.setFrames (.throwing x :: kw K)).heap = t.heap := hT1
      refine ⟨.threw x, hrun, hend, ⟨hSU.F hTt, Or.inr ⟨q, x, μ1, rfl, h4, ?_, h6⟩⟩, hW, _, hsame.mono (by exact hrm.2.2.1) (by exact hrm.2.2.2), hSU.2.2⟩
      exact Wd.at h5.1 C.k C.e hSU (base_le C.d) hTt hW.alike
end TY
end
section
/-! An exception that a callee throws is caught in the method that called: the catch's classes may still have to be linked -/
section TZ
variable {e : Env} {s : State} {f : JFrame} {a : Addr}
theorem go_hit {Q : Handler → Pre} {E : CtlPost} {d : Bool} {acts : List Action} {x : ExceptionTableEntry} {t : List ExceptionTableEntry} {c : ClassId} {cell : Cell} (hx : covers x f.pc = true) (h0 : x.catchType ≠ 0)
    (hl : s.vm.ClassLinks e.platform f.method.cls x.catchType c) (hcell : s.heap[a]? = some cell) (hobj : ∀ k, cell.vm ≠ .statics k)
    (hk : ∃ k, s.vm.classes[cell.cls]? = some k) (hc : ∃ k, s.vm.classes[c]? = some k) (hfit : s.vm.assignable cell.cls c = true) :
    wp (findHandler.go f a (x :: t)) Q E e d acts s ↔ Q (.found x.handlerPc) d acts (s.setVm (s.vm.noted f.method.cls x.catchType (.cls c))) := by
  simp only [covers] at hx
  obtain ⟨ha, ht⟩ := (resolveClass_links e.toSetting hl).op (op := VmOp.resolveClass f.method.cls x.catchType) rfl
  have hal : s.vm.Alike (s.vm.noted f.method.cls x.catchType (.cls c)) := (Vm.Alike.refl s.vm).noted _ _ _
  obtain ⟨k1, hk1⟩ := hk
  obtain ⟨k2, hk2⟩ := hc
  obtain ⟨k1', hk1', -⟩ := hal.2.2 _ _ hk1
  obtain ⟨k2', hk2', -⟩ := hal.2.2 _ _ hk2
  have hfit' : (s.vm.noted f.method.cls x.catchType (.cls c)).assignable cell.cls c = true := by rw [hal.assignable]; exact hfit
  simp [findHandler.go, hx, h0, ha, ht, hcell, hobj, hk1', hk2', hfit', VmOp.dirties, VmOp.acts]
theorem go_pass {Q : Handler → Pre} {E : CtlPost} {d : Bool} {acts : List Action} {x : ExceptionTableEntry} {t : List ExceptionTableEntry} {c : ClassId} {cell : Cell} (hx : covers x f.pc = true) (h0 : x.catchType ≠ 0)
    (hl : s.vm.ClassLinks e.platform f.method.cls x.catchType c) (hcell : s.heap[a]? = some cell) (hobj : ∀ k, cell.vm ≠ .statics k)
    (hk : ∃ k, s.vm.classes[cell.cls]? = some k) (hc : ∃ k, s.vm.classes[c]? = some k) (hfit : s.vm.assignable cell.cls c = false) :
    wp (findHandler.go f a (x :: t)) Q E e d acts s ↔ wp (findHandler.go f a t) Q E e d acts (s.setVm (s.vm.noted f.method.cls x.catchType (.cls c))) := by
  simp only [covers] at hx
  obtain ⟨ha, ht⟩ := (resolveClass_links e.toSetting hl).op (op := VmOp.resolveClass f.method.cls x.catchType) rfl
  have hal : s.vm.Alike (s.vm.noted f.method.cls x.catchType (.cls c)) := (Vm.Alike.refl s.vm).noted _ _ _
  obtain ⟨k1, hk1⟩ := hk
  obtain ⟨k2, hk2⟩ := hc
  obtain ⟨k1', hk1', -⟩ := hal.2.2 _ _ hk1
  obtain ⟨k2', hk2', -⟩ := hal.2.2 _ _ hk2
  have hfit' : (s.vm.noted f.method.cls x.catchType (.cls c)).assignable cell.cls c = false := by rw [hal.assignable]; exact hfit
  conv => lhs; unfold findHandler.go
  simp [hx, h0, ha, ht, hcell, hobj, hk1', hk2', hfit', VmOp.dirties, VmOp.acts]
theorem catch_to {tb : Tables} {target : State} {g : JFrame} {c : Code} {below : List Frame} (h : At s g.method c below) {pc : Nat} {vm' : Vm}
    (hfind : ∀ (Q : Handler → Pre) (E : CtlPost) (d : Bool) (acts : List Action), wp (findHandler g a) Q E e d acts ((s.setTop g).pushFrame (.throwing a)) ↔ Q (.found pc) d acts (((s.setTop g).pushFrame (.throwing a)).setVm vm'))
    (hrest : Steps tb e below ((s.setVm vm').setTop { g with pc := pc, stack := [.ref a] }) target) : Steps tb e below ((s.setTop g).pushFrame (.throwing a)) target := by
  obtain ⟨hgo, hw⟩ := h.throwing a
  refine Steps.head hgo hw ?_
  have hstep : (stepThrowing e ((s.setTop g).pushFrame (.throwing a)) a (.java g :: s.frames.tail)).Is ((((s.setTop g).pushFrame (.throwing a)).setVm vm').setFrames (.java { g with pc := pc, stack := [.ref a] } :: s.frames.tail)) [] := by
    simp only [stepThrowing, searchFrame, vmDo]
    generalize hr : Sem.go _ e false [] ((s.setTop g).pushFrame (.throwing a)) = res
    obtain ⟨as, rfl, ha⟩ := Sem.eq_ok_of hr (a := Handler.found pc) (s' := ((s.setTop g).pushFrame (.throwing a)).setVm vm') (acts' := []) (by simp [hfind])
    exact ⟨rfl, ha⟩
  rw [stepThread_throwing (frames_entered h.top _), hstep.1]
  obtain ⟨g₀, hg⟩ := Option.isSome_iff_exists.mp h.top
  obtain ⟨r, hr⟩ := State.topJava?_eq_some.mp hg
  have hr' : (s.setVm vm').frames = .java g₀ :: r := hr
  have e1 : ∀ (u : State) (F F' : List Frame), ((u.setFrames F).setVm vm').setFrames F' = (u.setVm vm').setFrames F' := fun u F F' => by
    have e2 : (u.setFrames F).setVm vm' = (u.setVm vm').setFrames F := rfl
    rw [e2, State.setFrames_setFrames]
  rw [State.setTop_of_frames _ hr'] at hrest
  rw [hr, List.tail_cons, State.pushFrame, e1, State.setTop_of_frames _ hr, e1]
  exact hrest
end TZ
/-- the handlers' list leads an exception of the class X to tgt -/
def Caught (args : Array Value) (s : State) (own X : String) (pc tgt : Nat) : List (Nat × Nat × Nat × Nat) → Prop
  | [] => False
  | h :: t => (h.1 ≤ pc ∧ pc < h.2.1 ∧ h.2.2.2 ≠ 0) ∧ ∃ Y : String, (Cond.classLink own h.2.2.2 Y).before args s = true ∧ (((Cond.castable X Y).before args s = true ∧ tgt = h.2.2.1) ∨ (va_Nc X Y s ∧ Caught args s own X pc tgt t))
section TW
variable {p : Program} {l : Launch} {e : Env} {R : Room} {s : State} {m : MethodId} {args : Array Value} {below : List Frame} {meth : Method} {c : Code} {locs : List Loc} {cells slots : Nat}
theorem catch_walk {g : JFrame} (hg : g.method = m) {own cls : String} (hown : s.vm.findClass own = some m.cls) {a : Addr} {cell : Cell} (hobj : cell.vm = .none) (hcls : s.vm.findClass cls = some cell.cls) {tgt : Nat} :
    ∀ (tbl : List ExceptionTableEntry) (T : State), Stand p l e R s m args below meth c T locs cells slots → T.heap[a]? = some cell → Caught args s own cls g.pc tgt (tbl.map (fun h => (h.startPc, h.endPc, h.handlerPc, h.catchType))) →
    ∃ vm', Stand p l e R s m args below meth c (T.setVm vm') locs cells slots ∧ ∀ (Q : Handler → Pre) (E : CtlPost) (d : Bool) (acts : List Action), wp (findHandler.go g a tbl) Q E e d acts ((T.setTop g).pushFrame (.throwing a)) ↔ Q (.found tgt) d acts (((T.setTop g).pushFrame (.throwing a)).setVm vm') := by
  intro tbl
  induction tbl with
  | nil => intro T X _ h; exact h.elim
  | cons x t ih =>
    intro T X hcell h
    obtain ⟨⟨h1, h2, h3⟩, Y, hlink, hor⟩ := h
    dsimp only at h1 h2 h3 hlink
    have hx : covers x g.pc = true := by
      simp only [covers]
      simp [h1, h2]
    have hpl : e.platform.magicAccessors = ({} : Platform).magicAccessors := by rw [X.admits.platform]
    obtain ⟨cT, hcT, hcl⟩ := Cond.classLink_spec hown hlink e.platform hpl
    obtain ⟨dk, _, _, kt, hd, _, _, _, _, hkt, _, hopen⟩ := hcl.here
    have hcl₀ := X.warmed.classLinks hcl
    have hW' : s.WarmedH (T.vm.noted m.cls x.catchType (.cls cT)) := X.warmed.noted hd hopen (State.rightAt_cls hcl)
    have hal := X.warmed.alike
    obtain ⟨kt', hkt', -⟩ := hal.2.2 _ _ hkt
    obtain ⟨kc, hkc⟩ := Vm.classAt_of_findClass hcls
    obtain ⟨kc', hkc', -⟩ := hal.2.2 _ _ hkc
    have ho : ∀ k, cell.vm ≠ .statics k := fun k h => by rw [hobj] at h; cases h
    subst hg
    have hheap : ((T.setTop g).pushFrame (.throwing a)).heap[a]? = some cell := by
      rw [Stand.throwing_heap]; exact hcell
    have hvm : ((T.setTop g).pushFrame (.throwing a)).vm = T.vm := Stand.throwing_vm T g a
    rcases hor with ⟨hcast, rfl⟩ | ⟨⟨c1, c2, n1, n2, n3⟩, hrest⟩
    · obtain ⟨c3, c4, w1, w2, w3⟩ := Cond.castable_spec hcast
      cases hcls.symm.trans w1
      cases hcT.symm.trans w2
      refine ⟨_, X.noted hW', fun Q E d acts => ?_⟩
      exact go_hit (s := (T.setTop g).pushFrame (.throwing a)) (f := g) (c := cT) hx h3 (by rw [hvm]; exact hcl₀) hheap ho (by rw [hvm]; exact ⟨_, hkc'⟩) (by rw [hvm]; exact ⟨_, hkt'⟩) (by rw [hvm, hal.assignable]; exact w3)
    · cases hcls.symm.trans n1
      cases hcT.symm.trans n2
      obtain ⟨vm', X', hf⟩ := ih (T.setVm (T.vm.noted g.method.cls x.catchType (.cls cT))) (X.noted hW') hcell hrest
      refine ⟨vm', X', fun Q E d acts => ?_⟩
      refine (go_pass (s := (T.setTop g).pushFrame (.throwing a)) (f := g) (c := cT) hx h3 (by rw [hvm]; exact hcl₀) hheap ho (by rw [hvm]; exact ⟨_, hkc'⟩) (by rw [hvm]; exact ⟨_, hkt'⟩) (by rw [hvm, hal.assignable]; exact n3)).trans ?_
      exact hf Q E d acts
end TW
section TV
variable {K : Kx} {G : Gl} {cc : ByteArray} {own : String} {nL : Nat} {rm : Room} {rt : Option FieldType} {post : Option Value → Mem → Prop} {pe : Nat → Mem → Prop} {pc : Nat} {lv : List (Nat × Av)} {st : List Value} {μ : Mem} {a b : Nat}
theorem r_cVc (C : Cx K G cc own nL rm) {hh : List (Nat × Nat × Nat × Nat)} (hE : (kc K).exceptionTable.toList.map (fun h => (h.startPc, h.endPc, h.handlerPc, h.catchType)) = hh) {i : Mi} {Cn : String} {T : u_T} {N ci rr idx : Nat} {As : List Av} {po : Option Value → Mem → Prop} {pf : Nat → Mem → Prop} {stk : List Value} (hM : Ct (kl K) G i (.inr (.inl (some rr)) :: As) μ po pf) (hi : MiV i Cn) (hc : CL[ci]? = some (Cn, T, N)) (hr : LayG G μ → okO μ rr ci)
    (hlk : (Cond.methodLink own idx (iy i)).before (ka K) (ks K) = true) (hn : As.length = ia i) (hrm : (im i).frames + 1 ≤ rm.frames ∧ 8 + (il i + 11) + (im i).locals ≤ rm.locals ∧ a + (im i).cells ≤ rm.cells ∧ b + (im i).slots ≤ rm.slots)
    (hw : (st.map fun v => v.category).sum ≤ 8) (hd : decode cc pc = .ok (.invokevirtual idx, 3)) (hstk : stk = (avl G As).reverse ++ rv G (some rr) :: st) (kr : ∀ v μ1, po v μ1 → Rn K G nL (pc + 3) lv (v.toList ++ st) μ1 (a + (im i).cells) (b + (im i).slots))
    (kt : ∀ q μ1, pf q μ1 → ∃ (X : String) (tgt : Nat), CL[q]? = some (X, fT_0, 0) ∧ Caught (ka K) (ks K) own X pc tgt hh ∧ ∀ z, Rn K G nL tgt lv [rv G (some z)] μ1 (a + (im i).cells) (b + (im i).slots)) : Rn K G nL pc lv stk μ a b := by
  intro H locs ls hH hS hl
  have h1 := hr hH.1
  have h9 := cl_lt hc
  obtain ⟨q, h2, cell, q1, q2, q3, -⟩ := hH.P h1.1 (rend_o (G := G) h1.2 (by omega)) 0 _ rfl
  have hcls : (ks K).vm.findClass Cn = some cell.cls := by rw [q2]; exact (C.k.1 ci _ hc).2.1
  obtain ⟨⟨i1, i2, i3⟩, i4, i5, i6⟩ := hi
  have hR := C.r
  refine overX (g := F0 (km K) pc ls stk) (rest := st) (avs := (avl G (.inr (.inl (some rr)) :: As)).toArray) C.b hM rfl rfl (by rw [hR]; exact hrm.1) (by rw [hR]; exact hrm.2.1) rfl (hl.1.trans C.n.symm) hd (st_room rfl hw) (ws_in C i4) (fun a' U hU => lw_ok _ i1 hU (C.w _ i1)) ?_ (by rw [hR]; exact hrm.2.2.1) (by rw [hR]; exact hrm.2.2.2) (pc_in C hH hS rfl) (k_ret hS hl kr) ?_
  · intro T0 hT0 X
    exact landV X C.x C.o hlk (C.w _ i5) (C.w _ i6) (C.w _ i4) i2 (by rw [hT0]; exact q1) (by rw [q3]; rfl) hcls rfl (argsL := avl G As) (by rw [i3, ← hn]; simp [avl]) hstk (by rw [C.b]; exact hd)
  · intro x st0 t L h0 hWt hq hL T1 hT1 X1
    obtain ⟨hF, ⟨v, μ1, h3, -⟩ | ⟨q, x', μ1, h3, h4, h5, z, h6, h7⟩⟩ := hq
    · cases h3
    · cases h3
      have hSU := s_over hS h0 hF hL
      obtain ⟨X, tgt, hX, hca, hgo⟩ := kt q μ1 h4
      have hq9 := cl_lt hX
      obtain ⟨r9, g1, ce, g2, g3, g4, -⟩ := h5.1.P h7.1 (rend_o (G := G) h7.2 (by omega)) 0 _ rfl
      have hce : (ks K).vm.findClass X = some ce.cls := by rw [g3]; exact (C.k.1 q _ hX).2.1
      have hxz : x = gb G + z := h6
      subst hxz
      rw [← hE] at hca
      obtain ⟨vm', X2, hf⟩ := catch_walk (g := F0 (km K) pc ls st) rfl C.o (a := gb G + z) g4 hce _ T1 X1 (by rw [hT1]; exact g2) hca
      obtain ⟨t2, a1, b1⟩ := hgo z t.heap _ ls h5.1 hSU hl (T1.setVm vm') hT1 X2
      refine ⟨t2, ?_, b1⟩
      refine catch_to (g := F0 (km K) pc ls st) X1.here (vm' := vm') (fun Q E d acts => ?_) a1
      rw [W.findHandler_eq (meth := kh K) (code := kc K) (by rw [Stand.throwing_vm]; exact X1.method') X1.code]
      exact hf Q E d acts
end TV
end
section
/-! Rows for calls, by what comes back -/
section CY
variable {K : Kx} {G : Gl} {cc : ByteArray} {own : String} {nL : Nat} {rm : Room} {rt : Option FieldType} {post : Option Value → Mem → Prop} {pe : Nat → Mem → Prop} {pc : Nat} {lv : List (Nat × Av)} {st : List Value} {μ : Mem} {a b a' b' : Nat}
theorem r_cVv (C : Cx K G cc own nL rm) {i : Mi} {Cn : String} {T : u_T} {N ci rr idx : Nat} {As : List Av} {stk : List Value} {po : Mem → Prop} (hM : Ct (kl K) G i (.inr (.inl (some rr)) :: As) μ (poV po) noX) (hi : MiV i Cn) (hc : CL[ci]? = some (Cn, T, N)) (hr : LayG G μ → okO μ rr ci) (hlk : (Cond.methodLink own idx (iy i)).before (ka K) (ks K) = true) (hn : As.length = ia i) (hrm : (im i).frames + 1 ≤ rm.frames ∧ 8 + (il i + 11) + (im i).locals ≤ rm.locals ∧ a + (im i).cells ≤ rm.cells ∧ b + (im i).slots ≤ rm.slots) (ha : a + (im i).cells = a') (hb : b + (im i).slots = b') (hw : (st.map fun v => v.category).sum ≤ 8) (hd : decode cc pc = .ok (.invokevirtual idx, 3)) (hstk : stk = (avl G As).reverse ++ rv G (some rr) :: st) (kr : ∀ μ1, po μ1 → Rn K G nL (pc + 3) lv st μ1 a' b') : Rn K G nL pc lv stk μ a b := by
  subst ha; subst hb
  exact r_cV C hM hi hc hr hlk hn hrm hw hd hstk (fun v μ1 h => by obtain ⟨rfl, h⟩ := h; exact kr μ1 h)
theorem r_cVtv (C : Cx K G cc own nL rm) (Q : Cq K G rm rt post pe) (hE : (kc K).exceptionTable.isEmpty = true) {i : Mi} {Cn : String} {T : u_T} {N ci rr idx : Nat} {As : List Av} {stk : List Value} {po : Mem → Prop} (hM : Ct (kl K) G i (.inr (.inl (some rr)) :: As) μ (poV po) pe) (hi : MiV i Cn) (hc : CL[ci]? = some (Cn, T, N)) (hr : LayG G μ → okO μ rr ci) (hlk : (Cond.methodLink own idx (iy i)).before (ka K) (ks K) = true) (hn : As.length = ia i) (hrm : (im i).frames + 1 ≤ rm.frames ∧ 8 + (il i + 11) + (im i).locals ≤ rm.locals ∧ a + (im i).cells ≤ rm.cells ∧ b + (im i).slots ≤ rm.slots) (ha : a + (im i).cells = a') (hb : b + (im i).slots = b') (hw : (st.map fun v => v.category).sum ≤ 8) (hd : decode cc pc = .ok (.invokevirtual idx, 3)) (hstk : stk = (avl G As).reverse ++ rv G (some rr) :: st) (kr : ∀ μ1, po μ1 → Rn K G nL (pc + 3) lv st μ1 a' b') : Rn K G nL pc lv stk μ a b := by
  subst ha; subst hb
  exact r_cVt C Q hE hM hi hc hr hlk hn hrm hw hd hstk (fun v μ1 h => by obtain ⟨rfl, h⟩ := h; exact kr μ1 h)
theorem r_cVcv (C : Cx K G cc own nL rm) {hh : List (Nat × Nat × Nat × Nat)} (hE : (kc K).exceptionTable.toList.map (fun h => (h.startPc, h.endPc, h.handlerPc, h.catchType)) = hh) {i : Mi} {Cn : String} {T : u_T} {N ci rr idx : Nat} {As : List Av} {stk : List Value} {po : Mem → Prop} {pf : Nat → Mem → Prop} (hM : Ct (kl K) G i (.inr (.inl (some rr)) :: As) μ (poV po) pf) (hi : MiV i Cn) (hc : CL[ci]? = some (Cn, T, N)) (hr : LayG G μ → okO μ rr ci) (hlk : (Cond.methodLink own idx (iy i)).before (ka K) (ks K) = true) (hn : As.length = ia i) (hrm : (im i).frames + 1 ≤ rm.frames ∧ 8 + (il i + 11) + (im i).locals ≤ rm.locals ∧ a + (im i).cells ≤ rm.cells ∧ b + (im i).slots ≤ rm.slots) (ha : a + (im i).cells = a') (hb : b + (im i).slots = b') (hw : (st.map fun v => v.category).sum ≤ 8) (hd : decode cc pc = .ok (.invokevirtual idx, 3)) (hstk : stk = (avl G As).reverse ++ rv G (some rr) :: st) (kr : ∀ μ1, po μ1 → Rn K G nL (pc + 3) lv st μ1 a' b') (kt : ∀ q μ1, pf q μ1 → ∃ (X : String) (tgt : Nat), CL[q]? = some (X, fT_0, 0) ∧ Caught (ka K) (ks K) own X pc tgt hh ∧ ∀ z, Rn K G nL tgt lv [rv G (some z)] μ1 a' b') : Rn K G nL pc lv stk μ a b := by
  subst ha; subst hb
  exact r_cVc C hE hM hi hc hr hlk hn hrm hw hd hstk (fun v μ1 h => by obtain ⟨rfl, h⟩ := h; exact kr μ1 h) kt
theorem r_cSv (C : Cx K G cc own nL rm) {i : Mi} {idx : Nat} {As : List Av} {stk : List Value} {po : Mem → Prop} (hM : Ct (kl K) G i As μ (poV po) noX) (hi : MiS i) (hlk : (Cond.methodLink own idx (iy i)).before (ka K) (ks K) = true) (hn : As.length = ia i) (hrm : (im i).frames + 1 ≤ rm.frames ∧ 8 + (il i + 11) + (im i).locals ≤ rm.locals ∧ a + (im i).cells ≤ rm.cells ∧ b + (im i).slots ≤ rm.slots) (ha : a + (im i).cells = a') (hb : b + (im i).slots = b') (hw : (st.map fun v => v.category).sum ≤ 8) (hd : decode cc pc = .ok (.invokestatic idx, 3)) (hstk : stk = (avl G As).reverse ++ st) (kr : ∀ μ1, po μ1 → Rn K G nL (pc + 3) lv st μ1 a' b') : Rn K G nL pc lv stk μ a b := by
  subst ha; subst hb
  exact r_cS C hM hi hlk hn hrm hw hd hstk (fun v μ1 h => by obtain ⟨rfl, h⟩ := h; exact kr μ1 h)
theorem r_cWv (C : Cx K G cc own nL rm) {i : Mi} {idx : Nat} {As : List Av} {stk : List Value} {hh : List (Nat × Nat × Nat × Nat)} {po : Mem → Prop} (hM : CtW (kl K) G i hh As μ (poV po) noX) (hi : MiW i hh) (hlk : (Cond.methodLink own idx (iy i)).before (ka K) (ks K) = true) (hn : As.length = ia i) (hrm : (im i).frames + 1 ≤ rm.frames ∧ 8 + (il i + 11) + (im i).locals ≤ rm.locals ∧ a + (im i).cells ≤ rm.cells ∧ b + (im i).slots ≤ rm.slots) (ha : a + (im i).cells = a') (hb : b + (im i).slots = b') (hw : (st.map fun v => v.category).sum ≤ 8) (hd : decode cc pc = .ok (.invokestatic idx, 3)) (hstk : stk = (avl G As).reverse ++ st) (kr : ∀ μ1, po μ1 → Rn K G nL (pc + 3) lv st μ1 a' b') : Rn K G nL pc lv stk μ a b := by
  subst ha; subst hb
  exact r_cW C hM hi hlk hn hrm hw hd hstk (fun v μ1 h => by obtain ⟨rfl, h⟩ := h; exact kr μ1 h)
theorem r_cVi (C : Cx K G cc own nL rm) {i : Mi} {Cn : String} {T : u_T} {N ci rr idx : Nat} {As : List Av} {stk : List Value} {po : Int32 → Mem → Prop} (hM : Ct (kl K) G i (.inr (.inl (some rr)) :: As) μ (poI po) noX) (hi : MiV i Cn) (hc : CL[ci]? = some (Cn, T, N)) (hr : LayG G μ → okO μ rr ci) (hlk : (Cond.methodLink own idx (iy i)).before (ka K) (ks K) = true) (hn : As.length = ia i) (hrm : (im i).frames + 1 ≤ rm.frames ∧ 8 + (il i + 11) + (im i).locals ≤ rm.locals ∧ a + (im i).cells ≤ rm.cells ∧ b + (im i).slots ≤ rm.slots) (ha : a + (im i).cells = a') (hb : b + (im i).slots = b') (hw : (st.map fun v => v.category).sum ≤ 8) (hd : decode cc pc = .ok (.invokevirtual idx, 3)) (hstk : stk = (avl G As).reverse ++ rv G (some rr) :: st) (kr : ∀ n μ1, po n μ1 → Rn K G nL (pc + 3) lv (.int n :: st) μ1 a' b') : Rn K G nL pc lv stk μ a b := by
  subst ha; subst hb
  exact r_cV C hM hi hc hr hlk hn hrm hw hd hstk (fun v μ1 h => by obtain ⟨n, rfl, h⟩ := h; exact kr n μ1 h)
theorem r_cVti (C : Cx K G cc own nL rm) (Q : Cq K G rm rt post pe) (hE : (kc K).exceptionTable.isEmpty = true) {i : Mi} {Cn : String} {T : u_T} {N ci rr idx : Nat} {As : List Av} {stk : List Value} {po : Int32 → Mem → Prop} (hM : Ct (kl K) G i (.inr (.inl (some rr)) :: As) μ (poI po) pe) (hi : MiV i Cn) (hc : CL[ci]? = some (Cn, T, N)) (hr : LayG G μ → okO μ rr ci) (hlk : (Cond.methodLink own idx (iy i)).before (ka K) (ks K) = true) (hn : As.length = ia i) (hrm : (im i).frames + 1 ≤ rm.frames ∧ 8 + (il i + 11) + (im i).locals ≤ rm.locals ∧ a + (im i).cells ≤ rm.cells ∧ b + (im i).slots ≤ rm.slots) (ha : a + (im i).cells = a') (hb : b + (im i).slots = b') (hw : (st.map fun v => v.category).sum ≤ 8) (hd : decode cc pc = .ok (.invokevirtual idx, 3)) (hstk : stk = (avl G As).reverse ++ rv G (some rr) :: st) (kr : ∀ n μ1, po n μ1 → Rn K G nL (pc + 3) lv (.int n :: st) μ1 a' b') : Rn K G nL pc lv stk μ a b := by
  subst ha; subst hb
  exact r_cVt C Q hE hM hi hc hr hlk hn hrm hw hd hstk (fun v μ1 h => by obtain ⟨n, rfl, h⟩ := h; exact kr n μ1 h)
theorem r_cVci (C : Cx K G cc own nL rm) {hh : List (Nat × Nat × Nat × Nat)} (hE : (kc K).exceptionTable.toList.map (fun h => (h.startPc, h.endPc, h.handlerPc, h.catchType)) = hh) {i : Mi} {Cn : String} {T : u_T} {N ci rr idx : Nat} {As : List Av} {stk : List Value} {po : Int32 → Mem → Prop} {pf : Nat → Mem → Prop} (hM : Ct (kl K) G i (.inr (.inl (some rr)) :: As) μ (poI po) pf) (hi : MiV i Cn) (hc : CL[ci]? = some (Cn, T, N)) (hr : LayG G μ → okO μ rr ci) (hlk : (Cond.methodLink own idx (iy i)).before (ka K) (ks K) = true) (hn : As.length = ia i) (hrm : (im i).frames + 1 ≤ rm.frames ∧ 8 + (il i + 11) + (im i).locals ≤ rm.locals ∧ a + (im i).cells ≤ rm.cells ∧ b + (im i).slots ≤ rm.slots) (ha : a + (im i).cells = a') (hb : b + (im i).slots = b') (hw : (st.map fun v => v.category).sum ≤ 8) (hd : decode cc pc = .ok (.invokevirtual idx, 3)) (hstk : stk = (avl G As).reverse ++ rv G (some rr) :: st) (kr : ∀ n μ1, po n μ1 → Rn K G nL (pc + 3) lv (.int n :: st) μ1 a' b') (kt : ∀ q μ1, pf q μ1 → ∃ (X : String) (tgt : Nat), CL[q]? = some (X, fT_0, 0) ∧ Caught (ka K) (ks K) own X pc tgt hh ∧ ∀ z, Rn K G nL tgt lv [rv G (some z)] μ1 a' b') : Rn K G nL pc lv stk μ a b := by
  subst ha; subst hb
  exact r_cVc C hE hM hi hc hr hlk hn hrm hw hd hstk (fun v μ1 h => by obtain ⟨n, rfl, h⟩ := h; exact kr n μ1 h) kt
theorem r_cSi (C : Cx K G cc own nL rm) {i : Mi} {idx : Nat} {As : List Av} {stk : List Value} {po : Int32 → Mem → Prop} (hM : Ct (kl K) G i As μ (poI po) noX) (hi : MiS i) (hlk : (Cond.methodLink own idx (iy i)).before (ka K) (ks K) = true) (hn : As.length = ia i) (hrm : (im i).frames + 1 ≤ rm.frames ∧ 8 + (il i + 11) + (im i).locals ≤ rm.locals ∧ a + (im i).cells ≤ rm.cells ∧ b + (im i).slots ≤ rm.slots) (ha : a + (im i).cells = a') (hb : b + (im i).slots = b') (hw : (st.map fun v => v.category).sum ≤ 8) (hd : decode cc pc = .ok (.invokestatic idx, 3)) (hstk : stk = (avl G As).reverse ++ st) (kr : ∀ n μ1, po n μ1 → Rn K G nL (pc + 3) lv (.int n :: st) μ1 a' b') : Rn K G nL pc lv stk μ a b := by
  subst ha; subst hb
  exact r_cS C hM hi hlk hn hrm hw hd hstk (fun v μ1 h => by obtain ⟨n, rfl, h⟩ := h; exact kr n μ1 h)
theorem r_cWi (C : Cx K G cc own nL rm) {i : Mi} {idx : Nat} {As : List Av} {stk : List Value} {hh : List (Nat × Nat × Nat × Nat)} {po : Int32 → Mem → Prop} (hM : CtW (kl K) G i hh As μ (poI po) noX) (hi : MiW i hh) (hlk : (Cond.methodLink own idx (iy i)).before (ka K) (ks K) = true) (hn : As.length = ia i) (hrm : (im i).frames + 1 ≤ rm.frames ∧ 8 + (il i + 11) + (im i).locals ≤ rm.locals ∧ a + (im i).cells ≤ rm.cells ∧ b + (im i).slots ≤ rm.slots) (ha : a + (im i).cells = a') (hb : b + (im i).slots = b') (hw : (st.map fun v => v.category).sum ≤ 8) (hd : decode cc pc = .ok (.invokestatic idx, 3)) (hstk : stk = (avl G As).reverse ++ st) (kr : ∀ n μ1, po n μ1 → Rn K G nL (pc + 3) lv (.int n :: st) μ1 a' b') : Rn K G nL pc lv stk μ a b := by
  subst ha; subst hb
  exact r_cW C hM hi hlk hn hrm hw hd hstk (fun v μ1 h => by obtain ⟨n, rfl, h⟩ := h; exact kr n μ1 h)
theorem r_cVq (C : Cx K G cc own nL rm) {i : Mi} {Cn : String} {T : u_T} {N ci rr idx : Nat} {As : List Av} {stk : List Value} {po : Option Nat → Mem → Prop} (hM : Ct (kl K) G i (.inr (.inl (some rr)) :: As) μ (poQ G po) noX) (hi : MiV i Cn) (hc : CL[ci]? = some (Cn, T, N)) (hr : LayG G μ → okO μ rr ci) (hlk : (Cond.methodLink own idx (iy i)).before (ka K) (ks K) = true) (hn : As.length = ia i) (hrm : (im i).frames + 1 ≤ rm.frames ∧ 8 + (il i + 11) + (im i).locals ≤ rm.locals ∧ a + (im i).cells ≤ rm.cells ∧ b + (im i).slots ≤ rm.slots) (ha : a + (im i).cells = a') (hb : b + (im i).slots = b') (hw : (st.map fun v => v.category).sum ≤ 8) (hd : decode cc pc = .ok (.invokevirtual idx, 3)) (hstk : stk = (avl G As).reverse ++ rv G (some rr) :: st) (kr : ∀ e μ1, po e μ1 → Rn K G nL (pc + 3) lv (rv G e :: st) μ1 a' b') : Rn K G nL pc lv stk μ a b := by
  subst ha; subst hb
  exact r_cV C hM hi hc hr hlk hn hrm hw hd hstk (fun v μ1 h => by obtain ⟨e, rfl, h⟩ := h; exact kr e μ1 h)
theorem r_cVtq (C : Cx K G cc own nL rm) (Q : Cq K G rm rt post pe) (hE : (kc K).exceptionTable.isEmpty = true) {i : Mi} {Cn : String} {T : u_T} {N ci rr idx : Nat} {As : List Av} {stk : List Value} {po : Option Nat → Mem → Prop} (hM : Ct (kl K) G i (.inr (.inl (some rr)) :: As) μ (poQ G po) pe) (hi : MiV i Cn) (hc : CL[ci]? = some (Cn, T, N)) (hr : LayG G μ → okO μ rr ci) (hlk : (Cond.methodLink own idx (iy i)).before (ka K) (ks K) = true) (hn : As.length = ia i) (hrm : (im i).frames + 1 ≤ rm.frames ∧ 8 + (il i + 11) + (im i).locals ≤ rm.locals ∧ a + (im i).cells ≤ rm.cells ∧ b + (im i).slots ≤ rm.slots) (ha : a + (im i).cells = a') (hb : b + (im i).slots = b') (hw : (st.map fun v => v.category).sum ≤ 8) (hd : decode cc pc = .ok (.invokevirtual idx, 3)) (hstk : stk = (avl G As).reverse ++ rv G (some rr) :: st) (kr : ∀ e μ1, po e μ1 → Rn K G nL (pc + 3) lv (rv G e :: st) μ1 a' b') : Rn K G nL pc lv stk μ a b := by
  subst ha; subst hb
  exact r_cVt C Q hE hM hi hc hr hlk hn hrm hw hd hstk (fun v μ1 h => by obtain ⟨e, rfl, h⟩ := h; exact kr e μ1 h)
theorem r_cVcq (C : Cx K G cc own nL rm) {hh : List (Nat × Nat × Nat × Nat)} (hE : (kc K).exceptionTable.toList.map (fun h => (h.startPc, h.endPc, h.handlerPc, h.catchType)) = hh) {i : Mi} {Cn : String} {T : u_T} {N ci rr idx : Nat} {As : List Av} {stk : List Value} {po : Option Nat → Mem → Prop} {pf : Nat → Mem → Prop} (hM : Ct (kl K) G i (.inr (.inl (some rr)) :: As) μ (poQ G po) pf) (hi : MiV i Cn) (hc : CL[ci]? = some (Cn, T, N)) (hr : LayG G μ → okO μ rr ci) (hlk : (Cond.methodLink own idx (iy i)).before (ka K) (ks K) = true) (hn : As.length = ia i) (hrm : (im i).frames + 1 ≤ rm.frames ∧ 8 + (il i + 11) + (im i).locals ≤ rm.locals ∧ a + (im i).cells ≤ rm.cells ∧ b + (im i).slots ≤ rm.slots) (ha : a + (im i).cells = a') (hb : b + (im i).slots = b') (hw : (st.map fun v => v.category).sum ≤ 8) (hd : decode cc pc = .ok (.invokevirtual idx, 3)) (hstk : stk = (avl G As).reverse ++ rv G (some rr) :: st) (kr : ∀ e μ1, po e μ1 → Rn K G nL (pc + 3) lv (rv G e :: st) μ1 a' b') (kt : ∀ q μ1, pf q μ1 → ∃ (X : String) (tgt : Nat), CL[q]? = some (X, fT_0, 0) ∧ Caught (ka K) (ks K) own X pc tgt hh ∧ ∀ z, Rn K G nL tgt lv [rv G (some z)] μ1 a' b') : Rn K G nL pc lv stk μ a b := by
  subst ha; subst hb
  exact r_cVc C hE hM hi hc hr hlk hn hrm hw hd hstk (fun v μ1 h => by obtain ⟨e, rfl, h⟩ := h; exact kr e μ1 h) kt
theorem r_cSq (C : Cx K G cc own nL rm) {i : Mi} {idx : Nat} {As : List Av} {stk : List Value} {po : Option Nat → Mem → Prop} (hM : Ct (kl K) G i As μ (poQ G po) noX) (hi : MiS i) (hlk : (Cond.methodLink own idx (iy i)).before (ka K) (ks K) = true) (hn : As.length = ia i) (hrm : (im i).frames + 1 ≤ rm.frames ∧ 8 + (il i + 11) + (im i).locals ≤ rm.locals ∧ a + (im i).cells ≤ rm.cells ∧ b + (im i).slots ≤ rm.slots) (ha : a + (im i).cells = a') (hb : b + (im i).slots = b') (hw : (st.map fun v => v.category).sum ≤ 8) (hd : decode cc pc = .ok (.invokestatic idx, 3)) (hstk : stk = (avl G As).reverse ++ st) (kr : ∀ e μ1, po e μ1 → Rn K G nL (pc + 3) lv (rv G e :: st) μ1 a' b') : Rn K G nL pc lv stk μ a b := by
  subst ha; subst hb
  exact r_cS C hM hi hlk hn hrm hw hd hstk (fun v μ1 h => by obtain ⟨e, rfl, h⟩ := h; exact kr e μ1 h)
theorem r_cWq (C : Cx K G cc own nL rm) {i : Mi} {idx : Nat} {As : List Av} {stk : List Value} {hh : List (Nat × Nat × Nat × Nat)} {po : Option Nat → Mem → Prop} (hM : CtW (kl K) G i hh As μ (poQ G po) noX) (hi : MiW i hh) (hlk : (Cond.methodLink own idx (iy i)).before (ka K) (ks K) = true) (hn : As.length = ia i) (hrm : (im i).frames + 1 ≤ rm.frames ∧ 8 + (il i + 11) + (im i).locals ≤ rm.locals ∧ a + (im i).cells ≤ rm.cells ∧ b + (im i).slots ≤ rm.slots) (ha : a + (im i).cells = a') (hb : b + (im i).slots = b') (hw : (st.map fun v => v.category).sum ≤ 8) (hd : decode cc pc = .ok (.invokestatic idx, 3)) (hstk : stk = (avl G As).reverse ++ st) (kr : ∀ e μ1, po e μ1 → Rn K G nL (pc + 3) lv (rv G e :: st) μ1 a' b') : Rn K G nL pc lv stk μ a b := by
  subst ha; subst hb
  exact r_cW C hM hi hlk hn hrm hw hd hstk (fun v μ1 h => by obtain ⟨e, rfl, h⟩ := h; exact kr e μ1 h)
end CY
end
