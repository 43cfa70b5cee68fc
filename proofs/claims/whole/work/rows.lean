section
-- ===== PART A: goes FIRST, ahead of the names: the tables' words, and 'selects' of the private methods out of them =====
/-- a private method of a class that the tables say can be made, by its rows of tables_1 -/
def lw_okq (q : MethodName × Nat) : Prop := (q.1.cls ≠ "java/lang/invoke/MethodHandle" ∧ q.1.cls ≠ "java/lang/invoke/VarHandle") ∧ Cond.instantiable q.1.cls q.2 ∈ tables_1 ∧ Cond.privateMethod q.1 ∈ tables_1 ∧ Cond.instanceMethod q.1 ∈ tables_1
theorem lw_p0 : lw_okq (⟨"LineCollector", "drainUpTo", "(I)V"⟩, 11) := ⟨⟨by decide +kernel, by decide +kernel⟩, List.mem_of_getElem? (i := 18) (by decide +kernel), List.mem_of_getElem? (i := 146) (by decide +kernel), List.mem_of_getElem? (i := 147) (by decide +kernel)⟩
theorem lw_p1 : lw_okq (⟨"LineCollector", "letGo", "(LLineCollector$Item;)V"⟩, 11) := ⟨⟨by decide +kernel, by decide +kernel⟩, List.mem_of_getElem? (i := 18) (by decide +kernel), List.mem_of_getElem? (i := 154) (by decide +kernel), List.mem_of_getElem? (i := 155) (by decide +kernel)⟩
theorem lw_p2 : lw_okq (⟨"LineCollector", "remove", "(LLineCollector$Item;)V"⟩, 11) := ⟨⟨by decide +kernel, by decide +kernel⟩, List.mem_of_getElem? (i := 18) (by decide +kernel), List.mem_of_getElem? (i := 158) (by decide +kernel), List.mem_of_getElem? (i := 159) (by decide +kernel)⟩
theorem lw_p3 : lw_okq (⟨"LineCollector", "countSlots", "()I"⟩, 11) := ⟨⟨by decide +kernel, by decide +kernel⟩, List.mem_of_getElem? (i := 18) (by decide +kernel), List.mem_of_getElem? (i := 190) (by decide +kernel), List.mem_of_getElem? (i := 191) (by decide +kernel)⟩
theorem lw_p4 : lw_okq (⟨"LineCollector", "gatherSlots", "()V"⟩, 11) := ⟨⟨by decide +kernel, by decide +kernel⟩, List.mem_of_getElem? (i := 18) (by decide +kernel), List.mem_of_getElem? (i := 194) (by decide +kernel), List.mem_of_getElem? (i := 195) (by decide +kernel)⟩
theorem lw_p5 : lw_okq (⟨"LineCollector$Places", "openHole", "()Z"⟩, 5) := ⟨⟨by decide +kernel, by decide +kernel⟩, List.mem_of_getElem? (i := 28) (by decide +kernel), List.mem_of_getElem? (i := 230) (by decide +kernel), List.mem_of_getElem? (i := 231) (by decide +kernel)⟩
theorem lw_p6 : lw_okq (⟨"LineCollector$Places", "openOverflow", "()Z"⟩, 5) := ⟨⟨by decide +kernel, by decide +kernel⟩, List.mem_of_getElem? (i := 28) (by decide +kernel), List.mem_of_getElem? (i := 246) (by decide +kernel), List.mem_of_getElem? (i := 247) (by decide +kernel)⟩
theorem lw_p7 : lw_okq (⟨"LineCollector", "moveTo", "(LLineCollector$Item;I)V"⟩, 11) := ⟨⟨by decide +kernel, by decide +kernel⟩, List.mem_of_getElem? (i := 18) (by decide +kernel), List.mem_of_getElem? (i := 250) (by decide +kernel), List.mem_of_getElem? (i := 251) (by decide +kernel)⟩
theorem lw_p8 : lw_okq (⟨"LineCollector", "settle", "(LLineCollector$Item;I)V"⟩, 11) := ⟨⟨by decide +kernel, by decide +kernel⟩, List.mem_of_getElem? (i := 18) (by decide +kernel), List.mem_of_getElem? (i := 258) (by decide +kernel), List.mem_of_getElem? (i := 259) (by decide +kernel)⟩
theorem lw_p9 : lw_okq (⟨"LineCollector", "addFieldsToSlots", "(LLineCollector$Item;)V"⟩, 11) := ⟨⟨by decide +kernel, by decide +kernel⟩, List.mem_of_getElem? (i := 18) (by decide +kernel), List.mem_of_getElem? (i := 266) (by decide +kernel), List.mem_of_getElem? (i := 267) (by decide +kernel)⟩
theorem lw_p10 : lw_okq (⟨"LineCollector", "loseYoung", "()V"⟩, 11) := ⟨⟨by decide +kernel, by decide +kernel⟩, List.mem_of_getElem? (i := 18) (by decide +kernel), List.mem_of_getElem? (i := 274) (by decide +kernel), List.mem_of_getElem? (i := 275) (by decide +kernel)⟩
theorem lw_p11 : lw_okq (⟨"LineCollector", "queueRootsAndLog", "()V"⟩, 11) := ⟨⟨by decide +kernel, by decide +kernel⟩, List.mem_of_getElem? (i := 18) (by decide +kernel), List.mem_of_getElem? (i := 278) (by decide +kernel), List.mem_of_getElem? (i := 279) (by decide +kernel)⟩
theorem lw_p12 : lw_okq (⟨"LineCollector", "countGrey", "()I"⟩, 11) := ⟨⟨by decide +kernel, by decide +kernel⟩, List.mem_of_getElem? (i := 18) (by decide +kernel), List.mem_of_getElem? (i := 290) (by decide +kernel), List.mem_of_getElem? (i := 291) (by decide +kernel)⟩
theorem lw_p13 : lw_okq (⟨"LineCollector", "loseWhite", "()V"⟩, 11) := ⟨⟨by decide +kernel, by decide +kernel⟩, List.mem_of_getElem? (i := 18) (by decide +kernel), List.mem_of_getElem? (i := 294) (by decide +kernel), List.mem_of_getElem? (i := 295) (by decide +kernel)⟩
theorem lw_p14 : lw_okq (⟨"LineCollector", "recountStuck", "()V"⟩, 11) := ⟨⟨by decide +kernel, by decide +kernel⟩, List.mem_of_getElem? (i := 18) (by decide +kernel), List.mem_of_getElem? (i := 299) (by decide +kernel), List.mem_of_getElem? (i := 300) (by decide +kernel)⟩
theorem lw_p15 : lw_okq (⟨"LineCollector", "countHolders", "(LLineCollector$Item;)I"⟩, 11) := ⟨⟨by decide +kernel, by decide +kernel⟩, List.mem_of_getElem? (i := 18) (by decide +kernel), List.mem_of_getElem? (i := 303) (by decide +kernel), List.mem_of_getElem? (i := 304) (by decide +kernel)⟩
def lw_privs_1 : List (MethodName × Nat) := [(⟨"LineCollector", "drainUpTo", "(I)V"⟩, 11), (⟨"LineCollector", "letGo", "(LLineCollector$Item;)V"⟩, 11), (⟨"LineCollector", "remove", "(LLineCollector$Item;)V"⟩, 11), (⟨"LineCollector", "countSlots", "()I"⟩, 11), (⟨"LineCollector", "gatherSlots", "()V"⟩, 11), (⟨"LineCollector$Places", "openHole", "()Z"⟩, 5), (⟨"LineCollector$Places", "openOverflow", "()Z"⟩, 5), (⟨"LineCollector", "moveTo", "(LLineCollector$Item;I)V"⟩, 11), (⟨"LineCollector", "settle", "(LLineCollector$Item;I)V"⟩, 11), (⟨"LineCollector", "addFieldsToSlots", "(LLineCollector$Item;)V"⟩, 11), (⟨"LineCollector", "loseYoung", "()V"⟩, 11), (⟨"LineCollector", "queueRootsAndLog", "()V"⟩, 11), (⟨"LineCollector", "countGrey", "()I"⟩, 11), (⟨"LineCollector", "loseWhite", "()V"⟩, 11), (⟨"LineCollector", "recountStuck", "()V"⟩, 11), (⟨"LineCollector", "countHolders", "(LLineCollector$Item;)I"⟩, 11)]
theorem lw_r1 : ∀ q ∈ lw_privs_1, lw_okq q := List.forall_mem_cons.mpr ⟨lw_p0, List.forall_mem_cons.mpr ⟨lw_p1, List.forall_mem_cons.mpr ⟨lw_p2, List.forall_mem_cons.mpr ⟨lw_p3, List.forall_mem_cons.mpr ⟨lw_p4, List.forall_mem_cons.mpr ⟨lw_p5, List.forall_mem_cons.mpr ⟨lw_p6, List.forall_mem_cons.mpr ⟨lw_p7, List.forall_mem_cons.mpr ⟨lw_p8, List.forall_mem_cons.mpr ⟨lw_p9, List.forall_mem_cons.mpr ⟨lw_p10, List.forall_mem_cons.mpr ⟨lw_p11, List.forall_mem_cons.mpr ⟨lw_p12, List.forall_mem_cons.mpr ⟨lw_p13, List.forall_mem_cons.mpr ⟨lw_p14, List.forall_mem_cons.mpr ⟨lw_p15, fun _ h => absurd h List.not_mem_nil⟩⟩⟩⟩⟩⟩⟩⟩⟩⟩⟩⟩⟩⟩⟩⟩
theorem lw_p16 : lw_okq (⟨"LineCollector", "whitenAll", "()V"⟩, 11) := ⟨⟨by decide +kernel, by decide +kernel⟩, List.mem_of_getElem? (i := 18) (by decide +kernel), List.mem_of_getElem? (i := 315) (by decide +kernel), List.mem_of_getElem? (i := 316) (by decide +kernel)⟩
theorem lw_p17 : lw_okq (⟨"LineCollector", "clearSparsestBlock", "()V"⟩, 11) := ⟨⟨by decide +kernel, by decide +kernel⟩, List.mem_of_getElem? (i := 18) (by decide +kernel), List.mem_of_getElem? (i := 319) (by decide +kernel), List.mem_of_getElem? (i := 320) (by decide +kernel)⟩
theorem lw_p18 : lw_okq (⟨"LineCollector$Places", "usedLines", "(I)I"⟩, 5) := ⟨⟨by decide +kernel, by decide +kernel⟩, List.mem_of_getElem? (i := 28) (by decide +kernel), List.mem_of_getElem? (i := 327) (by decide +kernel), List.mem_of_getElem? (i := 328) (by decide +kernel)⟩
theorem lw_p19 : lw_okq (⟨"LineCollector", "beginTrace", "()V"⟩, 11) := ⟨⟨by decide +kernel, by decide +kernel⟩, List.mem_of_getElem? (i := 18) (by decide +kernel), List.mem_of_getElem? (i := 339) (by decide +kernel), List.mem_of_getElem? (i := 340) (by decide +kernel)⟩
theorem lw_p20 : lw_okq (⟨"LineCollector", "rememberRoots", "()V"⟩, 11) := ⟨⟨by decide +kernel, by decide +kernel⟩, List.mem_of_getElem? (i := 18) (by decide +kernel), List.mem_of_getElem? (i := 343) (by decide +kernel), List.mem_of_getElem? (i := 344) (by decide +kernel)⟩
theorem lw_p21 : lw_okq (⟨"java/lang/Throwable", "fillInStackTrace", "(I)Ljava/lang/Throwable;"⟩, 6) := ⟨⟨by decide +kernel, by decide +kernel⟩, List.mem_of_getElem? (i := 399) (by decide +kernel), List.mem_of_getElem? (i := 397) (by decide +kernel), List.mem_of_getElem? (i := 398) (by decide +kernel)⟩
theorem lw_p22 : lw_okq (⟨"LineCollector", "collect", "()V"⟩, 11) := ⟨⟨by decide +kernel, by decide +kernel⟩, List.mem_of_getElem? (i := 18) (by decide +kernel), List.mem_of_getElem? (i := 424) (by decide +kernel), List.mem_of_getElem? (i := 425) (by decide +kernel)⟩
theorem lw_p23 : lw_okq (⟨"LineCollector", "stepUpTo", "(I)V"⟩, 11) := ⟨⟨by decide +kernel, by decide +kernel⟩, List.mem_of_getElem? (i := 18) (by decide +kernel), List.mem_of_getElem? (i := 429) (by decide +kernel), List.mem_of_getElem? (i := 430) (by decide +kernel)⟩
theorem lw_p24 : lw_okq (⟨"LineCollector", "blackenFirstGrey", "()Z"⟩, 11) := ⟨⟨by decide +kernel, by decide +kernel⟩, List.mem_of_getElem? (i := 18) (by decide +kernel), List.mem_of_getElem? (i := 433) (by decide +kernel), List.mem_of_getElem? (i := 434) (by decide +kernel)⟩
theorem lw_p25 : lw_okq (⟨"LineCollector", "itemWithField", "(III)LLineCollector$Item;"⟩, 11) := ⟨⟨by decide +kernel, by decide +kernel⟩, List.mem_of_getElem? (i := 18) (by decide +kernel), List.mem_of_getElem? (i := 514) (by decide +kernel), List.mem_of_getElem? (i := 515) (by decide +kernel)⟩
theorem lw_p26 : lw_okq (⟨"LineCollector", "itemOrNull", "(I)LLineCollector$Item;"⟩, 11) := ⟨⟨by decide +kernel, by decide +kernel⟩, List.mem_of_getElem? (i := 18) (by decide +kernel), List.mem_of_getElem? (i := 595) (by decide +kernel), List.mem_of_getElem? (i := 596) (by decide +kernel)⟩
theorem lw_p27 : lw_okq (⟨"LineCollector", "countItems", "()I"⟩, 11) := ⟨⟨by decide +kernel, by decide +kernel⟩, List.mem_of_getElem? (i := 18) (by decide +kernel), List.mem_of_getElem? (i := 637) (by decide +kernel), List.mem_of_getElem? (i := 638) (by decide +kernel)⟩
theorem lw_p28 : lw_okq (⟨"LineCollector", "countYoung", "()I"⟩, 11) := ⟨⟨by decide +kernel, by decide +kernel⟩, List.mem_of_getElem? (i := 18) (by decide +kernel), List.mem_of_getElem? (i := 641) (by decide +kernel), List.mem_of_getElem? (i := 642) (by decide +kernel)⟩
theorem lw_p29 : lw_okq (⟨"LineCollectorModel", "place", "(I)I"⟩, 31) := ⟨⟨by decide +kernel, by decide +kernel⟩, List.mem_of_getElem? (i := 645) (by decide +kernel), List.mem_of_getElem? (i := 756) (by decide +kernel), List.mem_of_getElem? (i := 757) (by decide +kernel)⟩
theorem lw_p30 : lw_okq (⟨"LineCollectorModel", "placeInLines", "(I)I"⟩, 31) := ⟨⟨by decide +kernel, by decide +kernel⟩, List.mem_of_getElem? (i := 645) (by decide +kernel), List.mem_of_getElem? (i := 760) (by decide +kernel), List.mem_of_getElem? (i := 761) (by decide +kernel)⟩
theorem lw_p31 : lw_okq (⟨"LineCollectorModel", "isFree", "(I)Z"⟩, 31) := ⟨⟨by decide +kernel, by decide +kernel⟩, List.mem_of_getElem? (i := 645) (by decide +kernel), List.mem_of_getElem? (i := 764) (by decide +kernel), List.mem_of_getElem? (i := 765) (by decide +kernel)⟩
def lw_privs_2 : List (MethodName × Nat) := [(⟨"LineCollector", "whitenAll", "()V"⟩, 11), (⟨"LineCollector", "clearSparsestBlock", "()V"⟩, 11), (⟨"LineCollector$Places", "usedLines", "(I)I"⟩, 5), (⟨"LineCollector", "beginTrace", "()V"⟩, 11), (⟨"LineCollector", "rememberRoots", "()V"⟩, 11), (⟨"java/lang/Throwable", "fillInStackTrace", "(I)Ljava/lang/Throwable;"⟩, 6), (⟨"LineCollector", "collect", "()V"⟩, 11), (⟨"LineCollector", "stepUpTo", "(I)V"⟩, 11), (⟨"LineCollector", "blackenFirstGrey", "()Z"⟩, 11), (⟨"LineCollector", "itemWithField", "(III)LLineCollector$Item;"⟩, 11), (⟨"LineCollector", "itemOrNull", "(I)LLineCollector$Item;"⟩, 11), (⟨"LineCollector", "countItems", "()I"⟩, 11), (⟨"LineCollector", "countYoung", "()I"⟩, 11), (⟨"LineCollectorModel", "place", "(I)I"⟩, 31), (⟨"LineCollectorModel", "placeInLines", "(I)I"⟩, 31), (⟨"LineCollectorModel", "isFree", "(I)Z"⟩, 31)]
theorem lw_r2 : ∀ q ∈ lw_privs_2, lw_okq q := List.forall_mem_cons.mpr ⟨lw_p16, List.forall_mem_cons.mpr ⟨lw_p17, List.forall_mem_cons.mpr ⟨lw_p18, List.forall_mem_cons.mpr ⟨lw_p19, List.forall_mem_cons.mpr ⟨lw_p20, List.forall_mem_cons.mpr ⟨lw_p21, List.forall_mem_cons.mpr ⟨lw_p22, List.forall_mem_cons.mpr ⟨lw_p23, List.forall_mem_cons.mpr ⟨lw_p24, List.forall_mem_cons.mpr ⟨lw_p25, List.forall_mem_cons.mpr ⟨lw_p26, List.forall_mem_cons.mpr ⟨lw_p27, List.forall_mem_cons.mpr ⟨lw_p28, List.forall_mem_cons.mpr ⟨lw_p29, List.forall_mem_cons.mpr ⟨lw_p30, List.forall_mem_cons.mpr ⟨lw_p31, fun _ h => absurd h List.not_mem_nil⟩⟩⟩⟩⟩⟩⟩⟩⟩⟩⟩⟩⟩⟩⟩⟩
theorem lw_p32 : lw_okq (⟨"LineCollectorModel", "isUsed", "(I)Z"⟩, 31) := ⟨⟨by decide +kernel, by decide +kernel⟩, List.mem_of_getElem? (i := 645) (by decide +kernel), List.mem_of_getElem? (i := 768) (by decide +kernel), List.mem_of_getElem? (i := 769) (by decide +kernel)⟩
theorem lw_p33 : lw_okq (⟨"LineCollectorModel", "isTaken", "(I)Z"⟩, 31) := ⟨⟨by decide +kernel, by decide +kernel⟩, List.mem_of_getElem? (i := 645) (by decide +kernel), List.mem_of_getElem? (i := 772) (by decide +kernel), List.mem_of_getElem? (i := 773) (by decide +kernel)⟩
theorem lw_p34 : lw_okq (⟨"LineCollectorModel", "placeInBlock", "(I)I"⟩, 31) := ⟨⟨by decide +kernel, by decide +kernel⟩, List.mem_of_getElem? (i := 645) (by decide +kernel), List.mem_of_getElem? (i := 776) (by decide +kernel), List.mem_of_getElem? (i := 777) (by decide +kernel)⟩
theorem lw_p35 : lw_okq (⟨"LineCollectorModel", "isFreeBlock", "(I)Z"⟩, 31) := ⟨⟨by decide +kernel, by decide +kernel⟩, List.mem_of_getElem? (i := 645) (by decide +kernel), List.mem_of_getElem? (i := 780) (by decide +kernel), List.mem_of_getElem? (i := 781) (by decide +kernel)⟩
theorem lw_p36 : lw_okq (⟨"LineCollectorModel", "collect", "()V"⟩, 31) := ⟨⟨by decide +kernel, by decide +kernel⟩, List.mem_of_getElem? (i := 645) (by decide +kernel), List.mem_of_getElem? (i := 784) (by decide +kernel), List.mem_of_getElem? (i := 785) (by decide +kernel)⟩
theorem lw_p37 : lw_okq (⟨"LineCollectorModel", "halt", "(Z)I"⟩, 31) := ⟨⟨by decide +kernel, by decide +kernel⟩, List.mem_of_getElem? (i := 645) (by decide +kernel), List.mem_of_getElem? (i := 788) (by decide +kernel), List.mem_of_getElem? (i := 789) (by decide +kernel)⟩
theorem lw_p38 : lw_okq (⟨"LineCollectorModel", "drainAll", "()V"⟩, 31) := ⟨⟨by decide +kernel, by decide +kernel⟩, List.mem_of_getElem? (i := 645) (by decide +kernel), List.mem_of_getElem? (i := 792) (by decide +kernel), List.mem_of_getElem? (i := 793) (by decide +kernel)⟩
theorem lw_p39 : lw_okq (⟨"LineCollectorModel", "drainOne", "()V"⟩, 31) := ⟨⟨by decide +kernel, by decide +kernel⟩, List.mem_of_getElem? (i := 645) (by decide +kernel), List.mem_of_getElem? (i := 796) (by decide +kernel), List.mem_of_getElem? (i := 797) (by decide +kernel)⟩
theorem lw_p40 : lw_okq (⟨"LineCollectorModel", "vanish", "(I)V"⟩, 31) := ⟨⟨by decide +kernel, by decide +kernel⟩, List.mem_of_getElem? (i := 645) (by decide +kernel), List.mem_of_getElem? (i := 800) (by decide +kernel), List.mem_of_getElem? (i := 801) (by decide +kernel)⟩
theorem lw_p41 : lw_okq (⟨"LineCollectorModel", "wait", "(I)V"⟩, 31) := ⟨⟨by decide +kernel, by decide +kernel⟩, List.mem_of_getElem? (i := 645) (by decide +kernel), List.mem_of_getElem? (i := 804) (by decide +kernel), List.mem_of_getElem? (i := 805) (by decide +kernel)⟩
theorem lw_p42 : lw_okq (⟨"LineCollectorModel", "isWhite", "(I)Z"⟩, 31) := ⟨⟨by decide +kernel, by decide +kernel⟩, List.mem_of_getElem? (i := 645) (by decide +kernel), List.mem_of_getElem? (i := 808) (by decide +kernel), List.mem_of_getElem? (i := 809) (by decide +kernel)⟩
theorem lw_p43 : lw_okq (⟨"LineCollectorModel", "lose", "(I)V"⟩, 31) := ⟨⟨by decide +kernel, by decide +kernel⟩, List.mem_of_getElem? (i := 645) (by decide +kernel), List.mem_of_getElem? (i := 812) (by decide +kernel), List.mem_of_getElem? (i := 813) (by decide +kernel)⟩
theorem lw_p44 : lw_okq (⟨"LineCollectorModel", "lift", "(IZ)V"⟩, 31) := ⟨⟨by decide +kernel, by decide +kernel⟩, List.mem_of_getElem? (i := 645) (by decide +kernel), List.mem_of_getElem? (i := 816) (by decide +kernel), List.mem_of_getElem? (i := 817) (by decide +kernel)⟩
theorem lw_p45 : lw_okq (⟨"LineCollectorModel", "forget", "()V"⟩, 31) := ⟨⟨by decide +kernel, by decide +kernel⟩, List.mem_of_getElem? (i := 645) (by decide +kernel), List.mem_of_getElem? (i := 820) (by decide +kernel), List.mem_of_getElem? (i := 821) (by decide +kernel)⟩
theorem lw_p46 : lw_okq (⟨"LineCollectorModel", "countSlots", "()I"⟩, 31) := ⟨⟨by decide +kernel, by decide +kernel⟩, List.mem_of_getElem? (i := 645) (by decide +kernel), List.mem_of_getElem? (i := 824) (by decide +kernel), List.mem_of_getElem? (i := 825) (by decide +kernel)⟩
theorem lw_p47 : lw_okq (⟨"LineCollectorModel", "addSlot", "(I)V"⟩, 31) := ⟨⟨by decide +kernel, by decide +kernel⟩, List.mem_of_getElem? (i := 645) (by decide +kernel), List.mem_of_getElem? (i := 828) (by decide +kernel), List.mem_of_getElem? (i := 829) (by decide +kernel)⟩
def lw_privs_3 : List (MethodName × Nat) := [(⟨"LineCollectorModel", "isUsed", "(I)Z"⟩, 31), (⟨"LineCollectorModel", "isTaken", "(I)Z"⟩, 31), (⟨"LineCollectorModel", "placeInBlock", "(I)I"⟩, 31), (⟨"LineCollectorModel", "isFreeBlock", "(I)Z"⟩, 31), (⟨"LineCollectorModel", "collect", "()V"⟩, 31), (⟨"LineCollectorModel", "halt", "(Z)I"⟩, 31), (⟨"LineCollectorModel", "drainAll", "()V"⟩, 31), (⟨"LineCollectorModel", "drainOne", "()V"⟩, 31), (⟨"LineCollectorModel", "vanish", "(I)V"⟩, 31), (⟨"LineCollectorModel", "wait", "(I)V"⟩, 31), (⟨"LineCollectorModel", "isWhite", "(I)Z"⟩, 31), (⟨"LineCollectorModel", "lose", "(I)V"⟩, 31), (⟨"LineCollectorModel", "lift", "(IZ)V"⟩, 31), (⟨"LineCollectorModel", "forget", "()V"⟩, 31), (⟨"LineCollectorModel", "countSlots", "()I"⟩, 31), (⟨"LineCollectorModel", "addSlot", "(I)V"⟩, 31)]
theorem lw_r3 : ∀ q ∈ lw_privs_3, lw_okq q := List.forall_mem_cons.mpr ⟨lw_p32, List.forall_mem_cons.mpr ⟨lw_p33, List.forall_mem_cons.mpr ⟨lw_p34, List.forall_mem_cons.mpr ⟨lw_p35, List.forall_mem_cons.mpr ⟨lw_p36, List.forall_mem_cons.mpr ⟨lw_p37, List.forall_mem_cons.mpr ⟨lw_p38, List.forall_mem_cons.mpr ⟨lw_p39, List.forall_mem_cons.mpr ⟨lw_p40, List.forall_mem_cons.mpr ⟨lw_p41, List.forall_mem_cons.mpr ⟨lw_p42, List.forall_mem_cons.mpr ⟨lw_p43, List.forall_mem_cons.mpr ⟨lw_p44, List.forall_mem_cons.mpr ⟨lw_p45, List.forall_mem_cons.mpr ⟨lw_p46, List.forall_mem_cons.mpr ⟨lw_p47, fun _ h => absurd h List.not_mem_nil⟩⟩⟩⟩⟩⟩⟩⟩⟩⟩⟩⟩⟩⟩⟩⟩
theorem lw_p48 : lw_okq (⟨"LineCollectorModel", "survive", "(I)V"⟩, 31) := ⟨⟨by decide +kernel, by decide +kernel⟩, List.mem_of_getElem? (i := 645) (by decide +kernel), List.mem_of_getElem? (i := 832) (by decide +kernel), List.mem_of_getElem? (i := 833) (by decide +kernel)⟩
theorem lw_p49 : lw_okq (⟨"LineCollectorModel", "shift", "(I)V"⟩, 31) := ⟨⟨by decide +kernel, by decide +kernel⟩, List.mem_of_getElem? (i := 645) (by decide +kernel), List.mem_of_getElem? (i := 836) (by decide +kernel), List.mem_of_getElem? (i := 837) (by decide +kernel)⟩
theorem lw_p50 : lw_okq (⟨"LineCollectorModel", "lay", "(II)V"⟩, 31) := ⟨⟨by decide +kernel, by decide +kernel⟩, List.mem_of_getElem? (i := 645) (by decide +kernel), List.mem_of_getElem? (i := 840) (by decide +kernel), List.mem_of_getElem? (i := 841) (by decide +kernel)⟩
theorem lw_p51 : lw_okq (⟨"LineCollectorModel", "endStep", "()V"⟩, 31) := ⟨⟨by decide +kernel, by decide +kernel⟩, List.mem_of_getElem? (i := 645) (by decide +kernel), List.mem_of_getElem? (i := 844) (by decide +kernel), List.mem_of_getElem? (i := 845) (by decide +kernel)⟩
theorem lw_p52 : lw_okq (⟨"LineCollectorModel", "settle", "()V"⟩, 31) := ⟨⟨by decide +kernel, by decide +kernel⟩, List.mem_of_getElem? (i := 645) (by decide +kernel), List.mem_of_getElem? (i := 848) (by decide +kernel), List.mem_of_getElem? (i := 849) (by decide +kernel)⟩
theorem lw_p53 : lw_okq (⟨"LineCollectorModel", "greys", "()I"⟩, 31) := ⟨⟨by decide +kernel, by decide +kernel⟩, List.mem_of_getElem? (i := 645) (by decide +kernel), List.mem_of_getElem? (i := 852) (by decide +kernel), List.mem_of_getElem? (i := 853) (by decide +kernel)⟩
theorem lw_p54 : lw_okq (⟨"LineCollectorModel", "sweep", "()V"⟩, 31) := ⟨⟨by decide +kernel, by decide +kernel⟩, List.mem_of_getElem? (i := 645) (by decide +kernel), List.mem_of_getElem? (i := 856) (by decide +kernel), List.mem_of_getElem? (i := 857) (by decide +kernel)⟩
theorem lw_p55 : lw_okq (⟨"LineCollectorModel", "objectAt", "(I)I"⟩, 31) := ⟨⟨by decide +kernel, by decide +kernel⟩, List.mem_of_getElem? (i := 645) (by decide +kernel), List.mem_of_getElem? (i := 860) (by decide +kernel), List.mem_of_getElem? (i := 861) (by decide +kernel)⟩
theorem lw_p56 : lw_okq (⟨"LineCollectorModel", "countAnew", "()V"⟩, 31) := ⟨⟨by decide +kernel, by decide +kernel⟩, List.mem_of_getElem? (i := 645) (by decide +kernel), List.mem_of_getElem? (i := 864) (by decide +kernel), List.mem_of_getElem? (i := 865) (by decide +kernel)⟩
theorem lw_p57 : lw_okq (⟨"LineCollectorModel", "holders", "(I)I"⟩, 31) := ⟨⟨by decide +kernel, by decide +kernel⟩, List.mem_of_getElem? (i := 645) (by decide +kernel), List.mem_of_getElem? (i := 868) (by decide +kernel), List.mem_of_getElem? (i := 869) (by decide +kernel)⟩
theorem lw_p58 : lw_okq (⟨"LineCollectorModel", "clearBlock", "()V"⟩, 31) := ⟨⟨by decide +kernel, by decide +kernel⟩, List.mem_of_getElem? (i := 645) (by decide +kernel), List.mem_of_getElem? (i := 872) (by decide +kernel), List.mem_of_getElem? (i := 873) (by decide +kernel)⟩
theorem lw_p59 : lw_okq (⟨"LineCollectorModel", "usedLines", "(I)I"⟩, 31) := ⟨⟨by decide +kernel, by decide +kernel⟩, List.mem_of_getElem? (i := 645) (by decide +kernel), List.mem_of_getElem? (i := 876) (by decide +kernel), List.mem_of_getElem? (i := 877) (by decide +kernel)⟩
theorem lw_p60 : lw_okq (⟨"LineCollectorModel", "step", "()V"⟩, 31) := ⟨⟨by decide +kernel, by decide +kernel⟩, List.mem_of_getElem? (i := 645) (by decide +kernel), List.mem_of_getElem? (i := 880) (by decide +kernel), List.mem_of_getElem? (i := 881) (by decide +kernel)⟩
theorem lw_p61 : lw_okq (⟨"LineCollectorModel", "make", "(II)I"⟩, 31) := ⟨⟨by decide +kernel, by decide +kernel⟩, List.mem_of_getElem? (i := 645) (by decide +kernel), List.mem_of_getElem? (i := 884) (by decide +kernel), List.mem_of_getElem? (i := 885) (by decide +kernel)⟩
theorem lw_p62 : lw_okq (⟨"LineCollectorModel", "reach", "(III)V"⟩, 31) := ⟨⟨by decide +kernel, by decide +kernel⟩, List.mem_of_getElem? (i := 645) (by decide +kernel), List.mem_of_getElem? (i := 900) (by decide +kernel), List.mem_of_getElem? (i := 901) (by decide +kernel)⟩
theorem lw_p63 : lw_okq (⟨"LineCollectorModel", "addressOf", "(I)I"⟩, 31) := ⟨⟨by decide +kernel, by decide +kernel⟩, List.mem_of_getElem? (i := 645) (by decide +kernel), List.mem_of_getElem? (i := 904) (by decide +kernel), List.mem_of_getElem? (i := 905) (by decide +kernel)⟩
def lw_privs_4 : List (MethodName × Nat) := [(⟨"LineCollectorModel", "survive", "(I)V"⟩, 31), (⟨"LineCollectorModel", "shift", "(I)V"⟩, 31), (⟨"LineCollectorModel", "lay", "(II)V"⟩, 31), (⟨"LineCollectorModel", "endStep", "()V"⟩, 31), (⟨"LineCollectorModel", "settle", "()V"⟩, 31), (⟨"LineCollectorModel", "greys", "()I"⟩, 31), (⟨"LineCollectorModel", "sweep", "()V"⟩, 31), (⟨"LineCollectorModel", "objectAt", "(I)I"⟩, 31), (⟨"LineCollectorModel", "countAnew", "()V"⟩, 31), (⟨"LineCollectorModel", "holders", "(I)I"⟩, 31), (⟨"LineCollectorModel", "clearBlock", "()V"⟩, 31), (⟨"LineCollectorModel", "usedLines", "(I)I"⟩, 31), (⟨"LineCollectorModel", "step", "()V"⟩, 31), (⟨"LineCollectorModel", "make", "(II)I"⟩, 31), (⟨"LineCollectorModel", "reach", "(III)V"⟩, 31), (⟨"LineCollectorModel", "addressOf", "(I)I"⟩, 31)]
theorem lw_r4 : ∀ q ∈ lw_privs_4, lw_okq q := List.forall_mem_cons.mpr ⟨lw_p48, List.forall_mem_cons.mpr ⟨lw_p49, List.forall_mem_cons.mpr ⟨lw_p50, List.forall_mem_cons.mpr ⟨lw_p51, List.forall_mem_cons.mpr ⟨lw_p52, List.forall_mem_cons.mpr ⟨lw_p53, List.forall_mem_cons.mpr ⟨lw_p54, List.forall_mem_cons.mpr ⟨lw_p55, List.forall_mem_cons.mpr ⟨lw_p56, List.forall_mem_cons.mpr ⟨lw_p57, List.forall_mem_cons.mpr ⟨lw_p58, List.forall_mem_cons.mpr ⟨lw_p59, List.forall_mem_cons.mpr ⟨lw_p60, List.forall_mem_cons.mpr ⟨lw_p61, List.forall_mem_cons.mpr ⟨lw_p62, List.forall_mem_cons.mpr ⟨lw_p63, fun _ h => absurd h List.not_mem_nil⟩⟩⟩⟩⟩⟩⟩⟩⟩⟩⟩⟩⟩⟩⟩⟩
theorem lw_p64 : lw_okq (⟨"LineCollectorModel", "objects", "(I)I"⟩, 31) := ⟨⟨by decide +kernel, by decide +kernel⟩, List.mem_of_getElem? (i := 645) (by decide +kernel), List.mem_of_getElem? (i := 944) (by decide +kernel), List.mem_of_getElem? (i := 945) (by decide +kernel)⟩
def lw_privs_5 : List (MethodName × Nat) := [(⟨"LineCollectorModel", "objects", "(I)I"⟩, 31)]
theorem lw_r5 : ∀ q ∈ lw_privs_5, lw_okq q := List.forall_mem_cons.mpr ⟨lw_p64, fun _ h => absurd h List.not_mem_nil⟩
def lw_privs : List (MethodName × Nat) := lw_privs_1 ++ (lw_privs_2 ++ (lw_privs_3 ++ (lw_privs_4 ++ (lw_privs_5))))
def lw_tbl : List Cond := k2_sels lw_privs ++ tables_1
theorem lw_privs_ok : ∀ q ∈ lw_privs, lw_okq q := by
  show ∀ q ∈ lw_privs_1 ++ (lw_privs_2 ++ (lw_privs_3 ++ (lw_privs_4 ++ (lw_privs_5)))), lw_okq q
  exact List.forall_mem_append.mpr ⟨lw_r1, List.forall_mem_append.mpr ⟨lw_r2, List.forall_mem_append.mpr ⟨lw_r3, List.forall_mem_append.mpr ⟨lw_r4, lw_r5⟩⟩⟩⟩
-- ===== end of PART A; then your names; then what follows =====
end
section
/-! The memory of class, reference and law, by regions (relative to the heap's size at the law's entry), and its picture in the heap -/
abbrev Mem : Type := Nat × (Nat → Nat) × (Nat → Nat) × (Nat → Nat → Int32) × (Nat → Nat → Option Nat)
def mN (μ : Mem) : Nat := μ.1
def mK (μ : Mem) (r : Nat) : Nat := μ.2.1 r
def mL (μ : Mem) (r : Nat) : Nat := μ.2.2.1 r
def mI (μ : Mem) (r j : Nat) : Int32 := μ.2.2.2.1 r j
def mR (μ : Mem) (r j : Nat) : Option Nat := μ.2.2.2.2 r j
def sI (μ : Mem) (r j : Nat) (v : Int32) : Mem := (μ.1, μ.2.1, μ.2.2.1, (fun x y => if x = r ∧ y = j then v else μ.2.2.2.1 x y), μ.2.2.2.2)
def sR (μ : Mem) (r j : Nat) (v : Option Nat) : Mem := (μ.1, μ.2.1, μ.2.2.1, μ.2.2.2.1, fun x y => if x = r ∧ y = j then v else μ.2.2.2.2 x y)
def bump (μ : Mem) (k : Nat) : Mem := (μ.1 + 1, (fun r => if r = μ.1 then k else μ.2.1 r), μ.2.2.1, μ.2.2.2.1, μ.2.2.2.2)
def mkItem (μ : Mem) (size tag : Int32) : Mem :=
  (μ.1 + 3, (fun r => if r = μ.1 then 5 else if r = μ.1 + 1 then 22 else if r = μ.1 + 2 then 21 else μ.2.1 r),
    (fun r => if r = μ.1 + 1 ∨ r = μ.1 + 2 then size.toNatClampNeg else μ.2.2.1 r),
    (fun r j => if r = μ.1 then (if j = 0 then size else if j = 1 then tag else 0) else if r = μ.1 + 2 then 0 else μ.2.2.2.1 r j),
    fun r j => if r = μ.1 + 1 then none else μ.2.2.2.2 r j)
theorem mN_sI (μ : Mem) (r j : Nat) (v : Int32) : mN (sI μ r j v) = mN μ := rfl
theorem mK_sI (μ : Mem) (r j : Nat) (v : Int32) (x : Nat) : mK (sI μ r j v) x = mK μ x := rfl
theorem mL_sI (μ : Mem) (r j : Nat) (v : Int32) (x : Nat) : mL (sI μ r j v) x = mL μ x := rfl
theorem mR_sI (μ : Mem) (r j : Nat) (v : Int32) (x y : Nat) : mR (sI μ r j v) x y = mR μ x y := rfl
theorem mI_sI (μ : Mem) (r j : Nat) (v : Int32) (x y : Nat) : mI (sI μ r j v) x y = if x = r ∧ y = j then v else mI μ x y := rfl
theorem mN_sR (μ : Mem) (r j : Nat) (v : Option Nat) : mN (sR μ r j v) = mN μ := rfl
theorem mK_sR (μ : Mem) (r j : Nat) (v : Option Nat) (x : Nat) : mK (sR μ r j v) x = mK μ x := rfl
theorem mL_sR (μ : Mem) (r j : Nat) (v : Option Nat) (x : Nat) : mL (sR μ r j v) x = mL μ x := rfl
theorem mI_sR (μ : Mem) (r j : Nat) (v : Option Nat) (x y : Nat) : mI (sR μ r j v) x y = mI μ x y := rfl
theorem mR_sR (μ : Mem) (r j : Nat) (v : Option Nat) (x y : Nat) : mR (sR μ r j v) x y = if x = r ∧ y = j then v else mR μ x y := rfl
theorem mI_sI_self (μ : Mem) (r j : Nat) (v : Int32) : mI (sI μ r j v) r j = v := by rw [mI_sI, if_pos ⟨rfl, rfl⟩]
theorem mR_sR_self (μ : Mem) (r j : Nat) (v : Option Nat) : mR (sR μ r j v) r j = v := by rw [mR_sR, if_pos ⟨rfl, rfl⟩]
theorem mN_bump (μ : Mem) (k : Nat) : mN (bump μ k) = mN μ + 1 := rfl
theorem mK_bump (μ : Mem) (k x : Nat) : mK (bump μ k) x = if x = mN μ then k else mK μ x := rfl
theorem mL_bump (μ : Mem) (k x : Nat) : mL (bump μ k) x = mL μ x := rfl
theorem mI_bump (μ : Mem) (k x y : Nat) : mI (bump μ k) x y = mI μ x y := rfl
theorem mR_bump (μ : Mem) (k x y : Nat) : mR (bump μ k) x y = mR μ x y := rfl
/-- a region of a kind; an array of a length -/
def okO (μ : Mem) (r k : Nat) : Prop := r < mN μ ∧ mK μ r = k
def okA (μ : Mem) (r k n : Nat) : Prop := r < mN μ ∧ mK μ r = k ∧ mL μ r = n
def zb (v : Int32) : Prop := v = 0 ∨ v = 1
def jmin (x y : Int32) : Int32 := if y < x then y else x
/-- the fixed regions: kind and length -/
def layKs : List (Nat × Nat) := [(0, 0), (22, 6), (22, 6), (22, 128), (1, 0), (20, 32), (21, 32), (2, 0), (2, 0), (3, 0), (22, 128), (20, 128), (22, 128), (4, 0), (22, 262), (4, 0), (22, 262),
  (6, 0), (20, 128), (20, 256), (20, 256), (20, 256), (20, 256), (20, 256), (20, 256), (20, 3072), (21, 3072), (20, 6), (20, 6), (21, 32), (20, 700), (20, 160), (20, 160), (20, 400), (23, 1)]
def Lay (μ : Mem) : Prop := 35 ≤ mN μ ∧ ∀ (r : Nat) (q : Nat × Nat), layKs[r]? = some q → mK μ r = q.1 ∧ mL μ r = q.2
theorem lay_lt {r : Nat} {q : Nat × Nat} (h : layKs[r]? = some q) : r < 35 := (List.getElem?_eq_some_iff.mp h).1
theorem lay_O {μ : Mem} {r k n : Nat} (h : layKs[r]? = some (k, n)) : Lay μ → okO μ r k := fun L => ⟨Nat.lt_of_lt_of_le (lay_lt h) L.1, (L.2 r _ h).1⟩
theorem lay_A {μ : Mem} {r k n : Nat} (h : layKs[r]? = some (k, n)) : Lay μ → okA μ r k n := fun L => ⟨Nat.lt_of_lt_of_le (lay_lt h) L.1, (L.2 r _ h).1, (L.2 r _ h).2⟩
theorem ok_A {μ : Mem} {r k : Nat} (h : okO μ r k) : Lay μ → okA μ r k (mL μ r) := fun _ => ⟨h.1, h.2, rfl⟩
theorem ok_O {μ : Mem} {r k : Nat} (h : okO μ r k) : Lay μ → okO μ r k := fun _ => h
theorem Lay.sI {μ : Mem} (h : Lay μ) (r j : Nat) (v : Int32) : Lay (sI μ r j v) := h
theorem Lay.sR {μ : Mem} (h : Lay μ) (r j : Nat) (v : Option Nat) : Lay (sR μ r j v) := h
theorem Lay.bump {μ : Mem} (h : Lay μ) (k : Nat) : Lay (bump μ k) := by
  refine ⟨Nat.le_trans h.1 (by rw [mN_bump]; omega), fun r q hq => ?_⟩
  have h1 := lay_lt hq
  have h2 := h.1
  have h3 := h.2 r q hq
  rw [mK_bump, if_neg (by omega), mL_bump]
  exact h3
/-- what is fixed for a run: numbers of classes and slots; of the array classes; the base; the script's address, length, ints -/
abbrev Gl : Type := va_G × (Nat → ClassId) × Nat × Nat × Nat × (Nat → Int32)
def gD (G : Gl) : va_G := G.1
def gA (G : Gl) : Nat → ClassId := G.2.1
def gb (G : Gl) : Nat := G.2.2.1
def ga (G : Gl) : Nat := G.2.2.2.1
def gL (G : Gl) : Nat := G.2.2.2.2.1
def gx (G : Gl) : Nat → Int32 := G.2.2.2.2.2
def gF (G : Gl) : Nat → Prop := fun q => gb G ≤ q
def gT (G : Gl) : List (ClassId × FieldType) := [(gA G 0, .int), (gA G 1, .boolean), (gA G 2, .object "LineCollector$Item"), (gA G 3, .long)]
def rv (G : Gl) (e : Option Nat) : Value := match e with
  | none => .null
  | some r => .ref (gb G + r)
theorem rv_rf (G : Gl) (e : Option Nat) : va_rf (e.map (fun r => gb G + r)) = rv G e := by cases e <;> rfl
theorem rv_cat (G : Gl) (e : Option Nat) : (rv G e).category = 1 := by cases e <;> rfl
theorem map_inj (G : Gl) (e f : Option Nat) : e.map (fun r => gb G + r) = f.map (fun r => gb G + r) ↔ e = f := by
  cases e <;> cases f <;> simp
/-- the shapes of the classes: none: an int; some d: a reference to the region d behind -/
def shp : Nat → List (Option Nat)
  | 0 => [some 1, some 2, some 3, some 4, some 9, some 13, some 15, none, none, none, none]
  | 1 => [some 1, some 2, some 3, some 4, none]
  | 2 => [none, none, none]
  | 3 => [some 1, some 2, some 3, none]
  | 4 => [some 1, none, none]
  | 5 => [none, none, some 1, some 2, none, none, none]
  | 6 => [none, some 1, some 2, some 3, some 4, some 5, some 6, some 7, some 8, some 9, none, some 10, some 11, none, none, none, none, none, some 12, none, some 13, none, some 14, some 15, none, some 16, none, none, none, none, none]
  | _ => []
def fldv (G : Gl) (μ : Mem) (r : Nat) (o : Option Nat × Nat) : Value := match o.1 with
  | none => .int (mI μ r o.2)
  | some d => .ref (gb G + (r + d))
def flds (G : Gl) (μ : Mem) (r ci : Nat) : List Value := (shp ci).zipIdx.map (fldv G μ r)
def rend (G : Gl) (μ : Mem) (r : Nat) : va_E :=
  if mK μ r = 20 then .inl (gA G 0, mL μ r, .inl (mI μ r))
  else if mK μ r = 21 then .inl (gA G 1, mL μ r, .inl (mI μ r))
  else if mK μ r = 22 then .inl (gA G 2, mL μ r, .inr (.inr (.inr (.inr (fun j => (mR μ r j).map (fun x => gb G + x))))))
  else if mK μ r = 23 then .inl (gA G 3, mL μ r, .inr (.inl (fun j => (mI μ r j).toInt64)))
  else .inr (mK μ r, flds G μ r (mK μ r))
theorem flds_get {G : Gl} {μ : Mem} {r ci j : Nat} {o : Option Nat} (h : (shp ci)[j]? = some o) : (flds G μ r ci)[j]? = some (fldv G μ r (o, j)) := by
  simp [flds, List.getElem?_map, List.getElem?_zipIdx, h]
theorem flds_len (G : Gl) (μ : Mem) (r ci : Nat) : (flds G μ r ci).length = (shp ci).length := by simp [flds]
theorem flds_set {G : Gl} {μ : Mem} {r ci j : Nat} {v : Int32} (h : (shp ci)[j]? = some none) : flds G (sI μ r j v) r ci = (flds G μ r ci).set j (.int v) := by
  apply List.ext_getElem?
  intro i
  rw [List.getElem?_set, flds_len]
  by_cases hi : j = i
  · subst hi
    rw [if_pos rfl, if_pos (List.getElem?_eq_some_iff.mp h).1, flds_get h]
    simp [fldv, mI_sI]
  · rw [if_neg hi]
    simp only [flds, List.getElem?_map, List.getElem?_zipIdx]
    cases hs : (shp ci)[i]? with
    | none => rfl
    | some o =>
      cases o with
      | none => simp [fldv, mI_sI, Ne.symm hi]
      | some d => rfl
theorem flds_ne {G : Gl} {μ : Mem} {r ci x j : Nat} {v : Int32} (h : x ≠ r) : flds G (sI μ r j v) x ci = flds G μ x ci := by
  unfold flds
  congr 1
  funext o
  obtain ⟨o, i⟩ := o
  cases o with
  | none => simp [fldv, mI_sI, h]
  | some d => rfl
theorem rend_o {G : Gl} {μ : Mem} {r ci : Nat} (h : mK μ r = ci) (hc : ci < 20) : rend G μ r = .inr (ci, flds G μ r ci) := by
  subst h
  unfold rend
  rw [if_neg (by omega), if_neg (by omega), if_neg (by omega), if_neg (by omega)]
theorem rend_i {G : Gl} {μ : Mem} {r n : Nat} (h : okA μ r 20 n) : rend G μ r = .inl (gA G 0, n, .inl (mI μ r)) := by
  unfold rend
  rw [if_pos h.2.1, h.2.2]
theorem rend_z {G : Gl} {μ : Mem} {r n : Nat} (h : okA μ r 21 n) : rend G μ r = .inl (gA G 1, n, .inl (mI μ r)) := by
  unfold rend
  rw [if_neg (by rw [h.2.1]; decide), if_pos h.2.1, h.2.2]
theorem rend_q {G : Gl} {μ : Mem} {r n : Nat} (h : okA μ r 22 n) : rend G μ r = .inl (gA G 2, n, .inr (.inr (.inr (.inr (fun j => (mR μ r j).map (fun x => gb G + x)))))) := by
  unfold rend
  rw [if_neg (by rw [h.2.1]; decide), if_neg (by rw [h.2.1]; decide), if_pos h.2.1, h.2.2]
theorem rend_j {G : Gl} {μ : Mem} {r n : Nat} (h : okA μ r 23 n) : rend G μ r = .inl (gA G 3, n, .inr (.inl (fun j => (mI μ r j).toInt64))) := by
  unfold rend
  rw [if_neg (by rw [h.2.1]; decide), if_neg (by rw [h.2.1]; decide), if_neg (by rw [h.2.1]; decide), if_pos h.2.1, h.2.2]
theorem mI_ne {μ : Mem} {r j x : Nat} {v : Int32} (h : x ≠ r) : mI (sI μ r j v) x = mI μ x := by
  funext y
  rw [mI_sI, if_neg (fun q => h q.1)]
theorem mR_ne {μ : Mem} {r j x : Nat} {v : Option Nat} (h : x ≠ r) : mR (sR μ r j v) x = mR μ x := by
  funext y
  rw [mR_sR, if_neg (fun q => h q.1)]
theorem mI_up {μ : Mem} {r j : Nat} {v : Int32} : mI (sI μ r j v) r = upd (mI μ r) j v := by
  funext y
  rw [mI_sI]
  unfold upd
  by_cases h : y = j
  · rw [if_pos ⟨rfl, h⟩, if_pos h]
  · rw [if_neg (fun q => h q.2), if_neg h]
theorem rend_ne {G : Gl} {μ : Mem} {r j x : Nat} {v : Int32} (h : x ≠ r) : rend G (sI μ r j v) x = rend G μ x := by
  unfold rend
  simp only [mK_sI, mL_sI, mR_sI, mI_ne h, flds_ne h]
theorem flds_sR {G : Gl} {μ : Mem} {r j x ci : Nat} {v : Option Nat} : flds G (sR μ r j v) x ci = flds G μ x ci := rfl
theorem rend_neR {G : Gl} {μ : Mem} {r j x : Nat} {v : Option Nat} (h : x ≠ r) : rend G (sR μ r j v) x = rend G μ x := by
  unfold rend
  simp only [mK_sR, mL_sR, mI_sR, mR_ne h, flds_sR]
  rfl
/-- the classes that the memory's objects are of -/
def fT_C : u_T := fun k => match k with
  | 0 => ("LineCollector", "roots", "[LLineCollector$Item;", true)
  | 1 => ("LineCollector", "rootsAtLastPause", "[LLineCollector$Item;", true)
  | 2 => ("LineCollector", "itemAt", "[LLineCollector$Item;", true)
  | 3 => ("LineCollector", "places", "LLineCollector$Places;", true)
  | 4 => ("LineCollector", "log", "LLineCollector$Log;", true)
  | 5 => ("LineCollector", "waiting", "LLineCollector$Row;", true)
  | 6 => ("LineCollector", "slots", "LLineCollector$Row;", true)
  | 7 => ("LineCollector", "traceRuns", "Z", false)
  | 8 => ("LineCollector", "pauses", "I", false)
  | 9 => ("LineCollector", "moves", "I", false)
  | _ => ("LineCollector", "goneAsWhite", "I", false)
def fT_P : u_T := fun k => match k with
  | 0 => ("LineCollector$Places", "cellsOwned", "[I", true)
  | 1 => ("LineCollector$Places", "movedOut", "[Z", true)
  | 2 => ("LineCollector$Places", "hole", "LLineCollector$Span;", true)
  | 3 => ("LineCollector$Places", "overflow", "LLineCollector$Span;", true)
  | _ => ("LineCollector$Places", "shutBlock", "I", false)
def fT_S : u_T := fun k => match k with
  | 0 => ("LineCollector$Span", "start", "I", false)
  | 1 => ("LineCollector$Span", "cursor", "I", false)
  | _ => ("LineCollector$Span", "end", "I", false)
def fT_G : u_T := fun k => match k with
  | 0 => ("LineCollector$Log", "items", "[LLineCollector$Item;", true)
  | 1 => ("LineCollector$Log", "fields", "[I", true)
  | 2 => ("LineCollector$Log", "before", "[LLineCollector$Item;", true)
  | _ => ("LineCollector$Log", "length", "I", false)
def fT_W : u_T := fun k => match k with
  | 0 => ("LineCollector$Row", "items", "[LLineCollector$Item;", true)
  | 1 => ("LineCollector$Row", "first", "I", false)
  | _ => ("LineCollector$Row", "length", "I", false)
def fT_I : u_T := fun k => match k with
  | 0 => ("LineCollector$Item", "size", "I", true)
  | 1 => ("LineCollector$Item", "tag", "I", true)
  | 2 => ("LineCollector$Item", "held", "[LLineCollector$Item;", true)
  | 3 => ("LineCollector$Item", "logged", "[Z", true)
  | 4 => ("LineCollector$Item", "address", "I", false)
  | 5 => ("LineCollector$Item", "count", "I", false)
  | _ => ("LineCollector$Item", "colour", "I", false)
def fT_M : u_T := fun k => match k with
  | 0 => ("LineCollectorModel", "code", "I", false)
  | 1 => ("LineCollectorModel", "cells", "[I", true)
  | 2 => ("LineCollectorModel", "state", "[I", true)
  | 3 => ("LineCollectorModel", "at", "[I", true)
  | 4 => ("LineCollectorModel", "size", "[I", true)
  | 5 => ("LineCollectorModel", "tag", "[I", true)
  | 6 => ("LineCollectorModel", "count", "[I", true)
  | 7 => ("LineCollectorModel", "colour", "[I", true)
  | 8 => ("LineCollectorModel", "fields", "[I", true)
  | 9 => ("LineCollectorModel", "logged", "[Z", true)
  | 10 => ("LineCollectorModel", "next", "I", false)
  | 11 => ("LineCollectorModel", "roots", "[I", true)
  | 12 => ("LineCollectorModel", "before", "[I", true)
  | 13 => ("LineCollectorModel", "holeFrom", "I", false)
  | 14 => ("LineCollectorModel", "holeEnd", "I", false)
  | 15 => ("LineCollectorModel", "holeCursor", "I", false)
  | 16 => ("LineCollectorModel", "overflow", "I", false)
  | 17 => ("LineCollectorModel", "overflowCursor", "I", false)
  | 18 => ("LineCollectorModel", "left", "[Z", true)
  | 19 => ("LineCollectorModel", "cleared", "I", false)
  | 20 => ("LineCollectorModel", "row", "[I", true)
  | 21 => ("LineCollectorModel", "waiting", "I", false)
  | 22 => ("LineCollectorModel", "logField", "[I", true)
  | 23 => ("LineCollectorModel", "logOld", "[I", true)
  | 24 => ("LineCollectorModel", "logs", "I", false)
  | 25 => ("LineCollectorModel", "slots", "[I", true)
  | 26 => ("LineCollectorModel", "slotted", "I", false)
  | 27 => ("LineCollectorModel", "traces", "Z", false)
  | 28 => ("LineCollectorModel", "pauses", "I", false)
  | 29 => ("LineCollectorModel", "moves", "I", false)
  | _ => ("LineCollectorModel", "whites", "I", false)
def fT_0 : u_T := fun _ => ("", "", "", false)
def CL : List vw_C := [("LineCollector", fT_C, 11), ("LineCollector$Places", fT_P, 5), ("LineCollector$Span", fT_S, 3), ("LineCollector$Log", fT_G, 4), ("LineCollector$Row", fT_W, 3), ("LineCollector$Item", fT_I, 7), ("LineCollectorModel", fT_M, 31),
  ("java/lang/IllegalArgumentException", fT_0, 0), ("java/lang/IllegalStateException", fT_0, 0), ("java/lang/IndexOutOfBoundsException", fT_0, 0), ("java/lang/UnsupportedOperationException", fT_0, 0), ("java/util/NoSuchElementException", fT_0, 0)]
theorem cl_lt {ci : Nat} {q : vw_C} (h : CL[ci]? = some q) : ci < 12 := (List.getElem?_eq_some_iff.mp h).1
theorem cl_ind {P : Nat → vw_C → Prop} (h0 : P 0 ("LineCollector", fT_C, 11)) (h1 : P 1 ("LineCollector$Places", fT_P, 5)) (h2 : P 2 ("LineCollector$Span", fT_S, 3)) (h3 : P 3 ("LineCollector$Log", fT_G, 4)) (h4 : P 4 ("LineCollector$Row", fT_W, 3)) (h5 : P 5 ("LineCollector$Item", fT_I, 7)) (h6 : P 6 ("LineCollectorModel", fT_M, 31))
    (h7 : ∀ ci C, 7 ≤ ci → P ci (C, fT_0, 0)) {ci : Nat} {q : vw_C} (h : CL[ci]? = some q) : P ci q := by
  have hlt := cl_lt h
  match ci, h, hlt with
  | 0, h, _ => cases h; exact h0
  | 1, h, _ => cases h; exact h1
  | 2, h, _ => cases h; exact h2
  | 3, h, _ => cases h; exact h3
  | 4, h, _ => cases h; exact h4
  | 5, h, _ => cases h; exact h5
  | 6, h, _ => cases h; exact h6
  | 7, h, _ => cases h; exact h7 7 _ (by decide)
  | 8, h, _ => cases h; exact h7 8 _ (by decide)
  | 9, h, _ => cases h; exact h7 9 _ (by decide)
  | 10, h, _ => cases h; exact h7 10 _ (by decide)
  | 11, h, _ => cases h; exact h7 11 _ (by decide)
def ftyD (d : String) : FieldType := (parseFieldDescriptor d).getD .int
theorem cl_ty {ci : Nat} {q : vw_C} (h : CL[ci]? = some q) : ∀ k, k < q.2.2 → parseFieldDescriptor (q.2.1 k).2.2.1 = some (ftyD (q.2.1 k).2.2.1) := by
  refine cl_ind (P := fun _ q => ∀ k, k < q.2.2 → parseFieldDescriptor (q.2.1 k).2.2.1 = some (ftyD (q.2.1 k).2.2.1)) ?_ ?_ ?_ ?_ ?_ ?_ ?_ (fun _ _ _ k hk => absurd hk (Nat.not_lt_zero k)) h
  all_goals decide +kernel
theorem cl_nm {ci : Nat} {q : vw_C} (h : CL[ci]? = some q) : ∀ a, a < q.2.2 → ∀ b, b < q.2.2 → a ≠ b → (q.2.1 a).2.1 ≠ (q.2.1 b).2.1 := by
  refine cl_ind (P := fun _ q => ∀ a, a < q.2.2 → ∀ b, b < q.2.2 → a ≠ b → (q.2.1 a).2.1 ≠ (q.2.1 b).2.1) ?_ ?_ ?_ ?_ ?_ ?_ ?_ (fun _ _ _ k hk => absurd hk (Nat.not_lt_zero k)) h
  all_goals decide +kernel
theorem cl_own {ci : Nat} {q : vw_C} (h : CL[ci]? = some q) : ∀ k, k < q.2.2 → (q.2.1 k).1 = q.1 := by
  refine cl_ind (P := fun _ q => ∀ k, k < q.2.2 → (q.2.1 k).1 = q.1) ?_ ?_ ?_ ?_ ?_ ?_ ?_ (fun _ _ _ k hk => absurd hk (Nat.not_lt_zero k)) h
  all_goals decide +kernel
theorem cl_len {ci : Nat} {q : vw_C} (h : CL[ci]? = some q) : (shp ci).length = q.2.2 := by
  refine cl_ind (P := fun ci q => (shp ci).length = q.2.2) rfl rfl rfl rfl rfl rfl rfl (fun ci C h7 => ?_) h
  match ci, h7 with
  | n + 7, _ => rfl
/-- the memory's picture -/
def Hd (G : Gl) (μ : Mem) (H : Heap) : Prop := Lay μ ∧ H.size = gb G + mN μ ∧ ∀ r, r < mN μ → va_at (gD G) CL (gb G + r, rend G μ r) H
/-- a static field of a class that holds a reference or null, in a cell outside A -/
def Zs (C n d : String) (A : Nat → Prop) (U : State) (H : Heap) : Prop := ∃ (c : ClassId) (k : Class) (i : Nat) (f : Field) (a : Nat) (cell : Cell) (v : Value), U.vm.findClass C = some c ∧ U.fieldFound? C n d = some (c, k, i, f) ∧ f.isStatic = true ∧ k.statics = some a ∧ H[a]? = some cell ∧ cell.vm.isStatics = true ∧ cell.cls = c ∧ f.slot < cell.slots.size ∧ k.staticTypes[f.slot]? = some f.type ∧ cell.slots[f.slot]? = some v ∧ v.isRef = true ∧ ¬ A a
theorem Zs.moved {C n d : String} {A : Nat → Prop} {u U : State} {H : Heap} (hvm : u.vm.Alike U.vm) (h : Zs C n d A u H) : Zs C n d A U H := by
  obtain ⟨c, k, i, f, a, cell, v, h0, h1, h2, h3, h4, h5, h6, h7, h8, h9⟩ := h
  obtain ⟨k', hi', he⟩ := State.fieldFound?_setVm hvm h1
  exact ⟨c, k', i, f, a, cell, v, by rw [hvm.findClass]; exact h0, hi', h2, by rw [he]; exact h3, h4, h5, h6, h7, by rw [he]; exact h8, h9⟩
theorem Zs.kept {C n d : String} {A : Nat → Prop} {U : State} {H H1 : Heap} (h : Zs C n d A U H) (hq : ∀ a : Nat, a < H.size → ¬ A a → H1[a]? = H[a]?) : Zs C n d A U H1 := by
  obtain ⟨c, k, i, f, a, cell, v, h0, h1, h2, h3, h4, h5, h6, h7, h8, h9, h10, h11⟩ := h
  exact ⟨c, k, i, f, a, cell, v, h0, h1, h2, h3, by rw [hq a (Array.getElem?_eq_some_iff.mp h4).1 h11]; exact h4, h5, h6, h7, h8, h9, h10, h11⟩
theorem Zs.lays {C n d : String} {A : Nat → Prop} {U : State} {args : Array Value} (h : Zs C n d A U U.heap) : (Cond.laysStatic C n d).before args U = true := by
  obtain ⟨c, k, i, f, a, cell, v, h0, h1, h2, h3, h4, h5, h6, h7, h8, h9, h10, h11⟩ := h
  simp [Cond.before, Cond.holds, Cond.value, h0, h1, h2, h3, h4, h5, h6, h7, h8]
theorem Zs.isRef {C n d : String} {A : Nat → Prop} {U : State} {args : Array Value} (h : Zs C n d A U U.heap) : (Cond.isRef (.static C n d)).before args U = true := by
  obtain ⟨c, k, i, f, a, cell, v, h0, h1, h2, h3, h4, h5, h6, h7, h8, h9, h10, h11⟩ := h
  cases v <;> simp [Value.isRef] at h10 <;> simp [Cond.before, Cond.holds, Cond.value, Term.eval, State.fieldNamed?, h1, h2, h3, h4, h5, h9]
/-- classes of which one can't be assigned to the other: pairs that a catch passes by -/
def ncPairs : List (String × String) := [("java/lang/UnsupportedOperationException", "java/lang/IllegalArgumentException"), ("java/lang/IllegalStateException", "java/lang/IllegalArgumentException"), ("java/lang/IndexOutOfBoundsException", "java/lang/IllegalArgumentException"),
  ("java/lang/IndexOutOfBoundsException", "java/lang/IllegalStateException"), ("java/lang/IndexOutOfBoundsException", "java/util/NoSuchElementException"), ("java/util/NoSuchElementException", "java/lang/IllegalArgumentException")]
/-- what else a run needs: the script; the two statics that an exception's constructor reads; the class of arrays of Items -/
def Xtra (G : Gl) (U : State) (H : Heap) : Prop := va_X (ga G) (gL G) (gx G) U H ∧ ga G < gb G ∧ Zs "java/lang/Throwable" "UNASSIGNED_STACK" "[Ljava/lang/StackTraceElement;" (gF G) U H ∧ Zs "java/lang/Throwable" "SUPPRESSED_SENTINEL" "Ljava/util/List;" (gF G) U H ∧ va_AO "LineCollector$Item" U ∧ ∀ q ∈ ncPairs, va_Nc q.1 q.2 U
def Wd (G : Gl) (μ : Mem) (U : State) : Prop := Hd G μ U.heap ∧ va_K (gD G) CL (gT G) U ∧ Xtra G U U.heap
theorem Hd.P {G : Gl} {μ : Mem} {H : Heap} {r : Nat} {e : va_E} (h : Hd G μ H) (hr : r < mN μ) (he : rend G μ r = e) : va_P (gD G) CL [(gb G + r, e)] H := by
  intro k q hk
  cases k with
  | zero =>
    cases hk
    rw [← he]
    exact h.2.2 r hr
  | succ k => cases hk
theorem Hd.put {G : Gl} {μ μ' : Mem} {H H1 : Heap} {r : Nat} (h : Hd G μ H) (hL : Lay μ') (hN : mN μ' = mN μ) (hz : H1.size = H.size) (oq : ∀ q, q ≠ gb G + r → H1[q]? = H[q]?)
    (hr : ∀ x, x ≠ r → rend G μ' x = rend G μ x) (ha : va_at (gD G) CL (gb G + r, rend G μ' r) H1) : Hd G μ' H1 := by
  refine ⟨hL, by rw [hz, hN]; exact h.2.1, fun x hx => ?_⟩
  rw [hN] at hx
  by_cases e : x = r
  · subst e
    exact ha
  · rw [hr x e]
    exact (h.2.2 x hx).kept (oq _ (by omega))
theorem ok_s {μ μ1 : Mem} {r j x k : Nat} {v : Int32} (e : μ1 = sI μ r j v) (h : okO μ x k) : okO μ1 x k := by subst e; exact h
theorem ok_t {μ μ1 : Mem} {r j x k : Nat} {v : Option Nat} (e : μ1 = sR μ r j v) (h : okO μ x k) : okO μ1 x k := by subst e; exact h
end
section
/-! A contract whose method may throw; the walk's judgement in a short form -/
def MetX (l : Launch) (y : MethodName) (ws : List Cond) (rm : Room) (Pc : Array Value → State → Prop) (Qc : Array Value → State → Outcome → State → Prop) (mc ms : Nat) (free : Addr → Prop) : Prop :=
  MetFree l y (headSpec ws rm) Pc (fun _ _ _ _ _ => True) (fun a st o t => Qc a st o t ∧ st.WarmedH t.vm ∧ ∃ L, st.sameButNew ({ t with vm := st.vm } : State) L mc ms ∧ ∀ q ∈ L, free q.base)
def MQX (below : List Frame) (Qc : Array Value → State → Outcome → State → Prop) (a : Array Value) (s : State) (mc ms : Nat) (free : Addr → Prop) : State → Prop := fun t =>
  ∃ o, t.status = .running ∧ Ended t below o ∧ Qc a s o t ∧ s.WarmedH t.vm ∧ ∃ L, s.sameButNew ({ t with vm := s.vm } : State) L mc ms ∧ ∀ q ∈ L, free q.base
theorem mq_x {below : List Frame} {Qc : Array Value → State → Outcome → State → Prop} {a : Array Value} {s t : State} {mc ms : Nat} {free : Addr → Prop} (h : MQ below Qc a s mc ms free t) : MQX below Qc a s mc ms free t := by
  obtain ⟨o, h1, h2, h3, L, ⟨-, hW, hF⟩, hL⟩ := h
  exact ⟨o, h1, h2, h3, hW, L, hF, hL⟩
section JX
variable {p : Program} {l : Launch} {e : Env} {R : Room} {s : State} {m : MethodId} {args : Array Value} {below : List Frame} {meth : Method} {c : Code} {H : Heap} {locs : List Loc} {cells slots : Nat} {Q : State → Prop} {T : State}
theorem wx_mono {Q' : State → Prop} {g : JFrame} (h : ∀ t, Q t → Q' t) (k : W p l e R s m args below meth c H locs cells slots Q g) : W p l e R s m args below meth c H locs cells slots Q' g := by
  intro T hT X
  obtain ⟨t, a, b⟩ := k T hT X
  exact ⟨t, a, h t b⟩
theorem MetX.ofW {y : MethodName} {ws ws' : List Cond} {rm : Room} {Pc : Array Value → State → Prop} {Qc : Array Value → State → Outcome → State → Prop} {mc ms : Nat} {free : Addr → Prop} {cc : ByteArray} {maxL : Nat} {ret : Option FieldType}
    (hy : plainName y.cls = true) (hw : ws = Cond.code y cc maxL ret :: ws')
    (body : ∀ p e s m args below meth c s₁, BodyLoose p l y (headSpec ws rm) cc maxL ret e s m args below meth c s₁ → c.maxLocals = maxL → Pc args s →
      W p l e (headSpec ws rm).room s m args below meth c s.heap [] 0 0 (MQX below Qc args s mc ms free) (entryFrame m args maxL)) : MetX l y ws rm Pc Qc mc ms free := by
  refine MetFree.of_bodyS (code := cc) (maxLocals := maxL) (ret := ret) hy ?_ ?_
  · intro args s m h hn
    obtain ⟨meth, c, h1, h2, h3, h4, h5, h6, -, -⟩ := Cond.code_spec hn (atoms_spec (ws := ws) h _ (by rw [hw]; exact List.mem_cons_self))
    exact ⟨meth, c, h1, h2, h3, h4, h5, h6⟩
  · intro p e s m args below meth c s₁ B hml hP _
    have hh0 : s₁.heap = s.heap := by rw [B.state]; rfl
    obtain ⟨t, a1, o, b1, b2, b3⟩ := body p e s m args below meth c s₁ B hml hP s₁ hh0 (Stand.of_body B)
    exact ⟨t, o, a1, b1, b2, b3⟩
theorem MetX.ofWW {y : MethodName} {ws ws' : List Cond} {rm : Room} {Pc : Array Value → State → Prop} {Qc : Array Value → State → Outcome → State → Prop} {mc ms : Nat} {free : Addr → Prop} {cc : ByteArray} {maxL : Nat} {ret : Option FieldType} {hh : List (Nat × Nat × Nat × Nat)}
    (hy : plainName y.cls = true) (hw : ws = Cond.codeWith y cc maxL ret hh :: ws')
    (body : ∀ p e s m args below meth c s₁, BodyLoose p l y (headSpec ws rm) cc maxL ret e s m args below meth c s₁ → c.maxLocals = maxL → Pc args s →
      W p l e (headSpec ws rm).room s m args below meth c s.heap [] 0 0 (MQX below Qc args s mc ms free) (entryFrame m args maxL)) : MetX l y ws rm Pc Qc mc ms free := by
  refine MetFree.of_bodyS (code := cc) (maxLocals := maxL) (ret := ret) hy ?_ ?_
  · intro args s m h hn
    obtain ⟨m9, meth, c, hn9, h1, h2, h3, h4, -, h5, h6, -⟩ := Cond.codeWith_spec (atoms_spec (ws := ws) h _ (by rw [hw]; exact List.mem_cons_self))
    cases hn.symm.trans hn9
    exact ⟨meth, c, h1, h2, h3, h4, h5, h6⟩
  · intro p e s m args below meth c s₁ B hml hP _
    have hh0 : s₁.heap = s.heap := by rw [B.state]; rfl
    obtain ⟨t, a1, o, b1, b2, b3⟩ := body p e s m args below meth c s₁ B hml hP s₁ hh0 (Stand.of_body B)
    exact ⟨t, o, a1, b1, b2, b3⟩
/-- a call comes back, or throws -/
theorem goX {y : MethodName} {ws : List Cond} {rm : Room} {Pc : Array Value → State → Prop} {Qc : Array Value → State → Outcome → State → Prop} {mc ms maxL Wt len : Nat} {free : Addr → Prop} (hM : MetX l y ws rm Pc Qc mc ms free) (hrc : rm.cells = mc) (hrs : rm.slots = ms)
    (hfr : rm.frames + 1 ≤ R.frames) (hlo : Wt + (maxL + 11) + rm.locals ≤ R.locals) (X : Stand p l e R s m args below meth c T locs cells slots) {g : JFrame} (hg : g.method = m) (hsize : g.locals.size = c.maxLocals) {ig : Instr} (hdg : decode c.code g.pc = .ok (ig, len))
    (hW : 2 * g.monitorRoom + (g.stack.map fun v => v.category).sum ≤ Wt) {mk : MethodId} {a : Array Value} (hn : T.methodNamed? y = some mk) {methY : Method} {cY : Code} (hmY : T.vm.method? mk = some methY) (hcY : methY.code = some cY) (hlY : cY.maxLocals = maxL)
    (hini : (Cond.initialized y.cls).before a T = true) (hpre : (allAtoms ws).before a T = true) (hcells : cells + mc ≤ R.cells) (hslots : slots + ms ≤ R.slots) (hP : Pc a (T.calling g mk a)) :
    ∃ (o : Outcome) (t T' : State) (L : List Loc), Stand p l e R s m args below meth c T' (locs ++ L) (cells + mc) (slots + ms) ∧ T'.heap = t.heap ∧ T'.vm = t.vm ∧ (∀ q ∈ L, free q.base) ∧ Qc a (T.calling g mk a) o t ∧ Steps p.tables e below (doInvoke e (T.setTop g) [] mk a).1 t ∧
      ((∃ v, o = .returned v ∧ t = T'.setTop { g with pc := g.pc + len, stack := v.toList ++ g.stack }) ∨ (∃ x, o = .threw x ∧ t = (T'.setTop g).pushFrame (.throwing x))) := by
  obtain ⟨kY, hkY, -⟩ := className_of_methodNamed hn
  have hinitY : kY.init = .initialized := Cond.initialized_spec (findClass_of_methodNamed hn) hkY hini
  have h : At T g.method c below := by rw [hg]; exact X.here
  have happ : (headSpec ws rm).appliesLoose y e.platform (T.calling g mk a) = true :=
    Spec.appliesLoose_calling (g := g) h hdg hn hkY hinitY
      (X.room_calling (g := g) (R' := (headSpec ws rm).room) hsize hmY hcY hfr (by rw [hlY]; show _ + rm.locals ≤ _; omega) (by show _ + rm.cells ≤ _; omega) (by show _ + rm.slots ≤ _; omega)) hpre
  obtain ⟨mid, hmid⟩ := h.above
  have hfr' : (T.setTop g).frames = (.java g :: mid) ++ below := by rw [State.frames_setTop' g h.top, hmid]; rfl
  obtain ⟨o, t, hsteps, -, hend, hq, hWd, L, hsame, hL⟩ := Steps.callFree hM p X.admits X.cas X.clock (acts := []) hfr' happ hP trivial
  rw [State.frames_setTop' g h.top, X.tail] at hend
  cases o with
  | returned v =>
    obtain ⟨T', X', -, -, ht⟩ := X.outOf hg hdg (mk := mk) (a := a) hend hWd hsame
    exact ⟨.returned v, t, T', L, X', by rw [ht]; rfl, by rw [ht]; rfl, hL, hq, hsteps, Or.inl ⟨v, rfl, ht⟩⟩
  | threw x =>
    obtain ⟨T', X', -, -, ht⟩ := X.outOfThrown hg (mk := mk) (a := a) hend hWd hsame
    exact ⟨.threw x, t, T', L, X', by rw [ht]; rfl, by rw [ht]; rfl, hL, hq, hsteps, Or.inr ⟨x, rfl, ht⟩⟩
/-- an invoking instruction has linked its method, and goes into it -/
def LandX (p : Program) (l : Launch) (e : Env) (R : Room) (s : State) (m : MethodId) (args : Array Value) (below : List Frame) (meth : Method) (c : Code) (T : State) (locs : List Loc) (cells slots : Nat) (g : JFrame) (rest : List Value) (y : MethodName) (avs : Array Value) (maxL : Nat) : Prop :=
  ∃ (vm₁ : Vm) (mk : MethodId) (methM : Method) (cM : Code), s.WarmedH vm₁ ∧ Stand p l e R s m args below meth c (T.setVm vm₁) locs cells slots ∧ (T.setVm vm₁).methodNamed? y = some mk ∧ vm₁.method? mk = some methM ∧ methM.code = some cM ∧ cM.maxLocals = maxL ∧
    ∀ target, Steps p.tables e below (doInvoke e ((T.setVm vm₁).setTop { g with stack := rest }) [] mk avs).1 target → Steps p.tables e below (T.setTop g) target
theorem landV (X : Stand p l e R s m args below meth c T locs cells slots) (hexec : p.tables.exec = Jvm.exec) {own C : String} {index : Nat} {y : MethodName} {bytes : ByteArray} {maxL : Nat} {ret : Option FieldType}
    (hown : s.vm.findClass own = some m.cls) (hlink : (Cond.methodLink own index y).before args s = true) (hinst : (Cond.instanceMethod y).before args s = true) (hsel : (Cond.selects C y y).before args s = true)
    (hcode : (Cond.code y bytes maxL ret).before args s = true) (hy : y.cls ≠ "java/lang/invoke/MethodHandle" ∧ y.cls ≠ "java/lang/invoke/VarHandle")
    {b : Addr} {cellB : Cell} (hcell : T.heap[b]? = some cellB) (hobj : cellB.vm.isStatics = false) (hcls : s.vm.findClass C = some cellB.cls)
    {g : JFrame} (hg : g.method = m) {argsL rest : List Value} (hlen : (parseMethodDescriptor y.desc).map (fun d => d.parameters.length) = some argsL.length)
    (hstack : g.stack = argsL.reverse ++ .ref b :: rest) (hdg : decode c.code g.pc = .ok (.invokevirtual index, 3)) :
    LandX p l e R s m args below meth c T locs cells slots g rest y (Value.ref b :: argsL).toArray maxL := by
  obtain ⟨mk, methM, hnamed, hmethM, hstM, habM⟩ := Cond.instanceMethod_spec hinst
  obtain ⟨methM', cM, hmethM', hcM, -, hlM, -, -, -, hsigM⟩ := Cond.code_spec hnamed hcode
  cases hmethM.symm.trans hmethM'
  obtain ⟨c2, r2, m2, q1, q2, q3, q4, kP, hkP, hkPi⟩ := Cond.selects_spec hsel
  cases hcls.symm.trans q1
  cases (State.methodFound?_of_named hnamed hy).symm.trans q2
  cases hnamed.symm.trans q3
  rw [hsigM] at hlen
  have hselP : selectMethod e.platform s.vm cellB.cls mk = .method mk := by rw [Launch.admits_selectMethod X.admits]; exact q4
  obtain ⟨vm₁, X₁, hstep₁⟩ := X.invokevirtual hexec hown hlink hnamed hmethM hstM hkP hkPi hy (a := b) (cell := cellB) hcell
    (fun z h => by rw [h] at hobj; cases hobj) hselP hmethM habM hkP hkPi (g := g) hg (argsL := argsL) (rest := rest) (Option.some.inj hlen).symm hstack hdg
  refine ⟨vm₁, mk, methM, cM, X₁.warmed, X₁, X₁.named hnamed, ?_, hcM, hlM, fun target h => hstep₁ _ fun acts => by rw [doInvoke_state]; exact h⟩
  have h1 : s.vm.Alike vm₁ := X₁.warmed.alike
  rw [h1.method?]
  exact hmethM
theorem landS (X : Stand p l e R s m args below meth c T locs cells slots) (hexec : p.tables.exec = Jvm.exec) {own : String} {index : Nat} {y : MethodName} {maxL : Nat}
    (hown : s.vm.findClass own = some m.cls) (hlink : (Cond.methodLink own index y).before args s = true) (hstat : (Cond.static y).before args s = true) (hinit : (Cond.initialized y.cls).before args s = true)
    {mk : MethodId} {methM : Method} {cM : Code} (hnamed : s.methodNamed? y = some mk) (hmethM : s.vm.method? mk = some methM) (hcM : methM.code = some cM) (hlM : cM.maxLocals = maxL) (hsigM : parseMethodDescriptor y.desc = some methM.sig)
    (hy : y.cls ≠ "java/lang/invoke/MethodHandle" ∧ y.cls ≠ "java/lang/invoke/VarHandle")
    {g : JFrame} (hg : g.method = m) {argsL rest : List Value} (hlen : (parseMethodDescriptor y.desc).map (fun d => d.parameters.length) = some argsL.length)
    (hstack : g.stack = argsL.reverse ++ rest) (hdg : decode c.code g.pc = .ok (.invokestatic index, 3)) :
    LandX p l e R s m args below meth c T locs cells slots g rest y argsL.toArray maxL := by
  have hstatic : methM.isStatic = true := Cond.static_spec hnamed hmethM hstat
  obtain ⟨kP, hkP, -⟩ := className_of_methodNamed hnamed
  have hinitP : kP.init = .initialized := Cond.initialized_spec (findClass_of_methodNamed hnamed) hkP hinit
  rw [hsigM] at hlen
  obtain ⟨vm₁, X₁, hstep₁⟩ := X.invokestatic hexec hown hlink hnamed hmethM hstatic hkP hinitP hy (g := g) hg (argsL := argsL) (rest := rest) (Option.some.inj hlen).symm hstack hdg
  refine ⟨vm₁, mk, methM, cM, X₁.warmed, X₁, X₁.named hnamed, ?_, hcM, hlM, fun target h => hstep₁ _ fun acts => by rw [doInvoke_state]; exact h⟩
  have h1 : s.vm.Alike vm₁ := X₁.warmed.alike
  rw [h1.method?]
  exact hmethM
/-- through a call: what the callee leaves, and how the walk goes on -/
theorem overX {y : MethodName} {ws : List Cond} {rm : Room} {Pc : Array Value → State → Prop} {Qc : Array Value → State → Outcome → State → Prop} {mc ms maxL : Nat} {free : Addr → Prop} {cc : ByteArray} (hb : c.code = cc) (hM : MetX l y ws rm Pc Qc mc ms free) (hrc : rm.cells = mc) (hrs : rm.slots = ms)
    (hfr : rm.frames + 1 ≤ R.frames) (hlo : 8 + (maxL + 11) + rm.locals ≤ R.locals) {g : JFrame} (hg : g.method = m) (hsize : g.locals.size = c.maxLocals) {ig : Instr} (hdg : decode cc g.pc = .ok (ig, 3)) {rest : List Value} {avs : Array Value}
    (hW : 2 * g.monitorRoom + (rest.map fun v => v.category).sum ≤ 8) (hws : ∀ w ∈ ws, ∀ (a' : Array Value) (U : State), s.WarmedH U.vm → w.before a' U = true) (hini : ∀ (a' : Array Value) (U : State), s.WarmedH U.vm → (Cond.initialized y.cls).before a' U = true)
    (hland : ∀ T : State, T.heap = H → Stand p l e R s m args below meth c T locs cells slots → LandX p l e R s m args below meth c T locs cells slots g rest y avs maxL)
    (hcells : cells + mc ≤ R.cells) (hslots : slots + ms ≤ R.slots) (hP : ∀ (U : State), U.heap = H → s.WarmedH U.vm → Pc avs U)
    (kr : ∀ (v : Option Value) (st t : State) (L : List Loc), st.heap = H → s.WarmedH t.vm → Qc avs st (.returned v) t → (∀ q ∈ L, free q.base) →
      W p l e R s m args below meth c t.heap (locs ++ L) (cells + mc) (slots + ms) Q { g with pc := g.pc + 3, stack := v.toList ++ rest })
    (kt : ∀ (x : Addr) (st t : State) (L : List Loc), st.heap = H → s.WarmedH t.vm → Qc avs st (.threw x) t → (∀ q ∈ L, free q.base) →
      ∀ T' : State, T'.heap = t.heap → Stand p l e R s m args below meth c T' (locs ++ L) (cells + mc) (slots + ms) → ∃ t2, Steps p.tables e below ((T'.setTop { g with stack := rest }).pushFrame (.throwing x)) t2 ∧ Q t2) :
    W p l e R s m args below meth c H locs cells slots Q g := by
  intro T hT X
  obtain ⟨vm₁, mk, methM, cM, hW₁, X₁, hn, hm, hcM, hlM, st⟩ := hland T hT X
  obtain ⟨o, t, T', L, X', e1, e2, hL, hq, hst, hor⟩ := goX (g := { g with stack := rest }) (len := 3) (maxL := maxL) (Wt := 8) hM hrc hrs hfr hlo X₁ hg hsize (by rw [hb]; exact hdg) hW (mk := mk) (a := avs) hn hm hcM hlM (hini _ _ X₁.warmed) (atoms_intro fun w hw => hws w hw _ _ X₁.warmed) hcells hslots (hP _ (by exact hT) hW₁)
  have hWt : s.WarmedH t.vm := by rw [← e2]; exact X'.warmed
  rcases hor with ⟨v, rfl, ht⟩ | ⟨x, rfl, ht⟩
  · obtain ⟨t2, a1, b1⟩ := kr v _ t L (by exact hT) hWt hq hL T' e1 X'
    rw [ht] at hst
    exact ⟨t2, st _ (hst.trans a1), b1⟩
  · obtain ⟨t2, a1, b1⟩ := kt x _ t L (by exact hT) hWt hq hL T' e1 X'
    rw [ht] at hst
    exact ⟨t2, st _ (hst.trans a1), b1⟩
end JX
end
section
/-! The tables' words that stay true when the tables grow warmer -/
def wk : Cond → Bool
  | .declares _ => true
  | .castable _ _ => true
  | .not (.castable _ _) => true
  | .methodLinkNest .. => true
  | .arrayClass _ => true
  | c => c.onTables && c.keeps
theorem castable_warm {C T : String} {args a' : Array Value} {s U : State} (hW : s.WarmedH U.vm) (h : (Cond.castable C T).before args s = true) : (Cond.castable C T).before a' U = true := by
  obtain ⟨c, t, h1, h2, h3⟩ := Cond.castable_spec h
  have hal := hW.alike
  have g1 : U.vm.findClass C = some c := by rw [hal.findClass]; exact h1
  have g2 : U.vm.findClass T = some t := by rw [hal.findClass]; exact h2
  have g3 : U.vm.assignable c t = true := by rw [hal.assignable]; exact h3
  simp [Cond.before, Cond.holds, Cond.value, g1, g2, g3]
theorem notcast_warm {C T : String} {args a' : Array Value} {s U : State} (hW : s.WarmedH U.vm) (h : (Cond.not (.castable C T)).before args s = true) : (Cond.not (.castable C T)).before a' U = true := by
  obtain ⟨c, t, h1, h2, h3⟩ := va_Nc.of h
  have hal := hW.alike
  have g1 : U.vm.findClass C = some c := by rw [hal.findClass]; exact h1
  have g2 : U.vm.findClass T = some t := by rw [hal.findClass]; exact h2
  have g3 : U.vm.assignable c t = false := by rw [hal.assignable]; exact h3
  simp [Cond.before, Cond.holds, Cond.value, g1, g2, g3]
theorem wk_ok {w : Cond} (hk : wk w = true) {args a' : Array Value} {s U : State} (hW : s.WarmedH U.vm) (h : w.before args s = true) : w.before a' U = true := by
  unfold wk at hk
  split at hk
  · exact va_Nw.use rfl (va_Nw.warmD hW (va_Nw.of rfl h))
  · exact castable_warm hW h
  · exact notcast_warm hW h
  · exact va_Nw.use rfl (va_Nw.warmM hW (va_Nw.of rfl h))
  · exact word_at hW (Or.inr ⟨_, rfl⟩) h
  · exact word_at hW (Or.inl hk) h
def LW : List Cond := lw_tbl.filter wk
theorem lw_ok (w : Cond) (h : w ∈ LW) {args a' : Array Value} {s U : State} (hW : s.WarmedH U.vm) (hb : w.before args s = true) : w.before a' U = true := wk_ok (List.mem_filter.mp h).2 hW hb
theorem tb (i : Nat) {w : Cond} (h : tables_1[i]? = some w) (hk : wk w = true) : w ∈ LW := List.mem_filter.mpr ⟨List.mem_append_right _ (List.mem_of_getElem? h), hk⟩
theorem tp {q : MethodName × Nat} (i : Nat) (h : lw_privs[i]? = some q) (hk : wk (.selects q.1.cls q.1 q.1) = true) : Cond.selects q.1.cls q.1 q.1 ∈ LW := List.mem_filter.mpr ⟨List.mem_append_left _ (List.mem_map.mpr ⟨q, List.mem_of_getElem? h, rfl⟩), hk⟩
theorem lw_sub {args : Array Value} {s : State} (h : ∀ w ∈ lw_tbl, w.before args s = true) : ∀ w ∈ LW, w.before args s = true := fun w hw => h w (List.mem_filter.mp hw).1
theorem cl_in_ok : ∀ w ∈ (u_ws "LineCollector" fT_C 11 ++ (u_ws "LineCollector$Places" fT_P 5 ++ (u_ws "LineCollector$Span" fT_S 3 ++ (u_ws "LineCollector$Log" fT_G 4 ++ (u_ws "LineCollector$Row" fT_W 3 ++ (u_ws "LineCollector$Item" fT_I 7 ++ u_ws "LineCollectorModel" fT_M 31)))))), w ∈ tables_1 ∧ wk w = true := by decide +kernel
theorem cl_in_w {w : Cond} (h : w ∈ (u_ws "LineCollector" fT_C 11 ++ (u_ws "LineCollector$Places" fT_P 5 ++ (u_ws "LineCollector$Span" fT_S 3 ++ (u_ws "LineCollector$Log" fT_G 4 ++ (u_ws "LineCollector$Row" fT_W 3 ++ (u_ws "LineCollector$Item" fT_I 7 ++ u_ws "LineCollectorModel" fT_M 31))))))) : w ∈ LW := List.mem_filter.mpr ⟨List.mem_append_right _ (cl_in_ok w h).1, (cl_in_ok w h).2⟩
theorem cl_in {ci : Nat} {q : vw_C} (h : CL[ci]? = some q) : ∀ w ∈ u_ws q.1 q.2.1 q.2.2, w ∈ LW := by
  refine cl_ind (P := fun _ q => ∀ w ∈ u_ws q.1 q.2.1 q.2.2, w ∈ LW) ?_ ?_ ?_ ?_ ?_ ?_ ?_ (fun _ _ _ w hw => by cases hw) h
  · exact fun w hw => cl_in_w (List.mem_append_left _ hw)
  · exact fun w hw => cl_in_w (List.mem_append_right _ (List.mem_append_left _ hw))
  · exact fun w hw => cl_in_w (List.mem_append_right _ (List.mem_append_right _ (List.mem_append_left _ hw)))
  · exact fun w hw => cl_in_w (List.mem_append_right _ (List.mem_append_right _ (List.mem_append_right _ (List.mem_append_left _ hw))))
  · exact fun w hw => cl_in_w (List.mem_append_right _ (List.mem_append_right _ (List.mem_append_right _ (List.mem_append_right _ (List.mem_append_left _ hw)))))
  · exact fun w hw => cl_in_w (List.mem_append_right _ (List.mem_append_right _ (List.mem_append_right _ (List.mem_append_right _ (List.mem_append_right _ (List.mem_append_left _ hw))))))
  · exact fun w hw => cl_in_w (List.mem_append_right _ (List.mem_append_right _ (List.mem_append_right _ (List.mem_append_right _ (List.mem_append_right _ (List.mem_append_right _ hw))))))
set_option maxRecDepth 20000 in
theorem k_39 {a : Array Value} {s : State} (h : ∀ w ∈ LW, w.before a s = true) : (Jvm.Cond.fieldLink "LineCollector$Span" 9 "LineCollector$Span" "start" "I").before a s = true := h _ (tb 39 rfl rfl)
set_option maxRecDepth 20000 in
theorem k_40 {a : Array Value} {s : State} (h : ∀ w ∈ LW, w.before a s = true) : (Jvm.Cond.fieldLink "LineCollector$Span" 15 "LineCollector$Span" "cursor" "I").before a s = true := h _ (tb 40 rfl rfl)
set_option maxRecDepth 20000 in
theorem k_41 {a : Array Value} {s : State} (h : ∀ w ∈ LW, w.before a s = true) : (Jvm.Cond.fieldLink "LineCollector$Span" 18 "LineCollector$Span" "end" "I").before a s = true := h _ (tb 41 rfl rfl)
set_option maxRecDepth 20000 in
theorem k_51 {a : Array Value} {s : State} (h : ∀ w ∈ LW, w.before a s = true) : (Jvm.Cond.fieldLink "LineCollector$Places" 9 "LineCollector$Places" "cellsOwned" "[I").before a s = true := h _ (tb 51 rfl rfl)
set_option maxRecDepth 20000 in
theorem k_52 {a : Array Value} {s : State} (h : ∀ w ∈ LW, w.before a s = true) : (Jvm.Cond.fieldLink "LineCollector$Places" 15 "LineCollector$Places" "movedOut" "[Z").before a s = true := h _ (tb 52 rfl rfl)
set_option maxRecDepth 20000 in
theorem k_53 {a : Array Value} {s : State} (h : ∀ w ∈ LW, w.before a s = true) : (Jvm.Cond.fieldLink "LineCollector$Places" 22 "LineCollector$Places" "hole" "LLineCollector$Span;").before a s = true := h _ (tb 53 rfl rfl)
set_option maxRecDepth 20000 in
theorem k_54 {a : Array Value} {s : State} (h : ∀ w ∈ LW, w.before a s = true) : (Jvm.Cond.fieldLink "LineCollector$Places" 26 "LineCollector$Places" "overflow" "LLineCollector$Span;").before a s = true := h _ (tb 54 rfl rfl)
set_option maxRecDepth 20000 in
theorem k_55 {a : Array Value} {s : State} (h : ∀ w ∈ LW, w.before a s = true) : (Jvm.Cond.fieldLink "LineCollector$Places" 29 "LineCollector$Places" "shutBlock" "I").before a s = true := h _ (tb 55 rfl rfl)
set_option maxRecDepth 20000 in
theorem k_74 {a : Array Value} {s : State} (h : ∀ w ∈ LW, w.before a s = true) : (Jvm.Cond.fieldLink "LineCollector$Log" 11 "LineCollector$Log" "items" "[LLineCollector$Item;").before a s = true := h _ (tb 74 rfl rfl)
set_option maxRecDepth 20000 in
theorem k_75 {a : Array Value} {s : State} (h : ∀ w ∈ LW, w.before a s = true) : (Jvm.Cond.fieldLink "LineCollector$Log" 17 "LineCollector$Log" "fields" "[I").before a s = true := h _ (tb 75 rfl rfl)
set_option maxRecDepth 20000 in
theorem k_76 {a : Array Value} {s : State} (h : ∀ w ∈ LW, w.before a s = true) : (Jvm.Cond.fieldLink "LineCollector$Log" 21 "LineCollector$Log" "before" "[LLineCollector$Item;").before a s = true := h _ (tb 76 rfl rfl)
set_option maxRecDepth 20000 in
theorem k_77 {a : Array Value} {s : State} (h : ∀ w ∈ LW, w.before a s = true) : (Jvm.Cond.fieldLink "LineCollector$Log" 24 "LineCollector$Log" "length" "I").before a s = true := h _ (tb 77 rfl rfl)
set_option maxRecDepth 20000 in
theorem k_78 {a : Array Value} {s : State} (h : ∀ w ∈ LW, w.before a s = true) : (Jvm.Cond.fieldLink "LineCollector" 184 "LineCollector$Log" "length" "I").before a s = true := h _ (tb 78 rfl rfl)
set_option maxRecDepth 20000 in
theorem k_95 {a : Array Value} {s : State} (h : ∀ w ∈ LW, w.before a s = true) : (Jvm.Cond.fieldLink "LineCollector$Row" 11 "LineCollector$Row" "items" "[LLineCollector$Item;").before a s = true := h _ (tb 95 rfl rfl)
set_option maxRecDepth 20000 in
theorem k_96 {a : Array Value} {s : State} (h : ∀ w ∈ LW, w.before a s = true) : (Jvm.Cond.fieldLink "LineCollector$Row" 21 "LineCollector$Row" "first" "I").before a s = true := h _ (tb 96 rfl rfl)
set_option maxRecDepth 20000 in
theorem k_97 {a : Array Value} {s : State} (h : ∀ w ∈ LW, w.before a s = true) : (Jvm.Cond.fieldLink "LineCollector$Row" 17 "LineCollector$Row" "length" "I").before a s = true := h _ (tb 97 rfl rfl)
set_option maxRecDepth 20000 in
theorem k_98 {a : Array Value} {s : State} (h : ∀ w ∈ LW, w.before a s = true) : (Jvm.Cond.fieldLink "LineCollector" 95 "LineCollector$Row" "length" "I").before a s = true := h _ (tb 98 rfl rfl)
set_option maxRecDepth 20000 in
theorem k_106 {a : Array Value} {s : State} (h : ∀ w ∈ LW, w.before a s = true) : (Jvm.Cond.fieldLink "LineCollector" 11 "LineCollector" "roots" "[LLineCollector$Item;").before a s = true := h _ (tb 106 rfl rfl)
set_option maxRecDepth 20000 in
theorem k_107 {a : Array Value} {s : State} (h : ∀ w ∈ LW, w.before a s = true) : (Jvm.Cond.fieldLink "LineCollector" 15 "LineCollector" "rootsAtLastPause" "[LLineCollector$Item;").before a s = true := h _ (tb 107 rfl rfl)
set_option maxRecDepth 20000 in
theorem k_108 {a : Array Value} {s : State} (h : ∀ w ∈ LW, w.before a s = true) : (Jvm.Cond.fieldLink "LineCollector" 18 "LineCollector" "itemAt" "[LLineCollector$Item;").before a s = true := h _ (tb 108 rfl rfl)
set_option maxRecDepth 20000 in
theorem k_109 {a : Array Value} {s : State} (h : ∀ w ∈ LW, w.before a s = true) : (Jvm.Cond.fieldLink "LineCollector" 24 "LineCollector" "places" "LLineCollector$Places;").before a s = true := h _ (tb 109 rfl rfl)
set_option maxRecDepth 20000 in
theorem k_110 {a : Array Value} {s : State} (h : ∀ w ∈ LW, w.before a s = true) : (Jvm.Cond.fieldLink "LineCollector" 31 "LineCollector" "log" "LLineCollector$Log;").before a s = true := h _ (tb 110 rfl rfl)
set_option maxRecDepth 20000 in
theorem k_111 {a : Array Value} {s : State} (h : ∀ w ∈ LW, w.before a s = true) : (Jvm.Cond.fieldLink "LineCollector" 38 "LineCollector" "waiting" "LLineCollector$Row;").before a s = true := h _ (tb 111 rfl rfl)
set_option maxRecDepth 20000 in
theorem k_112 {a : Array Value} {s : State} (h : ∀ w ∈ LW, w.before a s = true) : (Jvm.Cond.fieldLink "LineCollector" 42 "LineCollector" "slots" "LLineCollector$Row;").before a s = true := h _ (tb 112 rfl rfl)
set_option maxRecDepth 20000 in
theorem k_113 {a : Array Value} {s : State} (h : ∀ w ∈ LW, w.before a s = true) : (Jvm.Cond.fieldLink "LineCollector" 99 "LineCollector" "traceRuns" "Z").before a s = true := h _ (tb 113 rfl rfl)
set_option maxRecDepth 20000 in
theorem k_114 {a : Array Value} {s : State} (h : ∀ w ∈ LW, w.before a s = true) : (Jvm.Cond.fieldLink "LineCollector" 113 "LineCollector" "pauses" "I").before a s = true := h _ (tb 114 rfl rfl)
set_option maxRecDepth 20000 in
theorem k_115 {a : Array Value} {s : State} (h : ∀ w ∈ LW, w.before a s = true) : (Jvm.Cond.fieldLink "LineCollector" 185 "LineCollector" "moves" "I").before a s = true := h _ (tb 115 rfl rfl)
set_option maxRecDepth 20000 in
theorem k_116 {a : Array Value} {s : State} (h : ∀ w ∈ LW, w.before a s = true) : (Jvm.Cond.fieldLink "LineCollector" 188 "LineCollector" "goneAsWhite" "I").before a s = true := h _ (tb 116 rfl rfl)
set_option maxRecDepth 20000 in
theorem k_140 {a : Array Value} {s : State} (h : ∀ w ∈ LW, w.before a s = true) : (Jvm.Cond.methodLink "LineCollectorLaw" 97 ⟨"LineCollector", "pause", "(Z)I"⟩).before a s = true := h _ (tb 140 rfl rfl)
set_option maxRecDepth 20000 in
theorem k_144 {a : Array Value} {s : State} (h : ∀ w ∈ LW, w.before a s = true) : (Jvm.Cond.constant "LineCollector" 116 (1000000 : Int32)).before a s = true := h _ (tb 144 rfl rfl)
set_option maxRecDepth 20000 in
theorem k_145 {a : Array Value} {s : State} (h : ∀ w ∈ LW, w.before a s = true) : (Jvm.Cond.methodLink "LineCollector" 91 ⟨"LineCollector", "drainUpTo", "(I)V"⟩).before a s = true := h _ (tb 145 rfl rfl)
set_option maxRecDepth 20000 in
theorem k_149 {a : Array Value} {s : State} (h : ∀ w ∈ LW, w.before a s = true) : (Jvm.Cond.methodLink "LineCollector" 207 ⟨"LineCollector$Row", "takeFirst", "()LLineCollector$Item;"⟩).before a s = true := h _ (tb 149 rfl rfl)
set_option maxRecDepth 20000 in
theorem k_153 {a : Array Value} {s : State} (h : ∀ w ∈ LW, w.before a s = true) : (Jvm.Cond.methodLink "LineCollector" 211 ⟨"LineCollector", "letGo", "(LLineCollector$Item;)V"⟩).before a s = true := h _ (tb 153 rfl rfl)
set_option maxRecDepth 20000 in
theorem k_157 {a : Array Value} {s : State} (h : ∀ w ∈ LW, w.before a s = true) : (Jvm.Cond.methodLink "LineCollector" 215 ⟨"LineCollector", "remove", "(LLineCollector$Item;)V"⟩).before a s = true := h _ (tb 157 rfl rfl)
set_option maxRecDepth 20000 in
theorem k_161 {a : Array Value} {s : State} (h : ∀ w ∈ LW, w.before a s = true) : (Jvm.Cond.methodLink "LineCollector" 200 ⟨"LineCollector$Places", "vacate", "(II)V"⟩).before a s = true := h _ (tb 161 rfl rfl)
set_option maxRecDepth 20000 in
theorem k_165 {a : Array Value} {s : State} (h : ∀ w ∈ LW, w.before a s = true) : (Jvm.Cond.methodLink "LineCollector" 218 ⟨"LineCollector$Row", "add", "(LLineCollector$Item;)V"⟩).before a s = true := h _ (tb 165 rfl rfl)
set_option maxRecDepth 20000 in
theorem k_169 {a : Array Value} {s : State} (h : ∀ w ∈ LW, w.before a s = true) : (Jvm.Cond.methodLink "LineCollector" 220 ⟨"LineCollector$Item", "turnGreyIfWhite", "()V"⟩).before a s = true := h _ (tb 169 rfl rfl)
set_option maxRecDepth 20000 in
theorem k_173 {a : Array Value} {s : State} (h : ∀ w ∈ LW, w.before a s = true) : (Jvm.Cond.methodLink "LineCollector$Item" 36 ⟨"LineCollector$Item", "isWhite", "()Z"⟩).before a s = true := h _ (tb 173 rfl rfl)
set_option maxRecDepth 20000 in
theorem k_177 {a : Array Value} {s : State} (h : ∀ w ∈ LW, w.before a s = true) : (Jvm.Cond.methodLink "LineCollector$Item" 29 ⟨"LineCollector$Item", "isOld", "()Z"⟩).before a s = true := h _ (tb 177 rfl rfl)
set_option maxRecDepth 20000 in
theorem k_181 {a : Array Value} {s : State} (h : ∀ w ∈ LW, w.before a s = true) : (Jvm.Cond.methodLink "LineCollector" 117 ⟨"LineCollector$Places", "close", "()V"⟩).before a s = true := h _ (tb 181 rfl rfl)
set_option maxRecDepth 20000 in
theorem k_185 {a : Array Value} {s : State} (h : ∀ w ∈ LW, w.before a s = true) : (Jvm.Cond.methodLink "LineCollector$Places" 37 ⟨"LineCollector$Span", "open", "(II)V"⟩).before a s = true := h _ (tb 185 rfl rfl)
set_option maxRecDepth 20000 in
theorem k_189 {a : Array Value} {s : State} (h : ∀ w ∈ LW, w.before a s = true) : (Jvm.Cond.methodLink "LineCollector" 120 ⟨"LineCollector", "countSlots", "()I"⟩).before a s = true := h _ (tb 189 rfl rfl)
set_option maxRecDepth 20000 in
theorem k_193 {a : Array Value} {s : State} (h : ∀ w ∈ LW, w.before a s = true) : (Jvm.Cond.methodLink "LineCollector" 229 ⟨"LineCollector", "gatherSlots", "()V"⟩).before a s = true := h _ (tb 193 rfl rfl)
set_option maxRecDepth 20000 in
theorem k_197 {a : Array Value} {s : State} (h : ∀ w ∈ LW, w.before a s = true) : (Jvm.Cond.methodLink "LineCollector" 253 ⟨"LineCollector$Row", "clear", "()V"⟩).before a s = true := h _ (tb 197 rfl rfl)
set_option maxRecDepth 20000 in
theorem k_201 {a : Array Value} {s : State} (h : ∀ w ∈ LW, w.before a s = true) : (Jvm.Cond.methodLink "LineCollector" 256 ⟨"LineCollector$Log", "heldNow", "(I)LLineCollector$Item;"⟩).before a s = true := h _ (tb 201 rfl rfl)
set_option maxRecDepth 20000 in
theorem k_205 {a : Array Value} {s : State} (h : ∀ w ∈ LW, w.before a s = true) : (Jvm.Cond.methodLink "LineCollector" 232 ⟨"LineCollector$Row", "get", "(I)LLineCollector$Item;"⟩).before a s = true := h _ (tb 205 rfl rfl)
set_option maxRecDepth 20000 in
theorem k_209 {a : Array Value} {s : State} (h : ∀ w ∈ LW, w.before a s = true) : (Jvm.Cond.methodLink "LineCollector" 80 ⟨"LineCollector$Item", "isOld", "()Z"⟩).before a s = true := h _ (tb 209 rfl rfl)
set_option maxRecDepth 20000 in
theorem k_210 {a : Array Value} {s : State} (h : ∀ w ∈ LW, w.before a s = true) : (Jvm.Cond.methodLink "LineCollector" 235 ⟨"java/lang/Math", "min", "(II)I"⟩).before a s = true := h _ (tb 210 rfl rfl)
set_option maxRecDepth 20000 in
theorem k_213 {a : Array Value} {s : State} (h : ∀ w ∈ LW, w.before a s = true) : (Jvm.Cond.methodLink "LineCollector" 241 ⟨"LineCollector$Item", "growOld", "(I)V"⟩).before a s = true := h _ (tb 213 rfl rfl)
set_option maxRecDepth 20000 in
theorem k_217 {a : Array Value} {s : State} (h : ∀ w ∈ LW, w.before a s = true) : (Jvm.Cond.methodLink "LineCollector" 52 ⟨"LineCollector$Places", "find", "(I)I"⟩).before a s = true := h _ (tb 217 rfl rfl)
set_option maxRecDepth 20000 in
theorem k_221 {a : Array Value} {s : State} (h : ∀ w ∈ LW, w.before a s = true) : (Jvm.Cond.methodLink "LineCollector$Places" 41 ⟨"LineCollector$Span", "has", "(I)Z"⟩).before a s = true := h _ (tb 221 rfl rfl)
set_option maxRecDepth 20000 in
theorem k_225 {a : Array Value} {s : State} (h : ∀ w ∈ LW, w.before a s = true) : (Jvm.Cond.methodLink "LineCollector$Places" 44 ⟨"LineCollector$Span", "take", "(I)I"⟩).before a s = true := h _ (tb 225 rfl rfl)
set_option maxRecDepth 20000 in
theorem k_229 {a : Array Value} {s : State} (h : ∀ w ∈ LW, w.before a s = true) : (Jvm.Cond.methodLink "LineCollector$Places" 48 ⟨"LineCollector$Places", "openHole", "()Z"⟩).before a s = true := h _ (tb 229 rfl rfl)
set_option maxRecDepth 20000 in
theorem k_233 {a : Array Value} {s : State} (h : ∀ w ∈ LW, w.before a s = true) : (Jvm.Cond.methodLink "LineCollector$Places" 55 ⟨"LineCollector$Span", "endLine", "()I"⟩).before a s = true := h _ (tb 233 rfl rfl)
set_option maxRecDepth 20000 in
theorem k_237 {a : Array Value} {s : State} (h : ∀ w ∈ LW, w.before a s = true) : (Jvm.Cond.methodLink "LineCollector$Places" 59 ⟨"LineCollector$Places", "isFree", "(I)Z"⟩).before a s = true := h _ (tb 237 rfl rfl)
set_option maxRecDepth 20000 in
theorem k_241 {a : Array Value} {s : State} (h : ∀ w ∈ LW, w.before a s = true) : (Jvm.Cond.methodLink "LineCollector$Places" 33 ⟨"LineCollector$Span", "covers", "(I)Z"⟩).before a s = true := h _ (tb 241 rfl rfl)
set_option maxRecDepth 20000 in
theorem k_245 {a : Array Value} {s : State} (h : ∀ w ∈ LW, w.before a s = true) : (Jvm.Cond.methodLink "LineCollector$Places" 52 ⟨"LineCollector$Places", "openOverflow", "()Z"⟩).before a s = true := h _ (tb 245 rfl rfl)
set_option maxRecDepth 20000 in
theorem k_249 {a : Array Value} {s : State} (h : ∀ w ∈ LW, w.before a s = true) : (Jvm.Cond.methodLink "LineCollector" 244 ⟨"LineCollector", "moveTo", "(LLineCollector$Item;I)V"⟩).before a s = true := h _ (tb 249 rfl rfl)
set_option maxRecDepth 20000 in
theorem k_253 {a : Array Value} {s : State} (h : ∀ w ∈ LW, w.before a s = true) : (Jvm.Cond.methodLink "LineCollector" 197 ⟨"LineCollector$Places", "moveOut", "(II)V"⟩).before a s = true := h _ (tb 253 rfl rfl)
set_option maxRecDepth 20000 in
theorem k_257 {a : Array Value} {s : State} (h : ∀ w ∈ LW, w.before a s = true) : (Jvm.Cond.methodLink "LineCollector" 65 ⟨"LineCollector", "settle", "(LLineCollector$Item;I)V"⟩).before a s = true := h _ (tb 257 rfl rfl)
set_option maxRecDepth 20000 in
theorem k_261 {a : Array Value} {s : State} (h : ∀ w ∈ LW, w.before a s = true) : (Jvm.Cond.methodLink "LineCollector" 194 ⟨"LineCollector$Places", "occupy", "(II)V"⟩).before a s = true := h _ (tb 261 rfl rfl)
set_option maxRecDepth 20000 in
theorem k_265 {a : Array Value} {s : State} (h : ∀ w ∈ LW, w.before a s = true) : (Jvm.Cond.methodLink "LineCollector" 247 ⟨"LineCollector", "addFieldsToSlots", "(LLineCollector$Item;)V"⟩).before a s = true := h _ (tb 265 rfl rfl)
set_option maxRecDepth 20000 in
theorem k_269 {a : Array Value} {s : State} (h : ∀ w ∈ LW, w.before a s = true) : (Jvm.Cond.methodLink "LineCollector" 250 ⟨"LineCollector$Places", "forgetMovedOut", "()V"⟩).before a s = true := h _ (tb 269 rfl rfl)
set_option maxRecDepth 20000 in
theorem k_273 {a : Array Value} {s : State} (h : ∀ w ∈ LW, w.before a s = true) : (Jvm.Cond.methodLink "LineCollector" 123 ⟨"LineCollector", "loseYoung", "()V"⟩).before a s = true := h _ (tb 273 rfl rfl)
set_option maxRecDepth 20000 in
theorem k_277 {a : Array Value} {s : State} (h : ∀ w ∈ LW, w.before a s = true) : (Jvm.Cond.methodLink "LineCollector" 126 ⟨"LineCollector", "queueRootsAndLog", "()V"⟩).before a s = true := h _ (tb 277 rfl rfl)
set_option maxRecDepth 20000 in
theorem k_281 {a : Array Value} {s : State} (h : ∀ w ∈ LW, w.before a s = true) : (Jvm.Cond.methodLink "LineCollector" 259 ⟨"LineCollector$Log", "heldBefore", "(I)LLineCollector$Item;"⟩).before a s = true := h _ (tb 281 rfl rfl)
set_option maxRecDepth 20000 in
theorem k_285 {a : Array Value} {s : State} (h : ∀ w ∈ LW, w.before a s = true) : (Jvm.Cond.methodLink "LineCollector" 262 ⟨"LineCollector$Log", "clear", "()V"⟩).before a s = true := h _ (tb 285 rfl rfl)
set_option maxRecDepth 20000 in
theorem k_289 {a : Array Value} {s : State} (h : ∀ w ∈ LW, w.before a s = true) : (Jvm.Cond.methodLink "LineCollector" 109 ⟨"LineCollector", "countGrey", "()I"⟩).before a s = true := h _ (tb 289 rfl rfl)
set_option maxRecDepth 20000 in
theorem k_293 {a : Array Value} {s : State} (h : ∀ w ∈ LW, w.before a s = true) : (Jvm.Cond.methodLink "LineCollector" 129 ⟨"LineCollector", "loseWhite", "()V"⟩).before a s = true := h _ (tb 293 rfl rfl)
set_option maxRecDepth 20000 in
theorem k_297 {a : Array Value} {s : State} (h : ∀ w ∈ LW, w.before a s = true) : (Jvm.Cond.methodLink "LineCollector" 263 ⟨"LineCollector$Item", "isWhite", "()Z"⟩).before a s = true := h _ (tb 297 rfl rfl)
set_option maxRecDepth 20000 in
theorem k_298 {a : Array Value} {s : State} (h : ∀ w ∈ LW, w.before a s = true) : (Jvm.Cond.methodLink "LineCollector" 132 ⟨"LineCollector", "recountStuck", "()V"⟩).before a s = true := h _ (tb 298 rfl rfl)
set_option maxRecDepth 20000 in
theorem k_302 {a : Array Value} {s : State} (h : ∀ w ∈ LW, w.before a s = true) : (Jvm.Cond.methodLink "LineCollector" 266 ⟨"LineCollector", "countHolders", "(LLineCollector$Item;)I"⟩).before a s = true := h _ (tb 302 rfl rfl)
set_option maxRecDepth 20000 in
theorem k_306 {a : Array Value} {s : State} (h : ∀ w ∈ LW, w.before a s = true) : (Jvm.Cond.methodLink "LineCollector" 269 ⟨"LineCollector$Row", "countOf", "(LLineCollector$Item;)I"⟩).before a s = true := h _ (tb 306 rfl rfl)
set_option maxRecDepth 20000 in
theorem k_310 {a : Array Value} {s : State} (h : ∀ w ∈ LW, w.before a s = true) : (Jvm.Cond.methodLink "LineCollector" 272 ⟨"LineCollector$Item", "countFieldsHolding", "(LLineCollector$Item;)I"⟩).before a s = true := h _ (tb 310 rfl rfl)
set_option maxRecDepth 20000 in
theorem k_314 {a : Array Value} {s : State} (h : ∀ w ∈ LW, w.before a s = true) : (Jvm.Cond.methodLink "LineCollector" 135 ⟨"LineCollector", "whitenAll", "()V"⟩).before a s = true := h _ (tb 314 rfl rfl)
set_option maxRecDepth 20000 in
theorem k_318 {a : Array Value} {s : State} (h : ∀ w ∈ LW, w.before a s = true) : (Jvm.Cond.methodLink "LineCollector" 138 ⟨"LineCollector", "clearSparsestBlock", "()V"⟩).before a s = true := h _ (tb 318 rfl rfl)
set_option maxRecDepth 20000 in
theorem k_322 {a : Array Value} {s : State} (h : ∀ w ∈ LW, w.before a s = true) : (Jvm.Cond.methodLink "LineCollector" 275 ⟨"LineCollector$Places", "sparsestBlock", "()I"⟩).before a s = true := h _ (tb 322 rfl rfl)
set_option maxRecDepth 20000 in
theorem k_326 {a : Array Value} {s : State} (h : ∀ w ∈ LW, w.before a s = true) : (Jvm.Cond.methodLink "LineCollector$Places" 62 ⟨"LineCollector$Places", "usedLines", "(I)I"⟩).before a s = true := h _ (tb 326 rfl rfl)
set_option maxRecDepth 20000 in
theorem k_330 {a : Array Value} {s : State} (h : ∀ w ∈ LW, w.before a s = true) : (Jvm.Cond.methodLink "LineCollector$Places" 65 ⟨"LineCollector$Places", "isUsed", "(I)Z"⟩).before a s = true := h _ (tb 330 rfl rfl)
set_option maxRecDepth 20000 in
theorem k_334 {a : Array Value} {s : State} (h : ∀ w ∈ LW, w.before a s = true) : (Jvm.Cond.methodLink "LineCollector" 278 ⟨"LineCollector$Places", "shut", "(I)V"⟩).before a s = true := h _ (tb 334 rfl rfl)
set_option maxRecDepth 20000 in
theorem k_338 {a : Array Value} {s : State} (h : ∀ w ∈ LW, w.before a s = true) : (Jvm.Cond.methodLink "LineCollector" 141 ⟨"LineCollector", "beginTrace", "()V"⟩).before a s = true := h _ (tb 338 rfl rfl)
set_option maxRecDepth 20000 in
theorem k_342 {a : Array Value} {s : State} (h : ∀ w ∈ LW, w.before a s = true) : (Jvm.Cond.methodLink "LineCollector" 144 ⟨"LineCollector", "rememberRoots", "()V"⟩).before a s = true := h _ (tb 342 rfl rfl)
set_option maxRecDepth 20000 in
theorem k_346 {a : Array Value} {s : State} (h : ∀ w ∈ LW, w.before a s = true) : (Jvm.Cond.methodLink "LineCollectorLaw" 65 ⟨"LineCollectorLaw", "allocate", "(LLineCollector;III[J)I"⟩).before a s = true := h _ (tb 346 rfl rfl)
set_option maxRecDepth 20000 in
theorem k_349 {a : Array Value} {s : State} (h : ∀ w ∈ LW, w.before a s = true) : (Jvm.Cond.classLink "LineCollectorLaw" 13 "java/lang/IllegalArgumentException").before a s = true := h _ (tb 349 rfl rfl)
set_option maxRecDepth 20000 in
theorem k_350 {a : Array Value} {s : State} (h : ∀ w ∈ LW, w.before a s = true) : (Jvm.Cond.classLink "LineCollectorLaw" 15 "java/lang/UnsupportedOperationException").before a s = true := h _ (tb 350 rfl rfl)
set_option maxRecDepth 20000 in
theorem k_351 {a : Array Value} {s : State} (h : ∀ w ∈ LW, w.before a s = true) : (Jvm.Cond.methodLink "LineCollectorLaw" 7 ⟨"LineCollector", "allocate", "(III)I"⟩).before a s = true := h _ (tb 351 rfl rfl)
set_option maxRecDepth 20000 in
theorem k_355 {a : Array Value} {s : State} (h : ∀ w ∈ LW, w.before a s = true) : (Jvm.Cond.methodLink "LineCollector" 45 ⟨"LineCollector", "isRoot", "(I)Z"⟩).before a s = true := h _ (tb 355 rfl rfl)
set_option maxRecDepth 20000 in
theorem k_358 {a : Array Value} {s : State} (h : ∀ w ∈ LW, w.before a s = true) : (Jvm.Cond.classLink "LineCollector" 49 "java/lang/IllegalArgumentException").before a s = true := h _ (tb 358 rfl rfl)
set_option maxRecDepth 20000 in
theorem k_360 {a : Array Value} {s : State} (h : ∀ w ∈ LW, w.before a s = true) : (Jvm.Cond.castable "java/lang/IllegalArgumentException" "java/lang/IllegalArgumentException").before a s = true := h _ (tb 360 rfl rfl)
set_option maxRecDepth 20000 in
theorem k_423 {a : Array Value} {s : State} (h : ∀ w ∈ LW, w.before a s = true) : (Jvm.Cond.methodLink "LineCollector" 56 ⟨"LineCollector", "collect", "()V"⟩).before a s = true := h _ (tb 423 rfl rfl)
set_option maxRecDepth 20000 in
theorem k_427 {a : Array Value} {s : State} (h : ∀ w ∈ LW, w.before a s = true) : (Jvm.Cond.methodLink "LineCollector" 203 ⟨"LineCollector", "pause", "(Z)I"⟩).before a s = true := h _ (tb 427 rfl rfl)
set_option maxRecDepth 20000 in
theorem k_428 {a : Array Value} {s : State} (h : ∀ w ∈ LW, w.before a s = true) : (Jvm.Cond.methodLink "LineCollector" 106 ⟨"LineCollector", "stepUpTo", "(I)V"⟩).before a s = true := h _ (tb 428 rfl rfl)
set_option maxRecDepth 20000 in
theorem k_432 {a : Array Value} {s : State} (h : ∀ w ∈ LW, w.before a s = true) : (Jvm.Cond.methodLink "LineCollector" 223 ⟨"LineCollector", "blackenFirstGrey", "()Z"⟩).before a s = true := h _ (tb 432 rfl rfl)
set_option maxRecDepth 20000 in
theorem k_436 {a : Array Value} {s : State} (h : ∀ w ∈ LW, w.before a s = true) : (Jvm.Cond.methodLink "LineCollector" 226 ⟨"LineCollector", "blacken", "(LLineCollector$Item;)V"⟩).before a s = true := h _ (tb 436 rfl rfl)
set_option maxRecDepth 20000 in
theorem k_439 {a : Array Value} {s : State} (h : ∀ w ∈ LW, w.before a s = true) : (Jvm.Cond.classLink "LineCollector" 59 "java/lang/UnsupportedOperationException").before a s = true := h _ (tb 439 rfl rfl)
set_option maxRecDepth 20000 in
theorem k_441 {a : Array Value} {s : State} (h : ∀ w ∈ LW, w.before a s = true) : (Jvm.Cond.castable "java/lang/UnsupportedOperationException" "java/lang/UnsupportedOperationException").before a s = true := h _ (tb 441 rfl rfl)
set_option maxRecDepth 20000 in
theorem k_460 {a : Array Value} {s : State} (h : ∀ w ∈ LW, w.before a s = true) : (Jvm.Cond.fieldLink "LineCollector$Item" 9 "LineCollector$Item" "size" "I").before a s = true := h _ (tb 460 rfl rfl)
set_option maxRecDepth 20000 in
theorem k_461 {a : Array Value} {s : State} (h : ∀ w ∈ LW, w.before a s = true) : (Jvm.Cond.fieldLink "LineCollector" 160 "LineCollector$Item" "size" "I").before a s = true := h _ (tb 461 rfl rfl)
set_option maxRecDepth 20000 in
theorem k_463 {a : Array Value} {s : State} (h : ∀ w ∈ LW, w.before a s = true) : (Jvm.Cond.fieldLink "LineCollector" 163 "LineCollector$Item" "tag" "I").before a s = true := h _ (tb 463 rfl rfl)
set_option maxRecDepth 20000 in
theorem k_464 {a : Array Value} {s : State} (h : ∀ w ∈ LW, w.before a s = true) : (Jvm.Cond.fieldLink "LineCollector$Item" 18 "LineCollector$Item" "held" "[LLineCollector$Item;").before a s = true := h _ (tb 464 rfl rfl)
set_option maxRecDepth 20000 in
theorem k_465 {a : Array Value} {s : State} (h : ∀ w ∈ LW, w.before a s = true) : (Jvm.Cond.fieldLink "LineCollector$Log" 28 "LineCollector$Item" "held" "[LLineCollector$Item;").before a s = true := h _ (tb 465 rfl rfl)
set_option maxRecDepth 20000 in
theorem k_466 {a : Array Value} {s : State} (h : ∀ w ∈ LW, w.before a s = true) : (Jvm.Cond.fieldLink "LineCollector" 73 "LineCollector$Item" "held" "[LLineCollector$Item;").before a s = true := h _ (tb 466 rfl rfl)
set_option maxRecDepth 20000 in
theorem k_468 {a : Array Value} {s : State} (h : ∀ w ∈ LW, w.before a s = true) : (Jvm.Cond.fieldLink "LineCollector$Log" 31 "LineCollector$Item" "logged" "[Z").before a s = true := h _ (tb 468 rfl rfl)
set_option maxRecDepth 20000 in
theorem k_469 {a : Array Value} {s : State} (h : ∀ w ∈ LW, w.before a s = true) : (Jvm.Cond.fieldLink "LineCollector" 84 "LineCollector$Item" "logged" "[Z").before a s = true := h _ (tb 469 rfl rfl)
set_option maxRecDepth 20000 in
theorem k_470 {a : Array Value} {s : State} (h : ∀ w ∈ LW, w.before a s = true) : (Jvm.Cond.fieldLink "LineCollector" 191 "LineCollector$Item" "address" "I").before a s = true := h _ (tb 470 rfl rfl)
set_option maxRecDepth 20000 in
theorem k_471 {a : Array Value} {s : State} (h : ∀ w ∈ LW, w.before a s = true) : (Jvm.Cond.fieldLink "LineCollector$Item" 26 "LineCollector$Item" "count" "I").before a s = true := h _ (tb 471 rfl rfl)
set_option maxRecDepth 20000 in
theorem k_472 {a : Array Value} {s : State} (h : ∀ w ∈ LW, w.before a s = true) : (Jvm.Cond.fieldLink "LineCollector" 166 "LineCollector$Item" "count" "I").before a s = true := h _ (tb 472 rfl rfl)
set_option maxRecDepth 20000 in
theorem k_473 {a : Array Value} {s : State} (h : ∀ w ∈ LW, w.before a s = true) : (Jvm.Cond.fieldLink "LineCollector$Item" 33 "LineCollector$Item" "colour" "I").before a s = true := h _ (tb 473 rfl rfl)
set_option maxRecDepth 20000 in
theorem k_474 {a : Array Value} {s : State} (h : ∀ w ∈ LW, w.before a s = true) : (Jvm.Cond.fieldLink "LineCollector" 169 "LineCollector$Item" "colour" "I").before a s = true := h _ (tb 474 rfl rfl)
set_option maxRecDepth 20000 in
theorem k_490 {a : Array Value} {s : State} (h : ∀ w ∈ LW, w.before a s = true) : (Jvm.Cond.methodLink "LineCollectorLaw" 75 ⟨"LineCollectorLaw", "drop", "(LLineCollector;I)I"⟩).before a s = true := h _ (tb 490 rfl rfl)
set_option maxRecDepth 20000 in
theorem k_493 {a : Array Value} {s : State} (h : ∀ w ∈ LW, w.before a s = true) : (Jvm.Cond.methodLink "LineCollectorLaw" 17 ⟨"LineCollector", "drop", "(I)V"⟩).before a s = true := h _ (tb 493 rfl rfl)
set_option maxRecDepth 20000 in
theorem k_497 {a : Array Value} {s : State} (h : ∀ w ∈ LW, w.before a s = true) : (Jvm.Cond.methodLink "LineCollectorLaw" 79 ⟨"LineCollectorLaw", "copy", "(LLineCollector;II)I"⟩).before a s = true := h _ (tb 497 rfl rfl)
set_option maxRecDepth 20000 in
theorem k_500 {a : Array Value} {s : State} (h : ∀ w ∈ LW, w.before a s = true) : (Jvm.Cond.methodLink "LineCollectorLaw" 21 ⟨"LineCollector", "copy", "(II)V"⟩).before a s = true := h _ (tb 500 rfl rfl)
set_option maxRecDepth 20000 in
theorem k_504 {a : Array Value} {s : State} (h : ∀ w ∈ LW, w.before a s = true) : (Jvm.Cond.methodLink "LineCollectorLaw" 83 ⟨"LineCollectorLaw", "load", "(LLineCollector;III[J)I"⟩).before a s = true := h _ (tb 504 rfl rfl)
set_option maxRecDepth 20000 in
theorem k_507 {a : Array Value} {s : State} (h : ∀ w ∈ LW, w.before a s = true) : (Jvm.Cond.classLink "LineCollectorLaw" 28 "java/lang/IllegalStateException").before a s = true := h _ (tb 507 rfl rfl)
set_option maxRecDepth 20000 in
theorem k_508 {a : Array Value} {s : State} (h : ∀ w ∈ LW, w.before a s = true) : (Jvm.Cond.classLink "LineCollectorLaw" 30 "java/lang/IndexOutOfBoundsException").before a s = true := h _ (tb 508 rfl rfl)
set_option maxRecDepth 20000 in
theorem k_509 {a : Array Value} {s : State} (h : ∀ w ∈ LW, w.before a s = true) : (Jvm.Cond.methodLink "LineCollectorLaw" 25 ⟨"LineCollector", "load", "(III)I"⟩).before a s = true := h _ (tb 509 rfl rfl)
set_option maxRecDepth 20000 in
theorem k_513 {a : Array Value} {s : State} (h : ∀ w ∈ LW, w.before a s = true) : (Jvm.Cond.methodLink "LineCollector" 69 ⟨"LineCollector", "itemWithField", "(III)LLineCollector$Item;"⟩).before a s = true := h _ (tb 513 rfl rfl)
set_option maxRecDepth 20000 in
theorem k_517 {a : Array Value} {s : State} (h : ∀ w ∈ LW, w.before a s = true) : (Jvm.Cond.classLink "LineCollector" 103 "java/lang/IllegalStateException").before a s = true := h _ (tb 517 rfl rfl)
set_option maxRecDepth 20000 in
theorem k_519 {a : Array Value} {s : State} (h : ∀ w ∈ LW, w.before a s = true) : (Jvm.Cond.castable "java/lang/IllegalStateException" "java/lang/IllegalStateException").before a s = true := h _ (tb 519 rfl rfl)
set_option maxRecDepth 20000 in
theorem k_532 {a : Array Value} {s : State} (h : ∀ w ∈ LW, w.before a s = true) : (Jvm.Cond.methodLink "LineCollector" 154 ⟨"LineCollector$Item", "hasField", "(I)Z"⟩).before a s = true := h _ (tb 532 rfl rfl)
set_option maxRecDepth 20000 in
theorem k_536 {a : Array Value} {s : State} (h : ∀ w ∈ LW, w.before a s = true) : (Jvm.Cond.classLink "LineCollector" 157 "java/lang/IndexOutOfBoundsException").before a s = true := h _ (tb 536 rfl rfl)
set_option maxRecDepth 20000 in
theorem k_538 {a : Array Value} {s : State} (h : ∀ w ∈ LW, w.before a s = true) : (Jvm.Cond.castable "java/lang/IndexOutOfBoundsException" "java/lang/IndexOutOfBoundsException").before a s = true := h _ (tb 538 rfl rfl)
set_option maxRecDepth 20000 in
theorem k_551 {a : Array Value} {s : State} (h : ∀ w ∈ LW, w.before a s = true) : (Jvm.Cond.methodLink "LineCollector" 76 ⟨"LineCollector", "addressOf", "(LLineCollector$Item;)I"⟩).before a s = true := h _ (tb 551 rfl rfl)
set_option maxRecDepth 20000 in
theorem k_554 {a : Array Value} {s : State} (h : ∀ w ∈ LW, w.before a s = true) : (Jvm.Cond.methodLink "LineCollectorLaw" 86 ⟨"LineCollectorLaw", "store", "(LLineCollector;III)I"⟩).before a s = true := h _ (tb 554 rfl rfl)
set_option maxRecDepth 20000 in
theorem k_557 {a : Array Value} {s : State} (h : ∀ w ∈ LW, w.before a s = true) : (Jvm.Cond.methodLink "LineCollectorLaw" 32 ⟨"LineCollector", "store", "(III)V"⟩).before a s = true := h _ (tb 557 rfl rfl)
set_option maxRecDepth 20000 in
theorem k_561 {a : Array Value} {s : State} (h : ∀ w ∈ LW, w.before a s = true) : (Jvm.Cond.methodLink "LineCollector" 88 ⟨"LineCollector$Log", "add", "(LLineCollector$Item;I)V"⟩).before a s = true := h _ (tb 561 rfl rfl)
set_option maxRecDepth 20000 in
theorem k_565 {a : Array Value} {s : State} (h : ∀ w ∈ LW, w.before a s = true) : (Jvm.Cond.methodLink "LineCollectorLaw" 90 ⟨"LineCollectorLaw", "drain", "(LLineCollector;I[J)I"⟩).before a s = true := h _ (tb 565 rfl rfl)
set_option maxRecDepth 20000 in
theorem k_568 {a : Array Value} {s : State} (h : ∀ w ∈ LW, w.before a s = true) : (Jvm.Cond.methodLink "LineCollectorLaw" 36 ⟨"LineCollector", "drain", "(I)I"⟩).before a s = true := h _ (tb 568 rfl rfl)
set_option maxRecDepth 20000 in
theorem k_572 {a : Array Value} {s : State} (h : ∀ w ∈ LW, w.before a s = true) : (Jvm.Cond.methodLink "LineCollectorLaw" 94 ⟨"LineCollectorLaw", "trace", "(LLineCollector;I[J)I"⟩).before a s = true := h _ (tb 572 rfl rfl)
set_option maxRecDepth 20000 in
theorem k_575 {a : Array Value} {s : State} (h : ∀ w ∈ LW, w.before a s = true) : (Jvm.Cond.methodLink "LineCollectorLaw" 40 ⟨"LineCollector", "trace", "(I)I"⟩).before a s = true := h _ (tb 575 rfl rfl)
set_option maxRecDepth 20000 in
theorem k_579 {a : Array Value} {s : State} (h : ∀ w ∈ LW, w.before a s = true) : (Jvm.Cond.methodLink "LineCollectorLaw" 102 ⟨"LineCollectorLaw", "root", "(LLineCollector;I[J)I"⟩).before a s = true := h _ (tb 579 rfl rfl)
set_option maxRecDepth 20000 in
theorem k_582 {a : Array Value} {s : State} (h : ∀ w ∈ LW, w.before a s = true) : (Jvm.Cond.methodLink "LineCollectorLaw" 43 ⟨"LineCollector", "root", "(I)I"⟩).before a s = true := h _ (tb 582 rfl rfl)
set_option maxRecDepth 20000 in
theorem k_586 {a : Array Value} {s : State} (h : ∀ w ∈ LW, w.before a s = true) : (Jvm.Cond.methodLink "LineCollectorLaw" 105 ⟨"LineCollectorLaw", "field", "(LLineCollector;II[J)I"⟩).before a s = true := h _ (tb 586 rfl rfl)
set_option maxRecDepth 20000 in
theorem k_589 {a : Array Value} {s : State} (h : ∀ w ∈ LW, w.before a s = true) : (Jvm.Cond.classLink "LineCollectorLaw" 50 "java/util/NoSuchElementException").before a s = true := h _ (tb 589 rfl rfl)
set_option maxRecDepth 20000 in
theorem k_590 {a : Array Value} {s : State} (h : ∀ w ∈ LW, w.before a s = true) : (Jvm.Cond.methodLink "LineCollectorLaw" 46 ⟨"LineCollector", "field", "(II)I"⟩).before a s = true := h _ (tb 590 rfl rfl)
set_option maxRecDepth 20000 in
theorem k_594 {a : Array Value} {s : State} (h : ∀ w ∈ LW, w.before a s = true) : (Jvm.Cond.methodLink "LineCollector" 147 ⟨"LineCollector", "itemOrNull", "(I)LLineCollector$Item;"⟩).before a s = true := h _ (tb 594 rfl rfl)
set_option maxRecDepth 20000 in
theorem k_598 {a : Array Value} {s : State} (h : ∀ w ∈ LW, w.before a s = true) : (Jvm.Cond.classLink "LineCollector" 151 "java/util/NoSuchElementException").before a s = true := h _ (tb 598 rfl rfl)
set_option maxRecDepth 20000 in
theorem k_600 {a : Array Value} {s : State} (h : ∀ w ∈ LW, w.before a s = true) : (Jvm.Cond.castable "java/util/NoSuchElementException" "java/util/NoSuchElementException").before a s = true := h _ (tb 600 rfl rfl)
set_option maxRecDepth 20000 in
theorem k_613 {a : Array Value} {s : State} (h : ∀ w ∈ LW, w.before a s = true) : (Jvm.Cond.methodLink "LineCollectorLaw" 109 ⟨"LineCollectorLaw", "object", "(LLineCollector;II[J)I"⟩).before a s = true := h _ (tb 613 rfl rfl)
set_option maxRecDepth 20000 in
theorem k_616 {a : Array Value} {s : State} (h : ∀ w ∈ LW, w.before a s = true) : (Jvm.Cond.methodLink "LineCollectorLaw" 52 ⟨"LineCollector", "object", "(II)I"⟩).before a s = true := h _ (tb 616 rfl rfl)
set_option maxRecDepth 20000 in
theorem k_620 {a : Array Value} {s : State} (h : ∀ w ∈ LW, w.before a s = true) : (Jvm.Cond.methodLink "LineCollectorLaw" 112 ⟨"LineCollectorLaw", "line", "(LLineCollector;I[J)I"⟩).before a s = true := h _ (tb 620 rfl rfl)
set_option maxRecDepth 20000 in
theorem k_623 {a : Array Value} {s : State} (h : ∀ w ∈ LW, w.before a s = true) : (Jvm.Cond.methodLink "LineCollectorLaw" 55 ⟨"LineCollector", "line", "(I)I"⟩).before a s = true := h _ (tb 623 rfl rfl)
set_option maxRecDepth 20000 in
theorem k_627 {a : Array Value} {s : State} (h : ∀ w ∈ LW, w.before a s = true) : (Jvm.Cond.methodLink "LineCollector" 172 ⟨"LineCollector$Places", "isUsed", "(I)Z"⟩).before a s = true := h _ (tb 627 rfl rfl)
set_option maxRecDepth 20000 in
theorem k_628 {a : Array Value} {s : State} (h : ∀ w ∈ LW, w.before a s = true) : (Jvm.Cond.methodLink "LineCollector" 175 ⟨"LineCollector$Places", "isFree", "(I)Z"⟩).before a s = true := h _ (tb 628 rfl rfl)
set_option maxRecDepth 20000 in
theorem k_629 {a : Array Value} {s : State} (h : ∀ w ∈ LW, w.before a s = true) : (Jvm.Cond.methodLink "LineCollectorLaw" 115 ⟨"LineCollectorLaw", "figure", "(LLineCollector;I[J)I"⟩).before a s = true := h _ (tb 629 rfl rfl)
set_option maxRecDepth 20000 in
theorem k_632 {a : Array Value} {s : State} (h : ∀ w ∈ LW, w.before a s = true) : (Jvm.Cond.methodLink "LineCollectorLaw" 58 ⟨"LineCollector", "figure", "(I)I"⟩).before a s = true := h _ (tb 632 rfl rfl)
set_option maxRecDepth 20000 in
theorem k_636 {a : Array Value} {s : State} (h : ∀ w ∈ LW, w.before a s = true) : (Jvm.Cond.methodLink "LineCollector" 178 ⟨"LineCollector", "countItems", "()I"⟩).before a s = true := h _ (tb 636 rfl rfl)
set_option maxRecDepth 20000 in
theorem k_640 {a : Array Value} {s : State} (h : ∀ w ∈ LW, w.before a s = true) : (Jvm.Cond.methodLink "LineCollector" 181 ⟨"LineCollector", "countYoung", "()I"⟩).before a s = true := h _ (tb 640 rfl rfl)
set_option maxRecDepth 20000 in
theorem k_650 {a : Array Value} {s : State} (h : ∀ w ∈ LW, w.before a s = true) : (Jvm.Cond.fieldLink "LineCollectorModel" 69 "LineCollectorModel" "code" "I").before a s = true := h _ (tb 650 rfl rfl)
set_option maxRecDepth 20000 in
theorem k_651 {a : Array Value} {s : State} (h : ∀ w ∈ LW, w.before a s = true) : (Jvm.Cond.fieldLink "LineCollectorModel" 7 "LineCollectorModel" "cells" "[I").before a s = true := h _ (tb 651 rfl rfl)
set_option maxRecDepth 20000 in
theorem k_652 {a : Array Value} {s : State} (h : ∀ w ∈ LW, w.before a s = true) : (Jvm.Cond.fieldLink "LineCollectorModel" 13 "LineCollectorModel" "state" "[I").before a s = true := h _ (tb 652 rfl rfl)
set_option maxRecDepth 20000 in
theorem k_653 {a : Array Value} {s : State} (h : ∀ w ∈ LW, w.before a s = true) : (Jvm.Cond.fieldLink "LineCollectorModel" 16 "LineCollectorModel" "at" "[I").before a s = true := h _ (tb 653 rfl rfl)
set_option maxRecDepth 20000 in
theorem k_654 {a : Array Value} {s : State} (h : ∀ w ∈ LW, w.before a s = true) : (Jvm.Cond.fieldLink "LineCollectorModel" 19 "LineCollectorModel" "size" "[I").before a s = true := h _ (tb 654 rfl rfl)
set_option maxRecDepth 20000 in
theorem k_655 {a : Array Value} {s : State} (h : ∀ w ∈ LW, w.before a s = true) : (Jvm.Cond.fieldLink "LineCollectorModel" 22 "LineCollectorModel" "tag" "[I").before a s = true := h _ (tb 655 rfl rfl)
set_option maxRecDepth 20000 in
theorem k_656 {a : Array Value} {s : State} (h : ∀ w ∈ LW, w.before a s = true) : (Jvm.Cond.fieldLink "LineCollectorModel" 25 "LineCollectorModel" "count" "[I").before a s = true := h _ (tb 656 rfl rfl)
set_option maxRecDepth 20000 in
theorem k_657 {a : Array Value} {s : State} (h : ∀ w ∈ LW, w.before a s = true) : (Jvm.Cond.fieldLink "LineCollectorModel" 28 "LineCollectorModel" "colour" "[I").before a s = true := h _ (tb 657 rfl rfl)
set_option maxRecDepth 20000 in
theorem k_658 {a : Array Value} {s : State} (h : ∀ w ∈ LW, w.before a s = true) : (Jvm.Cond.fieldLink "LineCollectorModel" 31 "LineCollectorModel" "fields" "[I").before a s = true := h _ (tb 658 rfl rfl)
set_option maxRecDepth 20000 in
theorem k_659 {a : Array Value} {s : State} (h : ∀ w ∈ LW, w.before a s = true) : (Jvm.Cond.fieldLink "LineCollectorModel" 34 "LineCollectorModel" "logged" "[Z").before a s = true := h _ (tb 659 rfl rfl)
set_option maxRecDepth 20000 in
theorem k_660 {a : Array Value} {s : State} (h : ∀ w ∈ LW, w.before a s = true) : (Jvm.Cond.fieldLink "LineCollectorModel" 115 "LineCollectorModel" "next" "I").before a s = true := h _ (tb 660 rfl rfl)
set_option maxRecDepth 20000 in
theorem k_661 {a : Array Value} {s : State} (h : ∀ w ∈ LW, w.before a s = true) : (Jvm.Cond.fieldLink "LineCollectorModel" 38 "LineCollectorModel" "roots" "[I").before a s = true := h _ (tb 661 rfl rfl)
set_option maxRecDepth 20000 in
theorem k_662 {a : Array Value} {s : State} (h : ∀ w ∈ LW, w.before a s = true) : (Jvm.Cond.fieldLink "LineCollectorModel" 41 "LineCollectorModel" "before" "[I").before a s = true := h _ (tb 662 rfl rfl)
set_option maxRecDepth 20000 in
theorem k_663 {a : Array Value} {s : State} (h : ∀ w ∈ LW, w.before a s = true) : (Jvm.Cond.fieldLink "LineCollectorModel" 44 "LineCollectorModel" "holeFrom" "I").before a s = true := h _ (tb 663 rfl rfl)
set_option maxRecDepth 20000 in
theorem k_664 {a : Array Value} {s : State} (h : ∀ w ∈ LW, w.before a s = true) : (Jvm.Cond.fieldLink "LineCollectorModel" 72 "LineCollectorModel" "holeEnd" "I").before a s = true := h _ (tb 664 rfl rfl)
set_option maxRecDepth 20000 in
theorem k_665 {a : Array Value} {s : State} (h : ∀ w ∈ LW, w.before a s = true) : (Jvm.Cond.fieldLink "LineCollectorModel" 85 "LineCollectorModel" "holeCursor" "I").before a s = true := h _ (tb 665 rfl rfl)
set_option maxRecDepth 20000 in
theorem k_666 {a : Array Value} {s : State} (h : ∀ w ∈ LW, w.before a s = true) : (Jvm.Cond.fieldLink "LineCollectorModel" 48 "LineCollectorModel" "overflow" "I").before a s = true := h _ (tb 666 rfl rfl)
set_option maxRecDepth 20000 in
theorem k_667 {a : Array Value} {s : State} (h : ∀ w ∈ LW, w.before a s = true) : (Jvm.Cond.fieldLink "LineCollectorModel" 95 "LineCollectorModel" "overflowCursor" "I").before a s = true := h _ (tb 667 rfl rfl)
set_option maxRecDepth 20000 in
theorem k_668 {a : Array Value} {s : State} (h : ∀ w ∈ LW, w.before a s = true) : (Jvm.Cond.fieldLink "LineCollectorModel" 51 "LineCollectorModel" "left" "[Z").before a s = true := h _ (tb 668 rfl rfl)
set_option maxRecDepth 20000 in
theorem k_669 {a : Array Value} {s : State} (h : ∀ w ∈ LW, w.before a s = true) : (Jvm.Cond.fieldLink "LineCollectorModel" 54 "LineCollectorModel" "cleared" "I").before a s = true := h _ (tb 669 rfl rfl)
set_option maxRecDepth 20000 in
theorem k_670 {a : Array Value} {s : State} (h : ∀ w ∈ LW, w.before a s = true) : (Jvm.Cond.fieldLink "LineCollectorModel" 57 "LineCollectorModel" "row" "[I").before a s = true := h _ (tb 670 rfl rfl)
set_option maxRecDepth 20000 in
theorem k_671 {a : Array Value} {s : State} (h : ∀ w ∈ LW, w.before a s = true) : (Jvm.Cond.fieldLink "LineCollectorModel" 118 "LineCollectorModel" "waiting" "I").before a s = true := h _ (tb 671 rfl rfl)
set_option maxRecDepth 20000 in
theorem k_672 {a : Array Value} {s : State} (h : ∀ w ∈ LW, w.before a s = true) : (Jvm.Cond.fieldLink "LineCollectorModel" 60 "LineCollectorModel" "logField" "[I").before a s = true := h _ (tb 672 rfl rfl)
set_option maxRecDepth 20000 in
theorem k_673 {a : Array Value} {s : State} (h : ∀ w ∈ LW, w.before a s = true) : (Jvm.Cond.fieldLink "LineCollectorModel" 63 "LineCollectorModel" "logOld" "[I").before a s = true := h _ (tb 673 rfl rfl)
set_option maxRecDepth 20000 in
theorem k_674 {a : Array Value} {s : State} (h : ∀ w ∈ LW, w.before a s = true) : (Jvm.Cond.fieldLink "LineCollectorModel" 153 "LineCollectorModel" "logs" "I").before a s = true := h _ (tb 674 rfl rfl)
set_option maxRecDepth 20000 in
theorem k_675 {a : Array Value} {s : State} (h : ∀ w ∈ LW, w.before a s = true) : (Jvm.Cond.fieldLink "LineCollectorModel" 66 "LineCollectorModel" "slots" "[I").before a s = true := h _ (tb 675 rfl rfl)
set_option maxRecDepth 20000 in
theorem k_676 {a : Array Value} {s : State} (h : ∀ w ∈ LW, w.before a s = true) : (Jvm.Cond.fieldLink "LineCollectorModel" 140 "LineCollectorModel" "slotted" "I").before a s = true := h _ (tb 676 rfl rfl)
set_option maxRecDepth 20000 in
theorem k_677 {a : Array Value} {s : State} (h : ∀ w ∈ LW, w.before a s = true) : (Jvm.Cond.fieldLink "LineCollectorModel" 143 "LineCollectorModel" "traces" "Z").before a s = true := h _ (tb 677 rfl rfl)
set_option maxRecDepth 20000 in
theorem k_678 {a : Array Value} {s : State} (h : ∀ w ∈ LW, w.before a s = true) : (Jvm.Cond.fieldLink "LineCollectorModel" 196 "LineCollectorModel" "pauses" "I").before a s = true := h _ (tb 678 rfl rfl)
set_option maxRecDepth 20000 in
theorem k_679 {a : Array Value} {s : State} (h : ∀ w ∈ LW, w.before a s = true) : (Jvm.Cond.fieldLink "LineCollectorModel" 112 "LineCollectorModel" "moves" "I").before a s = true := h _ (tb 679 rfl rfl)
set_option maxRecDepth 20000 in
theorem k_680 {a : Array Value} {s : State} (h : ∀ w ∈ LW, w.before a s = true) : (Jvm.Cond.fieldLink "LineCollectorModel" 159 "LineCollectorModel" "whites" "I").before a s = true := h _ (tb 680 rfl rfl)
set_option maxRecDepth 20000 in
theorem k_744 {a : Array Value} {s : State} (h : ∀ w ∈ LW, w.before a s = true) : (Jvm.Cond.methodLink "LineCollectorLaw" 71 ⟨"LineCollectorModel", "thrown", "()I"⟩).before a s = true := h _ (tb 744 rfl rfl)
set_option maxRecDepth 20000 in
theorem k_748 {a : Array Value} {s : State} (h : ∀ w ∈ LW, w.before a s = true) : (Jvm.Cond.methodLink "LineCollectorLaw" 70 ⟨"LineCollectorModel", "allocate", "(III)I"⟩).before a s = true := h _ (tb 748 rfl rfl)
set_option maxRecDepth 20000 in
theorem k_752 {a : Array Value} {s : State} (h : ∀ w ∈ LW, w.before a s = true) : (Jvm.Cond.methodLink "LineCollectorModel" 206 ⟨"LineCollectorModel", "isRoot", "(I)Z"⟩).before a s = true := h _ (tb 752 rfl rfl)
set_option maxRecDepth 20000 in
theorem k_755 {a : Array Value} {s : State} (h : ∀ w ∈ LW, w.before a s = true) : (Jvm.Cond.methodLink "LineCollectorModel" 101 ⟨"LineCollectorModel", "place", "(I)I"⟩).before a s = true := h _ (tb 755 rfl rfl)
set_option maxRecDepth 20000 in
theorem k_759 {a : Array Value} {s : State} (h : ∀ w ∈ LW, w.before a s = true) : (Jvm.Cond.methodLink "LineCollectorModel" 88 ⟨"LineCollectorModel", "placeInLines", "(I)I"⟩).before a s = true := h _ (tb 759 rfl rfl)
set_option maxRecDepth 20000 in
theorem k_763 {a : Array Value} {s : State} (h : ∀ w ∈ LW, w.before a s = true) : (Jvm.Cond.methodLink "LineCollectorModel" 82 ⟨"LineCollectorModel", "isFree", "(I)Z"⟩).before a s = true := h _ (tb 763 rfl rfl)
set_option maxRecDepth 20000 in
theorem k_767 {a : Array Value} {s : State} (h : ∀ w ∈ LW, w.before a s = true) : (Jvm.Cond.methodLink "LineCollectorModel" 75 ⟨"LineCollectorModel", "isUsed", "(I)Z"⟩).before a s = true := h _ (tb 767 rfl rfl)
set_option maxRecDepth 20000 in
theorem k_771 {a : Array Value} {s : State} (h : ∀ w ∈ LW, w.before a s = true) : (Jvm.Cond.methodLink "LineCollectorModel" 79 ⟨"LineCollectorModel", "isTaken", "(I)Z"⟩).before a s = true := h _ (tb 771 rfl rfl)
set_option maxRecDepth 20000 in
theorem k_775 {a : Array Value} {s : State} (h : ∀ w ∈ LW, w.before a s = true) : (Jvm.Cond.methodLink "LineCollectorModel" 92 ⟨"LineCollectorModel", "placeInBlock", "(I)I"⟩).before a s = true := h _ (tb 775 rfl rfl)
set_option maxRecDepth 20000 in
theorem k_779 {a : Array Value} {s : State} (h : ∀ w ∈ LW, w.before a s = true) : (Jvm.Cond.methodLink "LineCollectorModel" 98 ⟨"LineCollectorModel", "isFreeBlock", "(I)Z"⟩).before a s = true := h _ (tb 779 rfl rfl)
set_option maxRecDepth 20000 in
theorem k_783 {a : Array Value} {s : State} (h : ∀ w ∈ LW, w.before a s = true) : (Jvm.Cond.methodLink "LineCollectorModel" 209 ⟨"LineCollectorModel", "collect", "()V"⟩).before a s = true := h _ (tb 783 rfl rfl)
set_option maxRecDepth 20000 in
theorem k_787 {a : Array Value} {s : State} (h : ∀ w ∈ LW, w.before a s = true) : (Jvm.Cond.methodLink "LineCollectorModel" 199 ⟨"LineCollectorModel", "halt", "(Z)I"⟩).before a s = true := h _ (tb 787 rfl rfl)
set_option maxRecDepth 20000 in
theorem k_791 {a : Array Value} {s : State} (h : ∀ w ∈ LW, w.before a s = true) : (Jvm.Cond.methodLink "LineCollectorModel" 174 ⟨"LineCollectorModel", "drainAll", "()V"⟩).before a s = true := h _ (tb 791 rfl rfl)
set_option maxRecDepth 20000 in
theorem k_795 {a : Array Value} {s : State} (h : ∀ w ∈ LW, w.before a s = true) : (Jvm.Cond.methodLink "LineCollectorModel" 134 ⟨"LineCollectorModel", "drainOne", "()V"⟩).before a s = true := h _ (tb 795 rfl rfl)
set_option maxRecDepth 20000 in
theorem k_799 {a : Array Value} {s : State} (h : ∀ w ∈ LW, w.before a s = true) : (Jvm.Cond.methodLink "LineCollectorModel" 131 ⟨"LineCollectorModel", "vanish", "(I)V"⟩).before a s = true := h _ (tb 799 rfl rfl)
set_option maxRecDepth 20000 in
theorem k_803 {a : Array Value} {s : State} (h : ∀ w ∈ LW, w.before a s = true) : (Jvm.Cond.methodLink "LineCollectorModel" 121 ⟨"LineCollectorModel", "wait", "(I)V"⟩).before a s = true := h _ (tb 803 rfl rfl)
set_option maxRecDepth 20000 in
theorem k_807 {a : Array Value} {s : State} (h : ∀ w ∈ LW, w.before a s = true) : (Jvm.Cond.methodLink "LineCollectorModel" 125 ⟨"LineCollectorModel", "isWhite", "(I)Z"⟩).before a s = true := h _ (tb 807 rfl rfl)
set_option maxRecDepth 20000 in
theorem k_811 {a : Array Value} {s : State} (h : ∀ w ∈ LW, w.before a s = true) : (Jvm.Cond.methodLink "LineCollectorModel" 128 ⟨"LineCollectorModel", "lose", "(I)V"⟩).before a s = true := h _ (tb 811 rfl rfl)
set_option maxRecDepth 20000 in
theorem k_815 {a : Array Value} {s : State} (h : ∀ w ∈ LW, w.before a s = true) : (Jvm.Cond.methodLink "LineCollectorModel" 104 ⟨"LineCollectorModel", "lift", "(IZ)V"⟩).before a s = true := h _ (tb 815 rfl rfl)
set_option maxRecDepth 20000 in
theorem k_819 {a : Array Value} {s : State} (h : ∀ w ∈ LW, w.before a s = true) : (Jvm.Cond.methodLink "LineCollectorModel" 168 ⟨"LineCollectorModel", "forget", "()V"⟩).before a s = true := h _ (tb 819 rfl rfl)
set_option maxRecDepth 20000 in
theorem k_823 {a : Array Value} {s : State} (h : ∀ w ∈ LW, w.before a s = true) : (Jvm.Cond.methodLink "LineCollectorModel" 177 ⟨"LineCollectorModel", "countSlots", "()I"⟩).before a s = true := h _ (tb 823 rfl rfl)
set_option maxRecDepth 20000 in
theorem k_827 {a : Array Value} {s : State} (h : ∀ w ∈ LW, w.before a s = true) : (Jvm.Cond.methodLink "LineCollectorModel" 150 ⟨"LineCollectorModel", "addSlot", "(I)V"⟩).before a s = true := h _ (tb 827 rfl rfl)
set_option maxRecDepth 20000 in
theorem k_831 {a : Array Value} {s : State} (h : ∀ w ∈ LW, w.before a s = true) : (Jvm.Cond.methodLink "LineCollectorModel" 156 ⟨"LineCollectorModel", "survive", "(I)V"⟩).before a s = true := h _ (tb 831 rfl rfl)
set_option maxRecDepth 20000 in
theorem k_835 {a : Array Value} {s : State} (h : ∀ w ∈ LW, w.before a s = true) : (Jvm.Cond.methodLink "LineCollectorModel" 147 ⟨"LineCollectorModel", "shift", "(I)V"⟩).before a s = true := h _ (tb 835 rfl rfl)
set_option maxRecDepth 20000 in
theorem k_839 {a : Array Value} {s : State} (h : ∀ w ∈ LW, w.before a s = true) : (Jvm.Cond.methodLink "LineCollectorModel" 108 ⟨"LineCollectorModel", "lay", "(II)V"⟩).before a s = true := h _ (tb 839 rfl rfl)
set_option maxRecDepth 20000 in
theorem k_843 {a : Array Value} {s : State} (h : ∀ w ∈ LW, w.before a s = true) : (Jvm.Cond.methodLink "LineCollectorModel" 171 ⟨"LineCollectorModel", "endStep", "()V"⟩).before a s = true := h _ (tb 843 rfl rfl)
set_option maxRecDepth 20000 in
theorem k_847 {a : Array Value} {s : State} (h : ∀ w ∈ LW, w.before a s = true) : (Jvm.Cond.methodLink "LineCollectorModel" 181 ⟨"LineCollectorModel", "settle", "()V"⟩).before a s = true := h _ (tb 847 rfl rfl)
set_option maxRecDepth 20000 in
theorem k_851 {a : Array Value} {s : State} (h : ∀ w ∈ LW, w.before a s = true) : (Jvm.Cond.methodLink "LineCollectorModel" 184 ⟨"LineCollectorModel", "greys", "()I"⟩).before a s = true := h _ (tb 851 rfl rfl)
set_option maxRecDepth 20000 in
theorem k_855 {a : Array Value} {s : State} (h : ∀ w ∈ LW, w.before a s = true) : (Jvm.Cond.methodLink "LineCollectorModel" 187 ⟨"LineCollectorModel", "sweep", "()V"⟩).before a s = true := h _ (tb 855 rfl rfl)
set_option maxRecDepth 20000 in
theorem k_859 {a : Array Value} {s : State} (h : ∀ w ∈ LW, w.before a s = true) : (Jvm.Cond.methodLink "LineCollectorModel" 137 ⟨"LineCollectorModel", "objectAt", "(I)I"⟩).before a s = true := h _ (tb 859 rfl rfl)
set_option maxRecDepth 20000 in
theorem k_863 {a : Array Value} {s : State} (h : ∀ w ∈ LW, w.before a s = true) : (Jvm.Cond.methodLink "LineCollectorModel" 190 ⟨"LineCollectorModel", "countAnew", "()V"⟩).before a s = true := h _ (tb 863 rfl rfl)
set_option maxRecDepth 20000 in
theorem k_867 {a : Array Value} {s : State} (h : ∀ w ∈ LW, w.before a s = true) : (Jvm.Cond.methodLink "LineCollectorModel" 162 ⟨"LineCollectorModel", "holders", "(I)I"⟩).before a s = true := h _ (tb 867 rfl rfl)
set_option maxRecDepth 20000 in
theorem k_871 {a : Array Value} {s : State} (h : ∀ w ∈ LW, w.before a s = true) : (Jvm.Cond.methodLink "LineCollectorModel" 193 ⟨"LineCollectorModel", "clearBlock", "()V"⟩).before a s = true := h _ (tb 871 rfl rfl)
set_option maxRecDepth 20000 in
theorem k_875 {a : Array Value} {s : State} (h : ∀ w ∈ LW, w.before a s = true) : (Jvm.Cond.methodLink "LineCollectorModel" 165 ⟨"LineCollectorModel", "usedLines", "(I)I"⟩).before a s = true := h _ (tb 875 rfl rfl)
set_option maxRecDepth 20000 in
theorem k_879 {a : Array Value} {s : State} (h : ∀ w ∈ LW, w.before a s = true) : (Jvm.Cond.methodLink "LineCollectorModel" 203 ⟨"LineCollectorModel", "step", "()V"⟩).before a s = true := h _ (tb 879 rfl rfl)
set_option maxRecDepth 20000 in
theorem k_883 {a : Array Value} {s : State} (h : ∀ w ∈ LW, w.before a s = true) : (Jvm.Cond.methodLink "LineCollectorModel" 212 ⟨"LineCollectorModel", "make", "(II)I"⟩).before a s = true := h _ (tb 883 rfl rfl)
set_option maxRecDepth 20000 in
theorem k_887 {a : Array Value} {s : State} (h : ∀ w ∈ LW, w.before a s = true) : (Jvm.Cond.methodLink "LineCollectorLaw" 78 ⟨"LineCollectorModel", "drop", "(I)V"⟩).before a s = true := h _ (tb 887 rfl rfl)
set_option maxRecDepth 20000 in
theorem k_891 {a : Array Value} {s : State} (h : ∀ w ∈ LW, w.before a s = true) : (Jvm.Cond.methodLink "LineCollectorLaw" 82 ⟨"LineCollectorModel", "copy", "(II)V"⟩).before a s = true := h _ (tb 891 rfl rfl)
set_option maxRecDepth 20000 in
theorem k_895 {a : Array Value} {s : State} (h : ∀ w ∈ LW, w.before a s = true) : (Jvm.Cond.methodLink "LineCollectorLaw" 85 ⟨"LineCollectorModel", "load", "(III)I"⟩).before a s = true := h _ (tb 895 rfl rfl)
set_option maxRecDepth 20000 in
theorem k_899 {a : Array Value} {s : State} (h : ∀ w ∈ LW, w.before a s = true) : (Jvm.Cond.methodLink "LineCollectorModel" 216 ⟨"LineCollectorModel", "reach", "(III)V"⟩).before a s = true := h _ (tb 899 rfl rfl)
set_option maxRecDepth 20000 in
theorem k_903 {a : Array Value} {s : State} (h : ∀ w ∈ LW, w.before a s = true) : (Jvm.Cond.methodLink "LineCollectorModel" 220 ⟨"LineCollectorModel", "addressOf", "(I)I"⟩).before a s = true := h _ (tb 903 rfl rfl)
set_option maxRecDepth 20000 in
theorem k_907 {a : Array Value} {s : State} (h : ∀ w ∈ LW, w.before a s = true) : (Jvm.Cond.methodLink "LineCollectorLaw" 89 ⟨"LineCollectorModel", "store", "(III)V"⟩).before a s = true := h _ (tb 907 rfl rfl)
set_option maxRecDepth 20000 in
theorem k_911 {a : Array Value} {s : State} (h : ∀ w ∈ LW, w.before a s = true) : (Jvm.Cond.methodLink "LineCollectorLaw" 93 ⟨"LineCollectorModel", "drain", "(I)I"⟩).before a s = true := h _ (tb 911 rfl rfl)
set_option maxRecDepth 20000 in
theorem k_915 {a : Array Value} {s : State} (h : ∀ w ∈ LW, w.before a s = true) : (Jvm.Cond.methodLink "LineCollectorLaw" 96 ⟨"LineCollectorModel", "trace", "(I)I"⟩).before a s = true := h _ (tb 915 rfl rfl)
set_option maxRecDepth 20000 in
theorem k_919 {a : Array Value} {s : State} (h : ∀ w ∈ LW, w.before a s = true) : (Jvm.Cond.methodLink "LineCollectorLaw" 101 ⟨"LineCollectorModel", "pause", "(Z)I"⟩).before a s = true := h _ (tb 919 rfl rfl)
set_option maxRecDepth 20000 in
theorem k_923 {a : Array Value} {s : State} (h : ∀ w ∈ LW, w.before a s = true) : (Jvm.Cond.methodLink "LineCollectorLaw" 104 ⟨"LineCollectorModel", "root", "(I)I"⟩).before a s = true := h _ (tb 923 rfl rfl)
set_option maxRecDepth 20000 in
theorem k_927 {a : Array Value} {s : State} (h : ∀ w ∈ LW, w.before a s = true) : (Jvm.Cond.methodLink "LineCollectorLaw" 108 ⟨"LineCollectorModel", "field", "(II)I"⟩).before a s = true := h _ (tb 927 rfl rfl)
set_option maxRecDepth 20000 in
theorem k_931 {a : Array Value} {s : State} (h : ∀ w ∈ LW, w.before a s = true) : (Jvm.Cond.methodLink "LineCollectorLaw" 111 ⟨"LineCollectorModel", "object", "(II)I"⟩).before a s = true := h _ (tb 931 rfl rfl)
set_option maxRecDepth 20000 in
theorem k_935 {a : Array Value} {s : State} (h : ∀ w ∈ LW, w.before a s = true) : (Jvm.Cond.methodLink "LineCollectorLaw" 114 ⟨"LineCollectorModel", "line", "(I)I"⟩).before a s = true := h _ (tb 935 rfl rfl)
set_option maxRecDepth 20000 in
theorem k_939 {a : Array Value} {s : State} (h : ∀ w ∈ LW, w.before a s = true) : (Jvm.Cond.methodLink "LineCollectorLaw" 117 ⟨"LineCollectorModel", "figure", "(I)I"⟩).before a s = true := h _ (tb 939 rfl rfl)
set_option maxRecDepth 20000 in
theorem k_943 {a : Array Value} {s : State} (h : ∀ w ∈ LW, w.before a s = true) : (Jvm.Cond.methodLink "LineCollectorModel" 223 ⟨"LineCollectorModel", "objects", "(I)I"⟩).before a s = true := h _ (tb 943 rfl rfl)
set_option maxRecDepth 20000 in
theorem x_ins7 : Cond.instantiable "java/lang/IllegalArgumentException" 6 ∈ LW := tb 359 rfl rfl
set_option maxRecDepth 20000 in
theorem x_ini7 : Cond.initialized "java/lang/IllegalArgumentException" ∈ LW := tb 10 rfl rfl
set_option maxRecDepth 20000 in
theorem x_ins8 : Cond.instantiable "java/lang/IllegalStateException" 6 ∈ LW := tb 518 rfl rfl
set_option maxRecDepth 20000 in
theorem x_ini8 : Cond.initialized "java/lang/IllegalStateException" ∈ LW := tb 14 rfl rfl
set_option maxRecDepth 20000 in
theorem x_ins9 : Cond.instantiable "java/lang/IndexOutOfBoundsException" 6 ∈ LW := tb 537 rfl rfl
set_option maxRecDepth 20000 in
theorem x_ini9 : Cond.initialized "java/lang/IndexOutOfBoundsException" ∈ LW := tb 15 rfl rfl
set_option maxRecDepth 20000 in
theorem x_ins10 : Cond.instantiable "java/lang/UnsupportedOperationException" 6 ∈ LW := tb 440 rfl rfl
set_option maxRecDepth 20000 in
theorem x_ini10 : Cond.initialized "java/lang/UnsupportedOperationException" ∈ LW := tb 12 rfl rfl
set_option maxRecDepth 20000 in
theorem x_ins11 : Cond.instantiable "java/util/NoSuchElementException" 6 ∈ LW := tb 599 rfl rfl
set_option maxRecDepth 20000 in
theorem x_ini11 : Cond.initialized "java/util/NoSuchElementException" ∈ LW := tb 16 rfl rfl
set_option maxRecDepth 20000 in
theorem x_minS {a : Array Value} {s : State} (h : ∀ w ∈ LW, w.before a s = true) : (Cond.static Lib.Math.min.name).before a s = true := h _ (tb 211 rfl rfl)
set_option maxRecDepth 20000 in
theorem x_minI {a : Array Value} {s : State} (h : ∀ w ∈ LW, w.before a s = true) : (Cond.initialized "java/lang/Math").before a s = true := h _ (tb 11 rfl rfl)
set_option maxRecDepth 20000 in
theorem x_minC {a : Array Value} {s : State} (h : ∀ w ∈ LW, w.before a s = true) : (Cond.code Lib.Math.min.name Lib.Math.min.code 2 (some .int)).before a s = true := h _ (tb 212 rfl rfl)
theorem p_I : parseFieldDescriptor "I" = some .int := by decide +kernel
theorem p_Z : parseFieldDescriptor "Z" = some .boolean := by decide +kernel
end
section
/-! The walk's judgement in a short form: the constants in one tuple, the heap by its memory, the locals as ints and references -/
abbrev Kx : Type := Program × Launch × Env × Room × State × MethodId × Array Value × List Frame × Method × Code × (State → Prop)
abbrev kp (K : Kx) : Program := K.1
abbrev kl (K : Kx) : Launch := K.2.1
abbrev ke (K : Kx) : Env := K.2.2.1
abbrev kR (K : Kx) : Room := K.2.2.2.1
abbrev ks (K : Kx) : State := K.2.2.2.2.1
abbrev km (K : Kx) : MethodId := K.2.2.2.2.2.1
abbrev ka (K : Kx) : Array Value := K.2.2.2.2.2.2.1
abbrev kw (K : Kx) : List Frame := K.2.2.2.2.2.2.2.1
abbrev kh (K : Kx) : Method := K.2.2.2.2.2.2.2.2.1
abbrev kc (K : Kx) : Code := K.2.2.2.2.2.2.2.2.2.1
abbrev kq (K : Kx) : State → Prop := K.2.2.2.2.2.2.2.2.2.2
abbrev Av : Type := Int32 ⊕ Option Nat ⊕ Unit
def avr (G : Gl) (v : Av) : Value := match v with
  | .inl n => .int n
  | .inr (.inl e) => rv G e
  | .inr (.inr _) => .ref (ga G)
def lvr (G : Gl) (lv : List (Nat × Av)) : List (Nat × Value) := lv.map (fun q => (q.1, avr G q.2))
theorem avr_cat (G : Gl) (v : Av) : (avr G v).category = 1 := by
  rcases v with n | e | u
  · rfl
  · exact rv_cat G e
  · rfl
def okX (G : Gl) (q x : Nat) (μ : Mem) : Prop := ∃ z, x = gb G + z ∧ okO μ z q
def Qe (G : Gl) (post : Option Value → Mem → Prop) (pe : Nat → Mem → Prop) : Array Value → State → Outcome → State → Prop := fun _ st o t =>
  va_F (gF G) st t ∧ ((∃ (v : Option Value) (μ : Mem), o = .returned v ∧ post v μ ∧ Wd G μ t) ∨ (∃ (q x : Nat) (μ : Mem), o = .threw x ∧ pe q μ ∧ Wd G μ t ∧ okX G q x μ))
def Rn (K : Kx) (G : Gl) (nL pc : Nat) (lv : List (Nat × Av)) (st : List Value) (μ : Mem) (cells slots : Nat) : Prop :=
  ∀ (H : Heap) (locs : List Loc) (ls : Array Slot), Hd G μ H → va_S (gF G) (ks K).heap H locs → lv_has ls nL (lvr G lv) →
    W (kp K) (kl K) (ke K) (kR K) (ks K) (km K) (ka K) (kw K) (kh K) (kc K) H locs cells slots (kq K) (F0 (km K) pc ls st)
def Cx (K : Kx) (G : Gl) (cc : ByteArray) (own : String) (nL : Nat) (rm : Room) (rt : Option FieldType) (post : Option Value → Mem → Prop) (pe : Nat → Mem → Prop) : Prop :=
  (kp K).tables.exec = Jvm.exec ∧ (kc K).code = cc ∧ (kc K).maxLocals = nL ∧ (ks K).vm.findClass own = some (km K).cls ∧ (∀ w ∈ LW, w.before (ka K) (ks K) = true) ∧ va_K (gD G) CL (gT G) (ks K) ∧ Xtra G (ks K) (ks K).heap ∧ kR K = rm ∧
  (kh K).locks = false ∧ (kh K).sig.returnType = rt ∧ kq K = MQX (kw K) (Qe G post pe) (ka K) (ks K) rm.cells rm.slots (gF G) ∧ (∃ μ0, Hd G μ0 (ks K).heap) ∧ (kl K).stackTraces = false

section RA
variable {K : Kx} {G : Gl} {cc : ByteArray} {own : String} {nL : Nat} {rm : Room} {rt : Option FieldType} {post : Option Value → Mem → Prop} {pe : Nat → Mem → Prop} {pc : Nat} {lv : List (Nat × Av)} {st : List Value} {μ : Mem}
theorem Cx.x (h : Cx K G cc own nL rm rt post pe) : (kp K).tables.exec = Jvm.exec := h.1
theorem Cx.b (h : Cx K G cc own nL rm rt post pe) : (kc K).code = cc := h.2.1
theorem Cx.n (h : Cx K G cc own nL rm rt post pe) : (kc K).maxLocals = nL := h.2.2.1
theorem Cx.o (h : Cx K G cc own nL rm rt post pe) : (ks K).vm.findClass own = some (km K).cls := h.2.2.2.1
theorem Cx.w (h : Cx K G cc own nL rm rt post pe) : ∀ w ∈ LW, w.before (ka K) (ks K) = true := h.2.2.2.2.1
theorem Cx.k (h : Cx K G cc own nL rm rt post pe) : va_K (gD G) CL (gT G) (ks K) := h.2.2.2.2.2.1
theorem Cx.e (h : Cx K G cc own nL rm rt post pe) : Xtra G (ks K) (ks K).heap := h.2.2.2.2.2.2.1
theorem Cx.r (h : Cx K G cc own nL rm rt post pe) : kR K = rm := h.2.2.2.2.2.2.2.1
theorem Cx.l (h : Cx K G cc own nL rm rt post pe) : (kh K).locks = false := h.2.2.2.2.2.2.2.2.1
theorem Cx.t (h : Cx K G cc own nL rm rt post pe) : (kh K).sig.returnType = rt := h.2.2.2.2.2.2.2.2.2.1
theorem Cx.q (h : Cx K G cc own nL rm rt post pe) : kq K = MQX (kw K) (Qe G post pe) (ka K) (ks K) rm.cells rm.slots (gF G) := h.2.2.2.2.2.2.2.2.2.2.1
theorem Cx.d (h : Cx K G cc own nL rm rt post pe) : ∃ μ0, Hd G μ0 (ks K).heap := h.2.2.2.2.2.2.2.2.2.2.2.1
theorem Cx.s (h : Cx K G cc own nL rm rt post pe) : (kl K).stackTraces = false := h.2.2.2.2.2.2.2.2.2.2.2.2
end RA
section RX
variable {K : Kx} {G : Gl} {cc : ByteArray} {own : String} {nL : Nat} {rm : Room} {rt : Option FieldType} {post : Option Value → Mem → Prop} {pe : Nat → Mem → Prop} {pc : Nat} {lv : List (Nat × Av)} {st : List Value} {μ : Mem} {a b : Nat}
theorem lv_get {ls : Array Slot} (hl : lv_has ls nL (lvr G lv)) (k : Nat) {i : Nat} {v : Av} (hk : lv[k]? = some (i, v)) : ls[i]? = some (.val (avr G v)) :=
  lv_at hl k (by simp [lvr, hk])
theorem lv_less {ls : Array Slot} {l l' : List (Nat × Value)} (h : lv_has ls nL l) (hs : ∀ q ∈ l', q ∈ l) : lv_has ls nL l' := ⟨h.1, h.2.1, fun q hq => h.2.2 q (hs q hq)⟩
theorem lv_put {ls : Array Slot} {i : Nat} {v : Av} {lv' : List (Nat × Av)} (h : lv_has ls nL ((i, avr G v) :: (lvr G lv).filter (fun q => !(q.1 == i) && !(q.1 + 1 == i && q.2.category == 2)))) (hl : lv.filter (fun q => q.1 != i) = lv') : lv_has ls nL (lvr G ((i, v) :: lv')) := by
  refine lv_less h fun q hq => ?_
  subst hl
  rw [lvr, List.map_cons] at hq
  rcases List.mem_cons.mp hq with rfl | hq
  · exact List.mem_cons_self
  · obtain ⟨q0, h0, rfl⟩ := List.mem_map.mp hq
    obtain ⟨h1, h2⟩ := List.mem_filter.mp h0
    refine List.mem_cons_of_mem _ (List.mem_filter.mpr ⟨List.mem_map.mpr ⟨q0, h1, rfl⟩, ?_⟩)
    have h3 : (q0.1 == i) = false := by simpa [bne] using h2
    simp [h3, avr_cat]
theorem r_sub {lv' : List (Nat × Av)} (ps : List Nat) (h : ps.filterMap (fun k => lv[k]?) = lv') (k : Rn K G nL pc lv' st μ a b) : Rn K G nL pc lv st μ a b := by
  intro H locs ls hH hS hl
  refine k H locs ls hH hS (lv_less hl fun q hq => ?_)
  subst h
  obtain ⟨q0, h0, rfl⟩ := List.mem_map.mp hq
  obtain ⟨k, -, hk⟩ := List.mem_filterMap.mp h0
  exact List.mem_map.mpr ⟨q0, List.mem_of_getElem? hk, rfl⟩
theorem r_widen {a' b' : Nat} (h1 : a ≤ a') (h2 : b ≤ b') (k : Rn K G nL pc lv st μ a' b') : Rn K G nL pc lv st μ a b := fun H locs ls hH hS hl => W.widen h1 h2 (k H locs ls hH hS hl)
theorem r_iconst (C : Cx K G cc own nL rm rt post pe) {n : Int} {v : Int32} (hd : decode cc pc = .ok (.iconst n, 1)) (hv : Int32.ofInt n = v) (k : Rn K G nL (pc + 1) lv (.int v :: st) μ a b) : Rn K G nL pc lv st μ a b := by
  intro H locs ls hH hS hl
  exact lv_iconst C.x C.b hd hv (k H locs ls hH hS hl)
theorem r_bipush (C : Cx K G cc own nL rm rt post pe) {n : Int} {v : Int32} (hd : decode cc pc = .ok (.bipush n, 2)) (hv : (Int8.ofInt n).toInt32 = v) (k : Rn K G nL (pc + 2) lv (.int v :: st) μ a b) : Rn K G nL pc lv st μ a b := by
  intro H locs ls hH hS hl
  exact lv_bipush C.x C.b hd hv (k H locs ls hH hS hl)
theorem r_sipush (C : Cx K G cc own nL rm rt post pe) {n : Int} {v : Int32} (hd : decode cc pc = .ok (.sipush n, 3)) (hv : (Int16.ofInt n).toInt32 = v) (k : Rn K G nL (pc + 3) lv (.int v :: st) μ a b) : Rn K G nL pc lv st μ a b := by
  intro H locs ls hH hS hl
  exact lv_sipush C.x C.b hd hv (k H locs ls hH hS hl)
theorem r_ldc (C : Cx K G cc own nL rm rt post pe) {index : Nat} {v : Int32} (hc : (Cond.constant own index v).before (ka K) (ks K) = true) (hd : decode cc pc = .ok (.ldc index, 2)) (k : Rn K G nL (pc + 2) lv (.int v :: st) μ a b) : Rn K G nL pc lv st μ a b := by
  intro H locs ls hH hS hl
  exact W.ldc C.x C.b C.o hc rfl hd (k H locs ls hH hS hl)
theorem r_iload_n (C : Cx K G cc own nL rm rt post pe) {f : Fin 4} {i : Nat} {x : Int32} (hd : decode cc pc = .ok (.iload_n f, 1)) (hi : (f : Nat) = i) (j : Nat) (hj : lv[j]? = some (i, .inl x)) (k : Rn K G nL (pc + 1) lv (.int x :: st) μ a b) : Rn K G nL pc lv st μ a b := by
  intro H locs ls hH hS hl
  exact lv_iload_n C.x C.b hd hi (lv_get hl j hj) (k H locs ls hH hS hl)
theorem r_iload (C : Cx K G cc own nL rm rt post pe) {i : Nat} {x : Int32} (hd : decode cc pc = .ok (.iload i, 2)) (j : Nat) (hj : lv[j]? = some (i, .inl x)) (k : Rn K G nL (pc + 2) lv (.int x :: st) μ a b) : Rn K G nL pc lv st μ a b := by
  intro H locs ls hH hS hl
  exact lv_iload C.x C.b hd (lv_get hl j hj) (k H locs ls hH hS hl)
theorem r_aload_n (C : Cx K G cc own nL rm rt post pe) {f : Fin 4} {i : Nat} {x : Option Nat} (hd : decode cc pc = .ok (.aload_n f, 1)) (hi : (f : Nat) = i) (j : Nat) (hj : lv[j]? = some (i, .inr (.inl x))) (k : Rn K G nL (pc + 1) lv (rv G x :: st) μ a b) : Rn K G nL pc lv st μ a b := by
  intro H locs ls hH hS hl
  have hg := lv_get hl j hj
  have hk := k H locs ls hH hS hl
  cases x with
  | none => exact lv_aload_nN C.x C.b hd hi hg hk
  | some y => exact lv_aload_n C.x C.b hd hi hg hk
theorem r_aload (C : Cx K G cc own nL rm rt post pe) {i : Nat} {x : Option Nat} (hd : decode cc pc = .ok (.aload i, 2)) (j : Nat) (hj : lv[j]? = some (i, .inr (.inl x))) (k : Rn K G nL (pc + 2) lv (rv G x :: st) μ a b) : Rn K G nL pc lv st μ a b := by
  intro H locs ls hH hS hl
  have hg := lv_get hl j hj
  have hk := k H locs ls hH hS hl
  cases x with
  | none => exact lv_aloadN C.x C.b hd hg hk
  | some y => exact lv_aload C.x C.b hd hg hk
theorem r_aloadS (C : Cx K G cc own nL rm rt post pe) {f : Fin 4} {i : Nat} {u : Unit} (hd : decode cc pc = .ok (.aload_n f, 1)) (hi : (f : Nat) = i) (j : Nat) (hj : lv[j]? = some (i, .inr (.inr u))) (k : Rn K G nL (pc + 1) lv (.ref (ga G) :: st) μ a b) : Rn K G nL pc lv st μ a b := by
  intro H locs ls hH hS hl
  exact lv_aload_n C.x C.b hd hi (lv_get hl j hj) (k H locs ls hH hS hl)
theorem r_istore_n (C : Cx K G cc own nL rm rt post pe) {f : Fin 4} {i : Nat} {x : Int32} {lv' : List (Nat × Av)} (hd : decode cc pc = .ok (.istore_n f, 1)) (hi : (f : Nat) = i) (hn : i < nL) (hq : lv.filter (fun q => q.1 != i) = lv') (k : Rn K G nL (pc + 1) ((i, .inl x) :: lv') st μ a b) : Rn K G nL pc lv (.int x :: st) μ a b := by
  intro H locs ls hH hS hl
  exact lv_istore_n C.x C.b hd hi hl hn rfl fun ls1 hl1 => k H locs ls1 hH hS (lv_put (v := .inl x) hl1 hq)
theorem r_istore (C : Cx K G cc own nL rm rt post pe) {i : Nat} {x : Int32} {lv' : List (Nat × Av)} (hd : decode cc pc = .ok (.istore i, 2)) (hn : i < nL) (hq : lv.filter (fun q => q.1 != i) = lv') (k : Rn K G nL (pc + 2) ((i, .inl x) :: lv') st μ a b) : Rn K G nL pc lv (.int x :: st) μ a b := by
  intro H locs ls hH hS hl
  exact lv_istore C.x C.b hd hl hn rfl fun ls1 hl1 => k H locs ls1 hH hS (lv_put (v := .inl x) hl1 hq)
theorem r_astore_n (C : Cx K G cc own nL rm rt post pe) {f : Fin 4} {i : Nat} {x : Option Nat} {lv' : List (Nat × Av)} (hd : decode cc pc = .ok (.astore_n f, 1)) (hi : (f : Nat) = i) (hn : i < nL) (hq : lv.filter (fun q => q.1 != i) = lv') (k : Rn K G nL (pc + 1) ((i, .inr (.inl x)) :: lv') st μ a b) : Rn K G nL pc lv (rv G x :: st) μ a b := by
  intro H locs ls hH hS hl
  cases x with
  | none => exact lv_astore_nN C.x C.b hd hi hl hn rfl fun ls1 hl1 => k H locs ls1 hH hS (lv_put (v := .inr (.inl none)) hl1 hq)
  | some y => exact lv_astore_n C.x C.b hd hi hl hn rfl fun ls1 hl1 => k H locs ls1 hH hS (lv_put (v := .inr (.inl (some y))) hl1 hq)
theorem r_astore (C : Cx K G cc own nL rm rt post pe) {i : Nat} {x : Option Nat} {lv' : List (Nat × Av)} (hd : decode cc pc = .ok (.astore i, 2)) (hn : i < nL) (hq : lv.filter (fun q => q.1 != i) = lv') (k : Rn K G nL (pc + 2) ((i, .inr (.inl x)) :: lv') st μ a b) : Rn K G nL pc lv (rv G x :: st) μ a b := by
  intro H locs ls hH hS hl
  cases x with
  | none => exact lv_astoreN C.x C.b hd hl hn rfl fun ls1 hl1 => k H locs ls1 hH hS (lv_put (v := .inr (.inl none)) hl1 hq)
  | some y => exact lv_astore C.x C.b hd hl hn rfl fun ls1 hl1 => k H locs ls1 hH hS (lv_put (v := .inr (.inl (some y))) hl1 hq)
theorem r_iinc (C : Cx K G cc own nL rm rt post pe) {i : Nat} {n : Int} {x v : Int32} {lv' : List (Nat × Av)} (hd : decode cc pc = .ok (.iinc i n, 3)) (j : Nat) (hj : lv[j]? = some (i, .inl x)) (hv : Int32.ofInt n = v) (hn : i < nL) (hq : lv.filter (fun q => q.1 != i) = lv') (k : Rn K G nL (pc + 3) ((i, .inl (x + v)) :: lv') st μ a b) : Rn K G nL pc lv st μ a b := by
  intro H locs ls hH hS hl
  subst hv
  exact lv_iinc C.x C.b hd hl (k := j) (by simp [lvr, hj, avr]) rfl hn rfl fun ls1 hl1 => k H locs ls1 hH hS (lv_put (v := .inl (x + Int32.ofInt n)) hl1 hq)
theorem r_iadd (C : Cx K G cc own nL rm rt post pe) {x y : Int32} (hd : decode cc pc = .ok (.iadd, 1)) (k : Rn K G nL (pc + 1) lv (.int (x + y) :: st) μ a b) : Rn K G nL pc lv (.int y :: .int x :: st) μ a b := by
  intro H locs ls hH hS hl
  exact lv_iadd C.x C.b hd (k H locs ls hH hS hl)
theorem r_isub (C : Cx K G cc own nL rm rt post pe) {x y : Int32} (hd : decode cc pc = .ok (.isub, 1)) (k : Rn K G nL (pc + 1) lv (.int (x - y) :: st) μ a b) : Rn K G nL pc lv (.int y :: .int x :: st) μ a b := by
  intro H locs ls hH hS hl
  exact lv_isub C.x C.b hd (k H locs ls hH hS hl)
theorem r_imul (C : Cx K G cc own nL rm rt post pe) {x y : Int32} (hd : decode cc pc = .ok (.imul, 1)) (k : Rn K G nL (pc + 1) lv (.int (x * y) :: st) μ a b) : Rn K G nL pc lv (.int y :: .int x :: st) μ a b := by
  intro H locs ls hH hS hl
  exact lv_imul C.x C.b hd (k H locs ls hH hS hl)
theorem r_iand (C : Cx K G cc own nL rm rt post pe) {x y : Int32} (hd : decode cc pc = .ok (.iand, 1)) (k : Rn K G nL (pc + 1) lv (.int (x &&& y) :: st) μ a b) : Rn K G nL pc lv (.int y :: .int x :: st) μ a b := by
  intro H locs ls hH hS hl
  exact lv_iand C.x C.b hd (k H locs ls hH hS hl)
theorem r_idiv (C : Cx K G cc own nL rm rt post pe) {x y : Int32} (hd : decode cc pc = .ok (.idiv, 1)) (hy : ¬ y = 0) (k : Rn K G nL (pc + 1) lv (.int (x / y) :: st) μ a b) : Rn K G nL pc lv (.int y :: .int x :: st) μ a b := by
  intro H locs ls hH hS hl
  exact lv_idiv C.x C.b hd hy (k H locs ls hH hS hl)
theorem r_irem (C : Cx K G cc own nL rm rt post pe) {x y : Int32} (hd : decode cc pc = .ok (.irem, 1)) (hy : ¬ y = 0) (k : Rn K G nL (pc + 1) lv (.int (x - x / y * y) :: st) μ a b) : Rn K G nL pc lv (.int y :: .int x :: st) μ a b := by
  intro H locs ls hH hS hl
  exact lv_irem C.x C.b hd hy (k H locs ls hH hS hl)
theorem r_i2l (C : Cx K G cc own nL rm rt post pe) {x : Int32} (hd : decode cc pc = .ok (.i2l, 1)) (k : Rn K G nL (pc + 1) lv (.long x.toInt64 :: st) μ a b) : Rn K G nL pc lv (.int x :: st) μ a b := by
  intro H locs ls hH hS hl
  exact lv_i2l C.x C.b hd rfl (k H locs ls hH hS hl)
theorem r_lcmp (C : Cx K G cc own nL rm rt post pe) {x y : Int64} (hd : decode cc pc = .ok (.lcmp, 1)) (k : Rn K G nL (pc + 1) lv (.int (lg_cmp x y) :: st) μ a b) : Rn K G nL pc lv (.long y :: .long x :: st) μ a b := by
  intro H locs ls hH hS hl
  exact W.lcmp C.x C.b hd (k H locs ls hH hS hl)
theorem r_dupI (C : Cx K G cc own nL rm rt post pe) {x : Int32} (hd : decode cc pc = .ok (.dup, 1)) (k : Rn K G nL (pc + 1) lv (.int x :: .int x :: st) μ a b) : Rn K G nL pc lv (.int x :: st) μ a b := by
  intro H locs ls hH hS hl
  exact lv_dup C.x C.b hd rfl (k H locs ls hH hS hl)
theorem r_dupR (C : Cx K G cc own nL rm rt post pe) {x : Option Nat} (hd : decode cc pc = .ok (.dup, 1)) (k : Rn K G nL (pc + 1) lv (rv G x :: rv G x :: st) μ a b) : Rn K G nL pc lv (rv G x :: st) μ a b := by
  intro H locs ls hH hS hl
  exact lv_dup C.x C.b hd (rv_cat G x) (k H locs ls hH hS hl)
theorem r_dup2 (C : Cx K G cc own nL rm rt post pe) {x : Int32} {y : Option Nat} (hd : decode cc pc = .ok (.dup2, 1)) (k : Rn K G nL (pc + 1) lv (.int x :: rv G y :: .int x :: rv G y :: st) μ a b) : Rn K G nL pc lv (.int x :: rv G y :: st) μ a b := by
  intro H locs ls hH hS hl
  exact lv_dup2_11 C.x C.b hd rfl (rv_cat G y) (k H locs ls hH hS hl)
theorem r_popI (C : Cx K G cc own nL rm rt post pe) {x : Int32} (hd : decode cc pc = .ok (.pop, 1)) (k : Rn K G nL (pc + 1) lv st μ a b) : Rn K G nL pc lv (.int x :: st) μ a b := by
  intro H locs ls hH hS hl
  exact lv_pop C.x C.b hd rfl (k H locs ls hH hS hl)
theorem r_null (C : Cx K G cc own nL rm rt post pe) (hd : decode cc pc = .ok (.aconst_null, 1)) (k : Rn K G nL (pc + 1) lv (rv G none :: st) μ a b) : Rn K G nL pc lv st μ a b := by
  intro H locs ls hH hS hl
  exact lv_null C.x C.b hd (k H locs ls hH hS hl)
theorem r_goto (C : Cx K G cc own nL rm rt post pe) {off : Int} {tgt : Nat} (hd : decode cc pc = .ok (.goto off, 3)) (ht : (pc : Int) + off = (tgt : Int)) (k : Rn K G nL tgt lv st μ a b) : Rn K G nL pc lv st μ a b := by
  intro H locs ls hH hS hl
  exact lv_goto C.x C.b hd ht (k H locs ls hH hS hl)
theorem r_if_eq (C : Cx K G cc own nL rm rt post pe) {x : Int32} {off : Int} {tgt : Nat} (hd : decode cc pc = .ok (.ifCond .eq off, 3)) (ht : (pc : Int) + off = (tgt : Int)) (kt : x = 0 → Rn K G nL tgt lv st μ a b) (kf : ¬ x = 0 → Rn K G nL (pc + 3) lv st μ a b) : Rn K G nL pc lv (.int x :: st) μ a b := by
  intro H locs ls hH hS hl
  exact lv_if_eq C.x C.b hd ht (fun h => kt h H locs ls hH hS hl) (fun h => kf h H locs ls hH hS hl)
theorem r_icmp_eq (C : Cx K G cc own nL rm rt post pe) {x y : Int32} {off : Int} {tgt : Nat} (hd : decode cc pc = .ok (.if_icmp .eq off, 3)) (ht : (pc : Int) + off = (tgt : Int)) (kt : x = y → Rn K G nL tgt lv st μ a b) (kf : ¬ x = y → Rn K G nL (pc + 3) lv st μ a b) : Rn K G nL pc lv (.int y :: .int x :: st) μ a b := by
  intro H locs ls hH hS hl
  exact lv_icmp_eq C.x C.b hd ht (fun h => kt h H locs ls hH hS hl) (fun h => kf h H locs ls hH hS hl)
theorem r_if_ne (C : Cx K G cc own nL rm rt post pe) {x : Int32} {off : Int} {tgt : Nat} (hd : decode cc pc = .ok (.ifCond .ne off, 3)) (ht : (pc : Int) + off = (tgt : Int)) (kt : ¬ x = 0 → Rn K G nL tgt lv st μ a b) (kf : x = 0 → Rn K G nL (pc + 3) lv st μ a b) : Rn K G nL pc lv (.int x :: st) μ a b := by
  intro H locs ls hH hS hl
  exact lv_if_ne C.x C.b hd ht (fun h => kt h H locs ls hH hS hl) (fun h => kf h H locs ls hH hS hl)
theorem r_icmp_ne (C : Cx K G cc own nL rm rt post pe) {x y : Int32} {off : Int} {tgt : Nat} (hd : decode cc pc = .ok (.if_icmp .ne off, 3)) (ht : (pc : Int) + off = (tgt : Int)) (kt : ¬ x = y → Rn K G nL tgt lv st μ a b) (kf : x = y → Rn K G nL (pc + 3) lv st μ a b) : Rn K G nL pc lv (.int y :: .int x :: st) μ a b := by
  intro H locs ls hH hS hl
  exact lv_icmp_ne C.x C.b hd ht (fun h => kt h H locs ls hH hS hl) (fun h => kf h H locs ls hH hS hl)
theorem r_if_lt (C : Cx K G cc own nL rm rt post pe) {x : Int32} {off : Int} {tgt : Nat} (hd : decode cc pc = .ok (.ifCond .lt off, 3)) (ht : (pc : Int) + off = (tgt : Int)) (kt : x < 0 → Rn K G nL tgt lv st μ a b) (kf : ¬ x < 0 → Rn K G nL (pc + 3) lv st μ a b) : Rn K G nL pc lv (.int x :: st) μ a b := by
  intro H locs ls hH hS hl
  exact lv_if_lt C.x C.b hd ht (fun h => kt h H locs ls hH hS hl) (fun h => kf h H locs ls hH hS hl)
theorem r_icmp_lt (C : Cx K G cc own nL rm rt post pe) {x y : Int32} {off : Int} {tgt : Nat} (hd : decode cc pc = .ok (.if_icmp .lt off, 3)) (ht : (pc : Int) + off = (tgt : Int)) (kt : x < y → Rn K G nL tgt lv st μ a b) (kf : ¬ x < y → Rn K G nL (pc + 3) lv st μ a b) : Rn K G nL pc lv (.int y :: .int x :: st) μ a b := by
  intro H locs ls hH hS hl
  exact lv_icmp_lt C.x C.b hd ht (fun h => kt h H locs ls hH hS hl) (fun h => kf h H locs ls hH hS hl)
theorem r_if_ge (C : Cx K G cc own nL rm rt post pe) {x : Int32} {off : Int} {tgt : Nat} (hd : decode cc pc = .ok (.ifCond .ge off, 3)) (ht : (pc : Int) + off = (tgt : Int)) (kt : 0 ≤ x → Rn K G nL tgt lv st μ a b) (kf : ¬ 0 ≤ x → Rn K G nL (pc + 3) lv st μ a b) : Rn K G nL pc lv (.int x :: st) μ a b := by
  intro H locs ls hH hS hl
  exact lv_if_ge C.x C.b hd ht (fun h => kt h H locs ls hH hS hl) (fun h => kf h H locs ls hH hS hl)
theorem r_icmp_ge (C : Cx K G cc own nL rm rt post pe) {x y : Int32} {off : Int} {tgt : Nat} (hd : decode cc pc = .ok (.if_icmp .ge off, 3)) (ht : (pc : Int) + off = (tgt : Int)) (kt : y ≤ x → Rn K G nL tgt lv st μ a b) (kf : ¬ y ≤ x → Rn K G nL (pc + 3) lv st μ a b) : Rn K G nL pc lv (.int y :: .int x :: st) μ a b := by
  intro H locs ls hH hS hl
  exact lv_icmp_ge C.x C.b hd ht (fun h => kt h H locs ls hH hS hl) (fun h => kf h H locs ls hH hS hl)
theorem r_if_gt (C : Cx K G cc own nL rm rt post pe) {x : Int32} {off : Int} {tgt : Nat} (hd : decode cc pc = .ok (.ifCond .gt off, 3)) (ht : (pc : Int) + off = (tgt : Int)) (kt : 0 < x → Rn K G nL tgt lv st μ a b) (kf : ¬ 0 < x → Rn K G nL (pc + 3) lv st μ a b) : Rn K G nL pc lv (.int x :: st) μ a b := by
  intro H locs ls hH hS hl
  exact lv_if_gt C.x C.b hd ht (fun h => kt h H locs ls hH hS hl) (fun h => kf h H locs ls hH hS hl)
theorem r_icmp_gt (C : Cx K G cc own nL rm rt post pe) {x y : Int32} {off : Int} {tgt : Nat} (hd : decode cc pc = .ok (.if_icmp .gt off, 3)) (ht : (pc : Int) + off = (tgt : Int)) (kt : y < x → Rn K G nL tgt lv st μ a b) (kf : ¬ y < x → Rn K G nL (pc + 3) lv st μ a b) : Rn K G nL pc lv (.int y :: .int x :: st) μ a b := by
  intro H locs ls hH hS hl
  exact lv_icmp_gt C.x C.b hd ht (fun h => kt h H locs ls hH hS hl) (fun h => kf h H locs ls hH hS hl)
theorem r_if_le (C : Cx K G cc own nL rm rt post pe) {x : Int32} {off : Int} {tgt : Nat} (hd : decode cc pc = .ok (.ifCond .le off, 3)) (ht : (pc : Int) + off = (tgt : Int)) (kt : x ≤ 0 → Rn K G nL tgt lv st μ a b) (kf : ¬ x ≤ 0 → Rn K G nL (pc + 3) lv st μ a b) : Rn K G nL pc lv (.int x :: st) μ a b := by
  intro H locs ls hH hS hl
  exact lv_if_le C.x C.b hd ht (fun h => kt h H locs ls hH hS hl) (fun h => kf h H locs ls hH hS hl)
theorem r_icmp_le (C : Cx K G cc own nL rm rt post pe) {x y : Int32} {off : Int} {tgt : Nat} (hd : decode cc pc = .ok (.if_icmp .le off, 3)) (ht : (pc : Int) + off = (tgt : Int)) (kt : x ≤ y → Rn K G nL tgt lv st μ a b) (kf : ¬ x ≤ y → Rn K G nL (pc + 3) lv st μ a b) : Rn K G nL pc lv (.int y :: .int x :: st) μ a b := by
  intro H locs ls hH hS hl
  exact lv_icmp_le C.x C.b hd ht (fun h => kt h H locs ls hH hS hl) (fun h => kf h H locs ls hH hS hl)
theorem r_ifnull (C : Cx K G cc own nL rm rt post pe) {x : Option Nat} {off : Int} {tgt : Nat} (hd : decode cc pc = .ok (.ifnull off, 3)) (ht : (pc : Int) + off = (tgt : Int)) (kt : x = none → Rn K G nL tgt lv st μ a b) (kf : ∀ y, x = some y → Rn K G nL (pc + 3) lv st μ a b) : Rn K G nL pc lv (rv G x :: st) μ a b := by
  intro H locs ls hH hS hl
  cases x with
  | none => exact lv_ifnullN C.x C.b hd ht (kt rfl H locs ls hH hS hl)
  | some y => exact lv_ifnull C.x C.b hd (kf y rfl H locs ls hH hS hl)
theorem r_ifnonnull (C : Cx K G cc own nL rm rt post pe) {x : Option Nat} {off : Int} {tgt : Nat} (hd : decode cc pc = .ok (.ifnonnull off, 3)) (ht : (pc : Int) + off = (tgt : Int)) (kt : ∀ y, x = some y → Rn K G nL tgt lv st μ a b) (kf : x = none → Rn K G nL (pc + 3) lv st μ a b) : Rn K G nL pc lv (rv G x :: st) μ a b := by
  intro H locs ls hH hS hl
  cases x with
  | none => exact lv_ifnonnullN C.x C.b hd (kf rfl H locs ls hH hS hl)
  | some y => exact lv_ifnonnull C.x C.b hd ht (kt y rfl H locs ls hH hS hl)
theorem r_acmp_eq (C : Cx K G cc own nL rm rt post pe) {x y : Option Nat} {off : Int} {tgt : Nat} (hd : decode cc pc = .ok (.if_acmp .eq off, 3)) (ht : (pc : Int) + off = (tgt : Int)) (kt : x = y → Rn K G nL tgt lv st μ a b) (kf : ¬ x = y → Rn K G nL (pc + 3) lv st μ a b) : Rn K G nL pc lv (rv G y :: rv G x :: st) μ a b := by
  intro H locs ls hH hS hl
  rw [← rv_rf, ← rv_rf]
  exact lv_acmp_eq C.x C.b hd ht (fun h => kt ((map_inj G x y).mp h) H locs ls hH hS hl) (fun h => kf (fun q => h ((map_inj G x y).mpr q)) H locs ls hH hS hl)
theorem r_acmp_ne (C : Cx K G cc own nL rm rt post pe) {x y : Option Nat} {off : Int} {tgt : Nat} (hd : decode cc pc = .ok (.if_acmp .ne off, 3)) (ht : (pc : Int) + off = (tgt : Int)) (kt : ¬ x = y → Rn K G nL tgt lv st μ a b) (kf : x = y → Rn K G nL (pc + 3) lv st μ a b) : Rn K G nL pc lv (rv G y :: rv G x :: st) μ a b := by
  intro H locs ls hH hS hl
  rw [← rv_rf, ← rv_rf]
  exact lv_acmp_ne C.x C.b hd ht (fun h => kt (fun q => h ((map_inj G x y).mpr q)) H locs ls hH hS hl) (fun h => kf ((map_inj G x y).mp h) H locs ls hH hS hl)
theorem r_tin (C : Cx K G cc own nL rm rt post pe) {dflt hi off : Int} {offs : Array Int} {len tgt : Nat} {x : Int32} (hd : decode cc pc = .ok (.tableswitch dflt 0 hi offs, len)) {c : Int32} (hx : x = c) (h1 : ¬ c.toInt < 0) (h2 : ¬ hi < c.toInt) (ho : offs[(c.toInt - 0).toNat]? = some off) (ht : (pc : Int) + off = (tgt : Int)) (k : Rn K G nL tgt lv st μ a b) : Rn K G nL pc lv (.int x :: st) μ a b := by
  intro H locs ls hH hS hl
  subst hx
  exact lv_tableIn C.x C.b hd h1 h2 ho ht (k H locs ls hH hS hl)
theorem sw_out {x : Int32} {N : Nat} (hN : N < 2 ^ 31) (h : ∀ n : Nat, n ≤ N → ¬ x = Int32.ofNat n) : x.toInt < 0 ∨ (N : Int) < x.toInt := by
  by_cases h0 : x.toInt < 0
  · exact Or.inl h0
  · refine Or.inr (Int.not_le.mp fun h1 => h x.toInt.toNat (by omega) ?_)
    apply Int32.toInt_inj.mp
    have h2 := nI_toInt (n := x.toInt.toNat) (by omega)
    unfold nI at h2
    rw [h2]
    omega
theorem r_tout (C : Cx K G cc own nL rm rt post pe) {dflt : Int} {N : Nat} {offs : Array Int} {len tgt : Nat} {x : Int32} (hd : decode cc pc = .ok (.tableswitch dflt 0 (N : Int) offs, len)) (hN : N < 2 ^ 31) (h : ∀ n : Nat, n ≤ N → ¬ x = Int32.ofNat n) (ht : (pc : Int) + dflt = (tgt : Int)) (k : Rn K G nL tgt lv st μ a b) : Rn K G nL pc lv (.int x :: st) μ a b := by
  intro H locs ls hH hS hl
  exact lv_tableOut C.x C.b hd (sw_out hN h) ht (k H locs ls hH hS hl)
theorem x_same {s : State} {ci : Nat} {Cn : String} {T : u_T} {N : Nat} (hc : CL[ci]? = some (Cn, T, N)) {j : Nat} (hj : j < N) : ∀ x, s.fieldFound? (T j).1 (T j).2.1 (T j).2.2.1 = some x → s.fieldFound? Cn (T j).2.1 (T j).2.2.1 = some x := by
  intro x h
  have h0 : (T j).1 = Cn := cl_own hc j hj
  rw [h0] at h
  exact h
theorem r_getI (C : Cx K G cc own nL rm rt post pe) {Cn : String} {T : u_T} {N ci idx : Nat} (hc : CL[ci]? = some (Cn, T, N)) (j : Nat) (hj : j < N) (hlk : (Cond.fieldLink own idx Cn (T j).2.1 (T j).2.2.1).before (ka K) (ks K) = true) (hsh : (shp ci)[j]? = some none) {r : Nat} (hr : Lay μ → okO μ r ci) (hd : decode cc pc = .ok (.getfield idx, 3)) (k : Rn K G nL (pc + 3) lv (.int (mI μ r j) :: st) μ a b) : Rn K G nL pc lv (rv G (some r) :: st) μ a b := by
  intro H locs ls hH hS hl
  have h1 := hr hH.1
  have h9 := cl_lt hc
  exact va_get C.x C.b C.w (cl_in hc) C.o C.k (hH.P h1.1 (rend_o h1.2 (by omega))) 0 rfl hc j hj hlk (x_same hc hj) (flds_get hsh) hd (k H locs ls hH hS hl)
theorem r_getR (C : Cx K G cc own nL rm rt post pe) {Cn : String} {T : u_T} {N ci idx : Nat} (hc : CL[ci]? = some (Cn, T, N)) (j : Nat) (hj : j < N) (hlk : (Cond.fieldLink own idx Cn (T j).2.1 (T j).2.2.1).before (ka K) (ks K) = true) {d : Nat} (hsh : (shp ci)[j]? = some (some d)) {r : Nat} (hr : Lay μ → okO μ r ci) (hd : decode cc pc = .ok (.getfield idx, 3)) (k : Rn K G nL (pc + 3) lv (rv G (some (r + d)) :: st) μ a b) : Rn K G nL pc lv (rv G (some r) :: st) μ a b := by
  intro H locs ls hH hS hl
  have h1 := hr hH.1
  have h9 := cl_lt hc
  exact va_get C.x C.b C.w (cl_in hc) C.o C.k (hH.P h1.1 (rend_o h1.2 (by omega))) 0 rfl hc j hj hlk (x_same hc hj) (flds_get hsh) hd (k H locs ls hH hS hl)
theorem r_putT (C : Cx K G cc own nL rm rt post pe) {Cn : String} {T : u_T} {N ci idx : Nat} (hc : CL[ci]? = some (Cn, T, N)) (j : Nat) (hj : j < N) (hlk : (Cond.fieldLink own idx Cn (T j).2.1 (T j).2.2.1).before (ka K) (ks K) = true) (hsh : (shp ci)[j]? = some none) (hfin : (T j).2.2.2 = false) {ty : FieldType} (hty : parseFieldDescriptor (T j).2.2.1 = some ty) {v : Int32} (hn : narrow ty (.int v) = .int v) (hfit : fits ty (.int v) = true) {r : Nat} (hr : Lay μ → okO μ r ci) (hd : decode cc pc = .ok (.putfield idx, 3)) (k : ∀ μ1, μ1 = sI μ r j v → Rn K G nL (pc + 3) lv st μ1 a b) : Rn K G nL pc lv (.int v :: rv G (some r) :: st) μ a b := by
  intro H locs ls hH hS hl
  have h1 := hr hH.1
  have h9 := cl_lt hc
  have hap := va_apart (own := own) C.w (cl_in hc) (fun k => ftyD (T k).2.2.1) (cl_ty hc) (cl_nm hc) C.k hc
  have hre := rend_o (G := G) h1.2 (by omega)
  obtain ⟨q, h2, cell, q1, q2, q3, q4⟩ := hH.P h1.1 hre 0 _ rfl
  have hq : q = (Cn, T, N) := Option.some.inj (h2.symm.trans hc)
  subst hq
  obtain ⟨hSl, hfc, kC, hkC, hkind⟩ := C.k.1 ci _ hc
  obtain ⟨cf, kf, fi, f, hi, hsl⟩ := hSl j hj
  have hlay := C.w _ (cl_in hc _ (u_in_lay hj))
  unfold u_lay at hlay
  rw [if_neg (by rw [hfin]; decide)] at hlay
  have hst := (u_facts hfc hkC (u_lays C.w (cl_in hc) hj) hi).1
  have h6 := u_store hfc hkC hkind hlay hi hty hn hfit
  refine W.putK C.x C.b (f := f) ⟨C.o, hlk, ⟨_, _, _, x_same hc hj _ hi⟩, hst⟩ (by rw [q2]; exact h6) q1 q3 (by rw [hsl]; exact k2_hasslot (q4 j hj)) rfl rfl hd fun H' e1 e2 e3 => ?_
  rw [hsl] at e1 ⊢
  refine k _ rfl H' _ ls (hH.put (r := r) (hH.1.sI r j v) rfl e2 e3 (fun x hx => rend_ne hx) ?_) (hS.put e2 e3 (by unfold gF; omega)) hl
  rw [rend_o (μ := sI μ r j v) (ci := ci) h1.2 (by omega), flds_set hsh]
  exact ⟨_, hc, t_OB.to (V := updV (vp_V (flds G μ r ci)) j (.int v)) ⟨_, e1, q2, q3, t_set q4 hap hj (.int v)⟩ (fun i _ => vp_updV_set (by rw [flds_len, cl_len hc]; exact hj) (.int v) i)⟩
theorem r_putI (C : Cx K G cc own nL rm rt post pe) {Cn : String} {T : u_T} {N ci idx : Nat} (hc : CL[ci]? = some (Cn, T, N)) (j : Nat) (hj : j < N) (hlk : (Cond.fieldLink own idx Cn (T j).2.1 (T j).2.2.1).before (ka K) (ks K) = true) (hsh : (shp ci)[j]? = some none) (hfin : (T j).2.2.2 = false) (hty : parseFieldDescriptor (T j).2.2.1 = some .int) {v : Int32} {r : Nat} (hr : Lay μ → okO μ r ci) (hd : decode cc pc = .ok (.putfield idx, 3)) (k : ∀ μ1, μ1 = sI μ r j v → Rn K G nL (pc + 3) lv st μ1 a b) : Rn K G nL pc lv (.int v :: rv G (some r) :: st) μ a b :=
  r_putT C hc j hj hlk hsh hfin hty rfl rfl hr hd k
theorem r_putZ (C : Cx K G cc own nL rm rt post pe) {Cn : String} {T : u_T} {N ci idx : Nat} (hc : CL[ci]? = some (Cn, T, N)) (j : Nat) (hj : j < N) (hlk : (Cond.fieldLink own idx Cn (T j).2.1 (T j).2.2.1).before (ka K) (ks K) = true) (hsh : (shp ci)[j]? = some none) (hfin : (T j).2.2.2 = false) (hty : parseFieldDescriptor (T j).2.2.1 = some .boolean) {v : Int32} (hz : zb v) {r : Nat} (hr : Lay μ → okO μ r ci) (hd : decode cc pc = .ok (.putfield idx, 3)) (k : ∀ μ1, μ1 = sI μ r j v → Rn K G nL (pc + 3) lv st μ1 a b) : Rn K G nL pc lv (.int v :: rv G (some r) :: st) μ a b := by
  rcases hz with rfl | rfl
  · exact r_putT C hc j hj hlk hsh hfin hty rfl rfl hr hd k
  · exact r_putT C hc j hj hlk hsh hfin hty rfl rfl hr hd k
theorem r_iald (C : Cx K G cc own nL rm rt post pe) {r n : Nat} {i : Int32} (hr : Lay μ → okA μ r 20 n) (hin : vp_in i n) (hd : decode cc pc = .ok (.iaload, 1)) (k : Rn K G nL (pc + 1) lv (.int (mI μ r i.toNatClampNeg) :: st) μ a b) : Rn K G nL pc lv (.int i :: rv G (some r) :: st) μ a b := by
  intro H locs ls hH hS hl
  have h1 := hr hH.1
  exact va_iald C.x C.b C.k (hH.P h1.1 (rend_i h1)) 0 0 rfl rfl hin hd (k H locs ls hH hS hl)
theorem r_zald (C : Cx K G cc own nL rm rt post pe) {r n : Nat} {i : Int32} (hr : Lay μ → okA μ r 21 n) (hin : vp_in i n) (hd : decode cc pc = .ok (.baload, 1)) (k : Rn K G nL (pc + 1) lv (.int (mI μ r i.toNatClampNeg) :: st) μ a b) : Rn K G nL pc lv (.int i :: rv G (some r) :: st) μ a b := by
  intro H locs ls hH hS hl
  have h1 := hr hH.1
  exact va_zald C.x C.b C.k (hH.P h1.1 (rend_z h1)) 0 1 rfl rfl hin hd (k H locs ls hH hS hl)
theorem r_lald (C : Cx K G cc own nL rm rt post pe) {r n : Nat} {i : Int32} (hr : Lay μ → okA μ r 23 n) (hin : vp_in i n) (hd : decode cc pc = .ok (.laload, 1)) (k : Rn K G nL (pc + 1) lv (.long (mI μ r i.toNatClampNeg).toInt64 :: st) μ a b) : Rn K G nL pc lv (.int i :: rv G (some r) :: st) μ a b := by
  intro H locs ls hH hS hl
  have h1 := hr hH.1
  exact va_lald C.x C.b C.k (hH.P h1.1 (rend_j h1)) 0 3 rfl rfl hin hd (k H locs ls hH hS hl)
theorem r_aald (C : Cx K G cc own nL rm rt post pe) {r n : Nat} {i : Int32} (hr : Lay μ → okA μ r 22 n) (hin : vp_in i n) (hd : decode cc pc = .ok (.aaload, 1)) (k : ∀ e, e = mR μ r i.toNatClampNeg → Rn K G nL (pc + 1) lv (rv G e :: st) μ a b) : Rn K G nL pc lv (.int i :: rv G (some r) :: st) μ a b := by
  intro H locs ls hH hS hl
  have h1 := hr hH.1
  have hk := k _ rfl H locs ls hH hS hl
  rw [← rv_rf] at hk
  exact va_aldq C.x C.b C.k (hH.P h1.1 (rend_q h1)) 0 2 rfl rfl hin hd hk
theorem r_alen (C : Cx K G cc own nL rm rt post pe) {r n kd t0 : Nat} {x : vp_A} {v : Int32} {ty : FieldType} (hr : Lay μ → okA μ r kd n) (hre : okA μ r kd n → ∃ cA, rend G μ r = .inl (cA, x) ∧ (gT G)[t0]? = some (cA, ty)) (hx : Int32.ofNat x.1 = v) (hd : decode cc pc = .ok (.arraylength, 1)) (k : Rn K G nL (pc + 1) lv (.int v :: st) μ a b) : Rn K G nL pc lv (rv G (some r) :: st) μ a b := by
  intro H locs ls hH hS hl
  have h1 := hr hH.1
  obtain ⟨cA, h2, h3⟩ := hre h1
  exact va_alen C.x C.b C.k (hH.P h1.1 h2) 0 t0 rfl h3 hx hd (k H locs ls hH hS hl)
theorem r_alenQ (C : Cx K G cc own nL rm rt post pe) {r n : Nat} {v : Int32} (hr : Lay μ → okA μ r 22 n) (hv : Int32.ofNat n = v) (hd : decode cc pc = .ok (.arraylength, 1)) (k : Rn K G nL (pc + 1) lv (.int v :: st) μ a b) : Rn K G nL pc lv (rv G (some r) :: st) μ a b := r_alen (t0 := 2) (ty := .object "LineCollector$Item") C hr (fun h => ⟨gA G 2, rend_q h, rfl⟩) hv hd k
theorem r_iast (C : Cx K G cc own nL rm rt post pe) {r n : Nat} {i : Int32} (hr : Lay μ → okA μ r 20 n) (hin : vp_in i n) (hd : decode cc pc = .ok (.iastore, 1)) {v : Int32} (k : ∀ μ1, μ1 = sI μ r i.toNatClampNeg v → Rn K G nL (pc + 1) lv st μ1 a b) : Rn K G nL pc lv (.int v :: .int i :: rv G (some r) :: st) μ a b := by
  intro H locs ls hH hS hl
  have h1 := hr hH.1
  have hre := rend_i (G := G) h1
  have ha : H[gb G + r]? = some (arrV (gA G 0) n (fun j => .int (mI μ r j))) := by
    have h2 : va_at (gD G) CL (gb G + r, rend G μ r) H := hH.2.2 r h1.1
    rw [hre] at h2
    exact h2
  refine W.iast C.x C.b ha ((C.k.2 0 _ rfl).1 n _) (fun q => by cases q) (by show ¬ (i < 0 ∨ (arrV _ _ _).slots.size ≤ _); rw [arrV_size]; exact hin) rfl rfl hd fun H1 e z oq => ?_
  refine k _ rfl H1 _ ls (hH.put (r := r) (hH.1.sI r i.toNatClampNeg v) rfl z oq (fun x hx => rend_ne hx) ?_) (hS.put z oq (by unfold gF; omega)) hl
  rw [rend_i (μ := sI μ r i.toNatClampNeg v) (r := r) (n := n) h1]
  show H1[gb G + r]? = some (arrV (gA G 0) n (fun j => .int (mI (sI μ r i.toNatClampNeg v) r j)))
  rw [e, arrV_store]
  congr 2
  funext q
  by_cases hq : q = i.toNatClampNeg
  · subst hq
    simp [updV, mI_sI]
  · simp [updV, mI_sI, hq]
theorem r_zast (C : Cx K G cc own nL rm rt post pe) {r n : Nat} {i : Int32} (hr : Lay μ → okA μ r 21 n) (hin : vp_in i n) (hd : decode cc pc = .ok (.bastore, 1)) {v : Int32} (hz : zb v) (k : ∀ μ1, μ1 = sI μ r i.toNatClampNeg v → Rn K G nL (pc + 1) lv st μ1 a b) : Rn K G nL pc lv (.int v :: .int i :: rv G (some r) :: st) μ a b := by
  intro H locs ls hH hS hl
  have hnar : narrow .boolean (.int v) = .int v := by rcases hz with rfl | rfl <;> rfl
  have h1 := hr hH.1
  have hre := rend_z (G := G) h1
  have ha : H[gb G + r]? = some (arrV (gA G 1) n (fun j => .int (mI μ r j))) := by
    have h2 : va_at (gD G) CL (gb G + r, rend G μ r) H := hH.2.2 r h1.1
    rw [hre] at h2
    exact h2
  refine W.zast C.x C.b ha ((C.k.2 1 _ rfl).1 n _) (fun q => by cases q) (by show ¬ (i < 0 ∨ (arrV _ _ _).slots.size ≤ _); rw [arrV_size]; exact hin) rfl rfl hd fun H1 e z oq => ?_
  refine k _ rfl H1 _ ls (hH.put (r := r) (hH.1.sI r i.toNatClampNeg v) rfl z oq (fun x hx => rend_ne hx) ?_) (hS.put z oq (by unfold gF; omega)) hl
  rw [rend_z (μ := sI μ r i.toNatClampNeg v) (r := r) (n := n) h1]
  show H1[gb G + r]? = some (arrV (gA G 1) n (fun j => .int (mI (sI μ r i.toNatClampNeg v) r j)))
  rw [e, arrV_store]
  congr 2
  funext q
  by_cases hq : q = i.toNatClampNeg
  · subst hq
    simp [updV, mI_sI, hnar]
  · simp [updV, mI_sI, hq]
theorem r_last (C : Cx K G cc own nL rm rt post pe) {r n : Nat} {i : Int32} (hr : Lay μ → okA μ r 23 n) (hin : vp_in i n) (hd : decode cc pc = .ok (.lastore, 1)) {v : Int32} (k : ∀ μ1, μ1 = sI μ r i.toNatClampNeg v → Rn K G nL (pc + 1) lv st μ1 a b) : Rn K G nL pc lv (.long v.toInt64 :: .int i :: rv G (some r) :: st) μ a b := by
  intro H locs ls hH hS hl
  have h1 := hr hH.1
  have hre := rend_j (G := G) h1
  have ha : H[gb G + r]? = some (arrV (gA G 3) n (fun j => .long (mI μ r j).toInt64)) := by
    have h2 : va_at (gD G) CL (gb G + r, rend G μ r) H := hH.2.2 r h1.1
    rw [hre] at h2
    exact h2
  refine W.last C.x C.b ha ((C.k.2 3 _ rfl).1 n _) (fun q => by cases q) (by show ¬ (i < 0 ∨ (arrV _ _ _).slots.size ≤ _); rw [arrV_size]; exact hin) rfl rfl hd fun H1 e z oq => ?_
  refine k _ rfl H1 _ ls (hH.put (r := r) (hH.1.sI r i.toNatClampNeg v) rfl z oq (fun x hx => rend_ne hx) ?_) (hS.put z oq (by unfold gF; omega)) hl
  rw [rend_j (μ := sI μ r i.toNatClampNeg v) (r := r) (n := n) h1]
  show H1[gb G + r]? = some (arrV (gA G 3) n (fun j => .long (mI (sI μ r i.toNatClampNeg v) r j).toInt64))
  rw [e, arrV_store]
  congr 2
  funext q
  by_cases hq : q = i.toNatClampNeg
  · subst hq
    simp [updV, mI_sI]
  · simp [updV, mI_sI, hq]
theorem r_aast (C : Cx K G cc own nL rm rt post pe) {r n : Nat} {i : Int32} (hr : Lay μ → okA μ r 22 n) (hin : vp_in i n) (hd : decode cc pc = .ok (.aastore, 1)) {v : Option Nat} (hv : ∀ y, v = some y → okO μ y 5) (k : ∀ μ1, μ1 = sR μ r i.toNatClampNeg v → Rn K G nL (pc + 1) lv st μ1 a b) : Rn K G nL pc lv (rv G v :: .int i :: rv G (some r) :: st) μ a b := by
  intro H locs ls hH hS hl
  have h1 := hr hH.1
  have hre := rend_q (G := G) h1
  have ha : H[gb G + r]? = some (arrV (gA G 2) n (fun j => va_rf ((mR μ r j).map (fun x => gb G + x)))) := by
    have h2 : va_at (gD G) CL (gb G + r, rend G μ r) H := hH.2.2 r h1.1
    rw [hre] at h2
    exact h2
  have fin : ∀ (H1 : Heap), H1[gb G + r]? = some ((arrV (gA G 2) n (fun j => va_rf ((mR μ r j).map (fun x => gb G + x)))).setSlot i.toNatClampNeg (rv G v)) → H1.size = H.size → (∀ q, q ≠ gb G + r → H1[q]? = H[q]?) →
      W (kp K) (kl K) (ke K) (kR K) (ks K) (km K) (ka K) (kw K) (kh K) (kc K) H1 (locs ++ [⟨gb G + r, i.toNatClampNeg⟩]) a b (kq K) (F0 (km K) (pc + 1) ls st) := by
    intro H1 e z oq
    refine k _ rfl H1 _ ls (hH.put (r := r) (hH.1.sR r i.toNatClampNeg v) rfl z oq (fun x hx => rend_neR hx) ?_) (hS.put z oq (by unfold gF; omega)) hl
    rw [rend_q (μ := sR μ r i.toNatClampNeg v) (r := r) (n := n) h1]
    show H1[gb G + r]? = some (arrV (gA G 2) n (fun j => va_rf ((mR (sR μ r i.toNatClampNeg v) r j).map (fun x => gb G + x))))
    rw [e, arrV_store]
    congr 2
    funext q
    by_cases hq : q = i.toNatClampNeg
    · subst hq
      simp [updV, mR_sR, rv_rf]
    · simp [updV, mR_sR, hq]
  have hlt : i.toNatClampNeg < n := Nat.not_le.mp fun q => hin (Or.inr q)
  have h0 : ¬ i < 0 := fun q => hin (Or.inl q)
  cases v with
  | none =>
    exact va_WaastN (C := "LineCollector$Item") C.x C.b ha ((C.k.2 2 _ rfl).1 n _) (fun h => by cases h) (by show ¬ (i < 0 ∨ (arrV _ _ _).slots.size ≤ _); rw [arrV_size]; exact hin) rfl rfl hd fun H1 e z oq => fin H1 e z oq
  | some y =>
    have hy := hv y rfl
    obtain ⟨q, h2, cellV, g1, g2, g3, -⟩ := hH.P hy.1 (rend_o (G := G) hy.2 (by decide)) 0 _ rfl
    have hcls := (C.k.1 5 _ rfl).2
    obtain ⟨kA, comp, k1, k2, k3, -⟩ := (C.k.2 2 _ rfl).2
    have hcomp : comp = (gD G).1 5 := Option.some.inj (k3.symm.trans hcls.1)
    subst hcomp
    obtain ⟨kC, hkC, -⟩ := hcls.2
    exact W.aast C.x C.b ha (fun q h => by cases h) (fun h => by cases h) k1 k2 rfl hkC ⟨h0, by show _ < (arrV _ _ _).slots.size; rw [arrV_size]; exact hlt⟩ g1 (fun q h => by rw [g3] at h; cases h) (by rw [g2]; exact hkC) (by rw [g2]; exact va_assign hcls) rfl rfl hd fun H1 e z oq => fin H1 e z oq
end RX
end
section
/-! Methods by a tuple; entry, calls, returns -/
abbrev Mi : Type := MethodName × ByteArray × Nat × Option FieldType × Room × Nat
abbrev iy (i : Mi) : MethodName := i.1
abbrev ib (i : Mi) : ByteArray := i.2.1
abbrev il (i : Mi) : Nat := i.2.2.1
abbrev ir (i : Mi) : Option FieldType := i.2.2.2.1
abbrev im (i : Mi) : Room := i.2.2.2.2.1
abbrev ia (i : Mi) : Nat := i.2.2.2.2.2
def avl (G : Gl) (avs : List Av) : List Value := avs.map (avr G)
def Ct (l : Launch) (G : Gl) (i : Mi) (avs : List Av) (μ : Mem) (post : Option Value → Mem → Prop) (pe : Nat → Mem → Prop) : Prop :=
  MetX l (iy i) (Cond.code (iy i) (ib i) (il i) (ir i) :: LW) (im i) (va_Pc (avl G avs) (Wd G μ)) (Qe G post pe) (im i).cells (im i).slots (gF G)
def CtW (l : Launch) (G : Gl) (i : Mi) (hh : List (Nat × Nat × Nat × Nat)) (avs : List Av) (μ : Mem) (post : Option Value → Mem → Prop) (pe : Nat → Mem → Prop) : Prop :=
  MetX l (iy i) (Cond.codeWith (iy i) (ib i) (il i) (ir i) hh :: LW) (im i) (va_Pc (avl G avs) (Wd G μ)) (Qe G post pe) (im i).cells (im i).slots (gF G)
def noX : Nat → Mem → Prop := fun _ _ => False
def poV (post : Mem → Prop) : Option Value → Mem → Prop := fun v μ => v = none ∧ post μ
def poI (post : Int32 → Mem → Prop) : Option Value → Mem → Prop := fun v μ => ∃ n : Int32, v = some (.int n) ∧ post n μ
def poQ (G : Gl) (post : Option Nat → Mem → Prop) : Option Value → Mem → Prop := fun v μ => ∃ e : Option Nat, v = some (rv G e) ∧ post e μ
def MiB (i : Mi) : Prop := Cond.initialized (iy i).cls ∈ LW ∧ ((iy i).cls ≠ "java/lang/invoke/MethodHandle" ∧ (iy i).cls ≠ "java/lang/invoke/VarHandle") ∧ (parseMethodDescriptor (iy i).desc).map (fun d => d.parameters.length) = some (ia i)
def MiV (i : Mi) (Cn : String) : Prop := MiB i ∧ Cond.code (iy i) (ib i) (il i) (ir i) ∈ LW ∧ Cond.instanceMethod (iy i) ∈ LW ∧ Cond.selects Cn (iy i) (iy i) ∈ LW
def MiS (i : Mi) : Prop := MiB i ∧ Cond.code (iy i) (ib i) (il i) (ir i) ∈ LW ∧ Cond.static (iy i) ∈ LW
def MiW (i : Mi) (hh : List (Nat × Nat × Nat × Nat)) : Prop := MiB i ∧ Cond.codeWith (iy i) (ib i) (il i) (ir i) hh ∈ LW ∧ Cond.static (iy i) ∈ LW
theorem lg_len (G : Gl) (avs : List Av) : (lg_sl (avl G avs)).length = avs.length := by
  induction avs with
  | nil => rfl
  | cons v vs ih =>
    unfold avl lg_sl at ih ⊢
    rw [List.map_cons, List.flatMap_cons, if_neg (by rw [avr_cat]; decide), List.length_append, ih]
    simp
    omega
theorem lv_args_eq (G : Gl) (avs : List Av) (n : Nat) : lv_args n (avl G avs) = lvr G ((avs.zipIdx n).map (fun q => (q.2, q.1))) := by
  induction avs generalizing n with
  | nil => rfl
  | cons v vs ih =>
    unfold avl at ih ⊢
    rw [List.map_cons, lv_args, if_neg (by rw [avr_cat]; decide), ih, List.zipIdx_cons]
    rfl
theorem Xtra.at {G : Gl} {s U : State} {H : Heap} {locs : List Loc} (h : Xtra G s s.heap) (hS : va_S (gF G) s.heap H locs) (hb : gb G ≤ s.heap.size) (hvm : s.vm.Alike U.vm) : Xtra G U H := by
  obtain ⟨h1, h2, h3, h4, h5, h6⟩ := h
  have hk : ∀ q : Nat, q < s.heap.size → ¬ gF G q → H[q]? = s.heap[q]? := hS.2.1
  exact ⟨(h1.kept (hk _ (by omega) (by unfold gF; omega))).moved hvm, h2, (h3.kept hk).moved hvm, (h4.kept hk).moved hvm, h5.moved hvm, fun q hq => (h6 q hq).moved hvm⟩
theorem Wd.at {G : Gl} {μ : Mem} {s U : State} {H : Heap} {locs : List Loc} (hH : Hd G μ H) (hK : va_K (gD G) CL (gT G) s) (h : Xtra G s s.heap) (hS : va_S (gF G) s.heap H locs) (hb : gb G ≤ s.heap.size) (hU : U.heap = H) (hvm : s.vm.Alike U.vm) : Wd G μ U := by
  subst hU
  exact ⟨hH, hK.moved hvm, h.at hS hb hvm⟩
theorem base_le {K : Kx} {G : Gl} (h : ∃ μ0, Hd G μ0 (ks K).heap) : gb G ≤ (ks K).heap.size := by
  obtain ⟨μ0, h⟩ := h
  rw [h.2.1]
  omega
/-- into a method -/
theorem ct_of {l : Launch} {G : Gl} {i : Mi} {avs : List Av} {μ : Mem} {post : Option Value → Mem → Prop} {pe : Nat → Mem → Prop} (hl : l.stackTraces = false) (hy : plainName (iy i).cls = true) (hn : avs.length ≤ il i)
    (body : ∀ K : Kx, kl K = l → Cx K G (ib i) (iy i).cls (il i) (im i) (ir i) post pe → (kc K).exceptionTable.isEmpty = true → Rn K G (il i) 0 ((avs.zipIdx 0).map (fun q => (q.2, q.1))) [] μ 0 0) : Ct l G i avs μ post pe := by
  refine MetX.ofW (cc := ib i) (maxL := il i) (ret := ir i) hy rfl ?_
  intro p e s m args below meth c s₁ B hml hv
  obtain ⟨rfl, hH, hK, hX⟩ := hv
  have hts : ∀ w ∈ (Cond.code (iy i) (ib i) (il i) (ir i) :: LW), w.before (avl G avs).toArray s = true := atoms_spec B.pre
  have hent := lv_entry (avl G avs) (n := il i) (by rw [lg_len]; exact hn)
  rw [lg_entry_eq]
  rw [lv_args_eq] at hent
  exact body (p, l, e, im i, s, m, (avl G avs).toArray, below, meth, c, MQX below (Qe G post pe) (avl G avs).toArray s (im i).cells (im i).slots (gF G)) rfl
    ⟨B.exec, B.bytes, hml, findClass_of_methodNamed B.named, fun w hw => hts w (List.mem_cons_of_mem _ hw), hK, hX, rfl, B.notSynchronized, B.returns, rfl, ⟨μ, hH⟩, hl⟩ (B.noHandlers (hts _ List.mem_cons_self)) s.heap [] _ hH va_S.rf hent
theorem ctw_of {l : Launch} {G : Gl} {i : Mi} {hh : List (Nat × Nat × Nat × Nat)} {avs : List Av} {μ : Mem} {post : Option Value → Mem → Prop} {pe : Nat → Mem → Prop} (hl : l.stackTraces = false) (hy : plainName (iy i).cls = true) (hn : avs.length ≤ il i)
    (body : ∀ K : Kx, kl K = l → Cx K G (ib i) (iy i).cls (il i) (im i) (ir i) post pe → (kc K).exceptionTable.toList.map (fun h => (h.startPc, h.endPc, h.handlerPc, h.catchType)) = hh → Rn K G (il i) 0 ((avs.zipIdx 0).map (fun q => (q.2, q.1))) [] μ 0 0) : CtW l G i hh avs μ post pe := by
  refine MetX.ofWW (cc := ib i) (maxL := il i) (ret := ir i) (hh := hh) hy rfl ?_
  intro p e s m args below meth c s₁ B hml hv
  obtain ⟨rfl, hH, hK, hX⟩ := hv
  have hts : ∀ w ∈ (Cond.codeWith (iy i) (ib i) (il i) (ir i) hh :: LW), w.before (avl G avs).toArray s = true := atoms_spec B.pre
  have hent := lv_entry (avl G avs) (n := il i) (by rw [lg_len]; exact hn)
  rw [lg_entry_eq]
  rw [lv_args_eq] at hent
  obtain ⟨m9, meth9, c9, hn9, h1, h2, -, -, h3, -⟩ := Cond.codeWith_spec (hts _ List.mem_cons_self)
  cases B.named.symm.trans hn9
  cases B.method.symm.trans h1
  cases (Stand.of_body B).code.symm.trans h2
  exact body (p, l, e, im i, s, m, (avl G avs).toArray, below, meth, c, MQX below (Qe G post pe) (avl G avs).toArray s (im i).cells (im i).slots (gF G)) rfl
    ⟨B.exec, B.bytes, hml, findClass_of_methodNamed B.named, fun w hw => hts w (List.mem_cons_of_mem _ hw), hK, hX, rfl, B.notSynchronized, B.returns, rfl, ⟨μ, hH⟩, hl⟩ h3 s.heap [] _ hH va_S.rf hent
section CX
variable {K : Kx} {G : Gl} {cc : ByteArray} {own : String} {nL : Nat} {rm : Room} {rt : Option FieldType} {post : Option Value → Mem → Prop} {pe : Nat → Mem → Prop} {pc : Nat} {lv : List (Nat × Av)} {st : List Value} {μ : Mem} {a b : Nat}
theorem Cx.nc (C : Cx K G cc own nL rm rt post pe) (i : Nat) {x y : String} (h : ncPairs[i]? = some (x, y)) : va_Nc x y (ks K) := C.e.2.2.2.2.2 (x, y) (List.mem_of_getElem? h)
/-- the end of a method -/
theorem q_ret (C : Cx K G cc own nL rm rt post pe) {H : Heap} {locs : List Loc} (hH : Hd G μ H) (hS : va_S (gF G) (ks K).heap H locs) {v : Option Value} (hp : post v μ) : ∀ t : State, t.heap = H → (ks K).WarmedH t.vm → Qe G post pe (ka K) (ks K) (.returned v) t :=
  fun t ht hW => ⟨hS.F ht, Or.inl ⟨v, μ, rfl, hp, Wd.at hH C.k C.e hS (base_le C.d) ht hW.alike⟩⟩
theorem r_vret {po : Mem → Prop} (C : Cx K G cc own nL rm none (poV po) pe) (hd : decode cc pc = .ok (.return_, 1)) (h1 : a ≤ rm.cells) (h2 : b ≤ rm.slots) (hp : po μ) : Rn K G nL pc lv [] μ a b := by
  intro H locs ls hH hS hl
  have hlocks := C.l
  refine W.widen h1 h2 ?_
  rw [C.q]
  exact wx_mono (fun t => mq_x) (W.vret C.x C.b C.t (q_ret C hH hS ⟨rfl, hp⟩) hS.2.2 hd hlocks)
theorem r_iret {po : Int32 → Mem → Prop} (C : Cx K G cc own nL rm (some .int) (poI po) pe) {v : Int32} (hd : decode cc pc = .ok (.ireturn, 1)) (h1 : a ≤ rm.cells) (h2 : b ≤ rm.slots) (hp : po v μ) : Rn K G nL pc lv [.int v] μ a b := by
  intro H locs ls hH hS hl
  have hlocks := C.l
  refine W.widen h1 h2 ?_
  rw [C.q]
  exact wx_mono (fun t => mq_x) (W.iret C.x C.b C.t (q_ret C hH hS ⟨v, rfl, hp⟩) hS.2.2 hd hlocks)
theorem r_zret {po : Int32 → Mem → Prop} (C : Cx K G cc own nL rm (some .boolean) (poI po) pe) {v : Int32} (hz : zb v) (hd : decode cc pc = .ok (.ireturn, 1)) (h1 : a ≤ rm.cells) (h2 : b ≤ rm.slots) (hp : po v μ) : Rn K G nL pc lv [.int v] μ a b := by
  intro H locs ls hH hS hl
  have hlocks := C.l
  refine W.widen h1 h2 ?_
  rw [C.q]
  exact wx_mono (fun t => mq_x) (W.zret C.x C.b C.t (by rcases hz with rfl | rfl <;> rfl) (q_ret C hH hS ⟨v, rfl, hp⟩) hS.2.2 hd hlocks)
theorem r_aret {cn : String} {po : Option Nat → Mem → Prop} (C : Cx K G cc own nL rm (some (.object cn)) (poQ G po) pe) {v : Option Nat} (hd : decode cc pc = .ok (.areturn, 1)) (h1 : a ≤ rm.cells) (h2 : b ≤ rm.slots) (hp : po v μ) : Rn K G nL pc lv [rv G v] μ a b := by
  intro H locs ls hH hS hl
  have hlocks := C.l
  refine W.widen h1 h2 ?_
  rw [C.q]
  exact wx_mono (fun t => mq_x) (W.aret C.x C.b C.t (Or.inl ⟨_, rfl⟩) (by cases v with | none => exact Or.inl rfl | some y => exact Or.inr ⟨_, rfl⟩) (q_ret C hH hS ⟨v, rfl, hp⟩) hS.2.2 hd hlocks)
/-- behind a call -/
theorem s_over {H : Heap} {locs L : List Loc} {st0 t : State} (hS : va_S (gF G) (ks K).heap H locs) (h0 : st0.heap = H) (hF : va_F (gF G) st0 t) (hL : ∀ q ∈ L, gF G q.base) : va_S (gF G) (ks K).heap t.heap (locs ++ L) := by
  subst h0
  refine ⟨Nat.le_trans hS.1 hF.1, fun q h1 h2 => (hF.2 q (Nat.lt_of_lt_of_le h1 hS.1) h2).trans (hS.2.1 q h1 h2), fun q hq => ?_⟩
  rcases List.mem_append.mp hq with h | h
  · exact hS.2.2 q h
  · exact hL q h
theorem pc_in (C : Cx K G cc own nL rm rt post pe) {H : Heap} {locs : List Loc} (hH : Hd G μ H) (hS : va_S (gF G) (ks K).heap H locs) {avs : List Av} {av : Array Value} (hav : av = (avl G avs).toArray) : ∀ U : State, U.heap = H → (ks K).WarmedH U.vm → va_Pc (avl G avs) (Wd G μ) av U :=
  fun _ hU hW => ⟨hav, Wd.at hH C.k C.e hS (base_le C.d) hU hW.alike⟩
theorem ws_in (C : Cx K G cc own nL rm rt post pe) {w0 : Cond} (h0 : w0 ∈ LW) : ∀ w ∈ (w0 :: LW), ∀ (a' : Array Value) (U : State), (ks K).WarmedH U.vm → w.before a' U = true := by
  intro w hw a' U hU
  rcases List.mem_cons.mp hw with rfl | hw
  · exact lw_ok _ h0 hU (C.w _ h0)
  · exact lw_ok _ hw hU (C.w _ hw)
theorem st_room {g : JFrame} {st : List Value} (h0 : g.monitorRoom = 0) (h : (st.map fun v => v.category).sum ≤ 8) : 2 * g.monitorRoom + (st.map fun v => v.category).sum ≤ 8 := by
  omega
/-- the walk goes on behind a call that returns -/
theorem k_ret {po : Option Value → Mem → Prop} {pf : Nat → Mem → Prop} {H : Heap} {locs : List Loc} {ls : Array Slot} {mc ms : Nat} {avs : Array Value} (hS : va_S (gF G) (ks K).heap H locs) (hl : lv_has ls nL (lvr G lv))
    (kr : ∀ v μ1, po v μ1 → Rn K G nL (pc + 3) lv (v.toList ++ st) μ1 (a + mc) (b + ms)) :
    ∀ (v : Option Value) (st0 t : State) (L : List Loc), st0.heap = H → (ks K).WarmedH t.vm → Qe G po pf avs st0 (.returned v) t → (∀ q ∈ L, gF G q.base) →
      W (kp K) (kl K) (ke K) (kR K) (ks K) (km K) (ka K) (kw K) (kh K) (kc K) t.heap (locs ++ L) (a + mc) (b + ms) (kq K) (F0 (km K) (pc + 3) ls (v.toList ++ st)) := by
  intro v st0 t L h0 hW hq hL
  obtain ⟨hF, ⟨v', μ1, h1, h2, h3⟩ | ⟨q, x, μ1, h1, -⟩⟩ := hq
  · cases h1
    exact kr v μ1 h2 t.heap _ ls h3.1 (s_over hS h0 hF hL) hl
  · cases h1
theorem r_cV (C : Cx K G cc own nL rm rt post pe) {i : Mi} {Cn : String} {T : u_T} {N ci rr idx : Nat} {As : List Av} {po : Option Value → Mem → Prop} {stk : List Value} (hM : Ct (kl K) G i (.inr (.inl (some rr)) :: As) μ po noX) (hi : MiV i Cn) (hc : CL[ci]? = some (Cn, T, N)) (hr : Lay μ → okO μ rr ci)
    (hlk : (Cond.methodLink own idx (iy i)).before (ka K) (ks K) = true) (hn : As.length = ia i) (hrm : (im i).frames + 1 ≤ rm.frames ∧ 8 + (il i + 11) + (im i).locals ≤ rm.locals ∧ a + (im i).cells ≤ rm.cells ∧ b + (im i).slots ≤ rm.slots)
    (hw : (st.map fun v => v.category).sum ≤ 8) (hd : decode cc pc = .ok (.invokevirtual idx, 3)) (hstk : stk = (avl G As).reverse ++ rv G (some rr) :: st) (kr : ∀ v μ1, po v μ1 → Rn K G nL (pc + 3) lv (v.toList ++ st) μ1 (a + (im i).cells) (b + (im i).slots)) : Rn K G nL pc lv stk μ a b := by
  intro H locs ls hH hS hl
  have h1 := hr hH.1
  have h9 := cl_lt hc
  obtain ⟨q, h2, cell, q1, q2, q3, -⟩ := hH.P h1.1 (rend_o (G := G) h1.2 (by omega)) 0 _ rfl
  have hcls : (ks K).vm.findClass Cn = some cell.cls := by rw [q2]; exact (C.k.1 ci _ hc).2.1
  obtain ⟨⟨i1, i2, i3⟩, i4, i5, i6⟩ := hi
  have hR := C.r
  refine overX (g := F0 (km K) pc ls stk) (rest := st) (avs := (avl G (.inr (.inl (some rr)) :: As)).toArray) C.b hM rfl rfl (by rw [hR]; exact hrm.1) (by rw [hR]; exact hrm.2.1) rfl (hl.1.trans C.n.symm) hd (st_room rfl hw) (ws_in C i4) (fun a' U hU => lw_ok _ i1 hU (C.w _ i1)) ?_ (by rw [hR]; exact hrm.2.2.1) (by rw [hR]; exact hrm.2.2.2) (pc_in C hH hS rfl) (k_ret hS hl kr) ?_
  · intro T0 hT0 X
    exact landV X C.x C.o hlk (C.w _ i5) (C.w _ i6) (C.w _ i4) i2 (by rw [hT0]; exact q1) (by rw [q3]; rfl) hcls rfl (argsL := avl G As) (by rw [i3, ← hn]; simp [avl]) hstk (by rw [C.b]; exact hd)
  · intro x st0 t L _ _ hq _
    obtain ⟨-, ⟨v, μ1, h3, -⟩ | ⟨q, x, μ1, -, h3, -⟩⟩ := hq
    · cases h3
    · exact h3.elim
theorem r_cS (C : Cx K G cc own nL rm rt post pe) {i : Mi} {idx : Nat} {As : List Av} {po : Option Value → Mem → Prop} {stk : List Value} (hM : Ct (kl K) G i As μ po noX) (hi : MiS i)
    (hlk : (Cond.methodLink own idx (iy i)).before (ka K) (ks K) = true) (hn : As.length = ia i) (hrm : (im i).frames + 1 ≤ rm.frames ∧ 8 + (il i + 11) + (im i).locals ≤ rm.locals ∧ a + (im i).cells ≤ rm.cells ∧ b + (im i).slots ≤ rm.slots)
    (hw : (st.map fun v => v.category).sum ≤ 8) (hd : decode cc pc = .ok (.invokestatic idx, 3)) (hstk : stk = (avl G As).reverse ++ st) (kr : ∀ v μ1, po v μ1 → Rn K G nL (pc + 3) lv (v.toList ++ st) μ1 (a + (im i).cells) (b + (im i).slots)) : Rn K G nL pc lv stk μ a b := by
  intro H locs ls hH hS hl
  obtain ⟨⟨i1, i2, i3⟩, i4, i5⟩ := hi
  have hR := C.r
  refine overX (g := F0 (km K) pc ls stk) (rest := st) (avs := (avl G As).toArray) C.b hM rfl rfl (by rw [hR]; exact hrm.1) (by rw [hR]; exact hrm.2.1) rfl (hl.1.trans C.n.symm) hd (st_room rfl hw) (ws_in C i4) (fun a' U hU => lw_ok _ i1 hU (C.w _ i1)) ?_ (by rw [hR]; exact hrm.2.2.1) (by rw [hR]; exact hrm.2.2.2) (pc_in C hH hS rfl) (k_ret hS hl kr) ?_
  · intro T0 hT0 X
    obtain ⟨mk, hnamed⟩ := Cond.code_named (C.w _ i4)
    obtain ⟨methM, cM, hmethM, hcM, -, hlM, -, -, -, hsigM⟩ := Cond.code_spec hnamed (C.w _ i4)
    exact landS X C.x C.o hlk (C.w _ i5) (C.w _ i1) hnamed hmethM hcM hlM hsigM i2 rfl (argsL := avl G As) (by rw [i3, ← hn]; simp [avl]) hstk (by rw [C.b]; exact hd)
  · intro x st0 t L _ _ hq _
    obtain ⟨-, ⟨v, μ1, h3, -⟩ | ⟨q, x, μ1, -, h3, -⟩⟩ := hq
    · cases h3
    · exact h3.elim
theorem r_cW (C : Cx K G cc own nL rm rt post pe) {i : Mi} {hh : List (Nat × Nat × Nat × Nat)} {idx : Nat} {As : List Av} {po : Option Value → Mem → Prop} {stk : List Value} (hM : CtW (kl K) G i hh As μ po noX) (hi : MiW i hh)
    (hlk : (Cond.methodLink own idx (iy i)).before (ka K) (ks K) = true) (hn : As.length = ia i) (hrm : (im i).frames + 1 ≤ rm.frames ∧ 8 + (il i + 11) + (im i).locals ≤ rm.locals ∧ a + (im i).cells ≤ rm.cells ∧ b + (im i).slots ≤ rm.slots)
    (hw : (st.map fun v => v.category).sum ≤ 8) (hd : decode cc pc = .ok (.invokestatic idx, 3)) (hstk : stk = (avl G As).reverse ++ st) (kr : ∀ v μ1, po v μ1 → Rn K G nL (pc + 3) lv (v.toList ++ st) μ1 (a + (im i).cells) (b + (im i).slots)) : Rn K G nL pc lv stk μ a b := by
  intro H locs ls hH hS hl
  obtain ⟨⟨i1, i2, i3⟩, i4, i5⟩ := hi
  have hR := C.r
  refine overX (g := F0 (km K) pc ls stk) (rest := st) (avs := (avl G As).toArray) C.b hM rfl rfl (by rw [hR]; exact hrm.1) (by rw [hR]; exact hrm.2.1) rfl (hl.1.trans C.n.symm) hd (st_room rfl hw) (ws_in C i4) (fun a' U hU => lw_ok _ i1 hU (C.w _ i1)) ?_ (by rw [hR]; exact hrm.2.2.1) (by rw [hR]; exact hrm.2.2.2) (pc_in C hH hS rfl) (k_ret hS hl kr) ?_
  · intro T0 hT0 X
    obtain ⟨mk, methM, cM, hnamed, hmethM, hcM, -, hlM, -, -, -, hsigM⟩ := Cond.codeWith_spec (C.w _ i4)
    exact landS X C.x C.o hlk (C.w _ i5) (C.w _ i1) hnamed hmethM hcM hlM hsigM i2 rfl (argsL := avl G As) (by rw [i3, ← hn]; simp [avl]) hstk (by rw [C.b]; exact hd)
  · intro x st0 t L _ _ hq _
    obtain ⟨-, ⟨v, μ1, h3, -⟩ | ⟨q, x, μ1, -, h3, -⟩⟩ := hq
    · cases h3
    · exact h3.elim
/-- Math.min -/
theorem r_min (C : Cx K G cc own nL rm rt post pe) {x y : Int32} {idx : Nat} (hlk : (Cond.methodLink own idx Lib.Math.min.name).before (ka K) (ks K) = true) (hs : (Cond.static Lib.Math.min.name).before (ka K) (ks K) = true) (hi : (Cond.initialized "java/lang/Math").before (ka K) (ks K) = true) (hco : (Cond.code Lib.Math.min.name Lib.Math.min.code 2 (some .int)).before (ka K) (ks K) = true)
    (hrm : 1 ≤ rm.frames ∧ (st.map fun v => v.category).sum + 13 ≤ rm.locals ∧ a ≤ rm.cells ∧ b ≤ rm.slots) (hd : decode cc pc = .ok (.invokestatic idx, 3)) (k : Rn K G nL (pc + 3) lv (.int (jmin x y) :: st) μ a b) : Rn K G nL pc lv (.int y :: .int x :: st) μ a b := by
  intro H locs ls hH hS hl
  have hR := C.r
  exact va_mmin C.x C.b (C.n.trans hl.1.symm) C.o hlk hs hi hco (by rw [hR]; exact hrm.1) (by rw [hR]; exact hrm.2.1) (by rw [hR]; exact hrm.2.2.1) (by rw [hR]; exact hrm.2.2.2) hd (k H locs ls hH hS hl)
end CX
end
section
/-! Throwing and catching -/
theorem at_vm {D : va_G} {cl : List vw_C} {q : Nat × va_E} {H : Heap} {cell : Cell} (h : va_at D cl q H) (hc : H[q.1]? = some cell) : cell.vm = .none := by
  obtain ⟨x, e⟩ := q
  cases e with
  | inl y =>
    obtain ⟨cA, n, f⟩ := y
    have h' : H[x]? = some (vp_cell cA (n, f)) := h
    cases Option.some.inj (hc.symm.trans h')
    rcases f with f | f | f | f | f <;> rfl
  | inr o =>
    obtain ⟨r, -, c2, h2, -, h3, -⟩ := h
    cases Option.some.inj (hc.symm.trans h2)
    exact h3
theorem rend_bump {G : Gl} {μ : Mem} {k r : Nat} (h : r < mN μ) : rend G (bump μ k) r = rend G μ r := by
  have hk : mK (bump μ k) r = mK μ r := by rw [mK_bump, if_neg (by omega)]
  unfold rend
  rw [hk]
  rfl
theorem Hd.bump {G : Gl} {μ : Mem} {H H1 : Heap} {k : Nat} {X : String} (h : Hd G μ H) (hk : CL[k]? = some (X, fT_0, 0)) (hz : H1.size = H.size + 1) (ho : ∀ q, q < H.size → H1[q]? = H[q]?) {ce : Cell} (he : H1[H.size]? = some ce) (hc : ce.cls = (gD G).1 k) (hv : ce.vm = .none) : Hd G (bump μ k) H1 := by
  refine ⟨h.1.bump k, by rw [hz, h.2.1, mN_bump]; omega, fun r hr => ?_⟩
  rw [mN_bump] at hr
  by_cases e : r < mN μ
  · rw [rend_bump e]
    exact (h.2.2 r e).kept (ho _ (by rw [h.2.1]; omega))
  · have er : r = mN μ := by omega
    subst er
    have h9 := cl_lt hk
    rw [rend_o (ci := k) (by rw [mK_bump, if_pos rfl]) (by omega)]
    exact ⟨_, hk, ce, by rw [← h.2.1]; exact he, hc, hv, fun j hj => absurd hj (Nat.not_lt_zero j)⟩
section TX
variable {p : Program} {l : Launch} {e : Env} {R : Room} {s : State} {m₀ : MethodId} {args : Array Value} {below : List Frame} {meth : Method} {c : Code} {W0 : State} {locs : List Loc} {cells slots : Nat}
set_option maxHeartbeats 1000000 in
/-- 'throw new X()', from the call of X's constructor on: the heap afterwards is the heap before but for the exception's own cell -/
theorem x_throw0 (X : Stand p l e R s m₀ args below meth c W0 locs cells slots) (hexec : p.tables.exec = Jvm.exec) (htr : e.platform.stackTraces = false) {own cls : String} {names : List String} {ic : Nat}
    (hown : s.vm.findClass own = some m₀.cls) (hcls : Bundle.fit cls = true) (hnames : ∀ n ∈ names, Bundle.fit n = true)
    (h : ∀ a ∈ Bundle.ownAtoms0 own ic cls names, a.before args s = true)
    (hlocs : ∀ x ∈ locs, ∀ cell, s.heap[x.base]? = some cell → cell.vm.isStatics = false)
    {a : Addr} {cX : ClassId} {kX : Class} (hfoundX : s.vm.findClass cls = some cX) (hkX : s.vm.classes[cX]? = some kX) (hcell : W0.heap[a]? = some (freshCell cX kX)) (hnew : s.heap.size ≤ a)
    {g : JFrame} (hg : g.method = m₀) (hsize : g.locals.size = c.maxLocals) (hlocked : g.locked = none) (hentered : g.entered = []) {rest : List Value} (hstack : g.stack = .ref a :: .ref a :: rest)
    (hd6 : decode c.code g.pc = .ok (.invokespecial ic, 3)) (hd9 : decode c.code (g.pc + 3) = .ok (.athrow, 1)) (hout : ∀ x ∈ c.exceptionTable.toList, covers x (g.pc + 3) = false)
    (hRframes : names.length + 3 < R.frames) (hRlocals : 2 * g.monitorRoom + ((Value.ref a :: rest).map fun v => v.category).sum + (13 * (names.length + 1) + 41) ≤ R.locals) (hlocks : meth.locks = false) :
    ∃ U : State, Steps p.tables e below (W0.setTop g) U ∧ U.status = .running ∧ Ended U below (.threw a) ∧ s.WarmedH U.vm ∧ s.sameButNew ({ U with vm := s.vm } : State) locs cells slots ∧
      ∃ ce : Cell, U.heap[a]? = some ce ∧ ce.cls = cX ∧ ce.vm = .none ∧ U.heap.size = W0.heap.size ∧ ∀ q, q ≠ a → U.heap[q]? = W0.heap[q]? := by
  have howns : e.platform.frameOwnsMonitors = true := by rw [X.admits.platform]
  have hfin : e.platform.finalization = false := by rw [X.admits.platform]
  have hpl : e.platform.magicAccessors = ({} : Platform).magicAccessors := by rw [X.admits.platform]
  have a' : ∀ x, x ∈ Bundle.ownAtoms0 own ic cls names → x.holds args s none s [] = true := fun x hx => h x hx
  obtain ⟨T, Z, L, LZ, Y⟩ := ThrowableC.of_atoms (args := args) howns hfin hpl (fun x hx => h x (by simp [Bundle.ownAtoms0, hx]))
  obtain ⟨P1, Ps, hlen, L1, hL, hP1m, hlink1, hlink⟩ := Bundle.chain0 (args := args) hpl Y.init0 names cls hcls hnames (fun x hx => h x (by simp [Bundle.ownAtoms0, hx]))
  have hfound : s.vm.findClass cls = some P1.m.cls := findClass_of_methodNamed hP1m
  cases Option.some.inj (hfoundX.symm.trans hfound)
  obtain ⟨c1, kX', hc1, hk, hord, -, -, hn6⟩ := Cond.instantiable_spec (a' (.instantiable cls 6) (by simp [Bundle.ownAtoms0]))
  cases Option.some.inj (hc1.symm.trans hfound)
  cases Option.some.inj (hkX.symm.trans hk)
  have hsel0 : selectMethod e.platform s.vm P1.m.cls T.fill0 = .method T.fill0 := by
    obtain ⟨c2, r2, m2, q1, q2, q3, q4, -⟩ := Cond.selects_spec (a' (.selects cls Bundle.tFill0 Bundle.tFill0) (by simp [Bundle.ownAtoms0]))
    cases Option.some.inj (q1.symm.trans hfound)
    cases Option.some.inj (q2.symm.trans (State.methodFound?_of_named Y.fill0 (by decide)))
    cases Option.some.inj (q3.symm.trans Y.fill0)
    rw [Launch.admits_selectMethod X.admits]; exact q4
  have hselF : selectMethod e.platform s.vm P1.m.cls T.fill = .method T.fill := by
    obtain ⟨c2, r2, m2, q1, q2, q3, q4, -⟩ := Cond.selects_spec (a' (.selects cls Bundle.tFill Bundle.tFill) (by simp [Bundle.ownAtoms0]))
    cases Option.some.inj (q1.symm.trans hfound)
    cases Option.some.inj (q2.symm.trans (State.methodFound?_of_named Y.fill (by decide)))
    cases Option.some.inj (q3.symm.trans Y.fill)
    rw [Launch.admits_selectMethod X.admits]; exact q4
  obtain ⟨cellS0, hcS0, hiss⟩ := Y.statics
  obtain ⟨u0, hu0⟩ := Cond.staticRefV Y.unassigned L.unassignedStatic L.statics hcS0 hiss (a' (.isRef (.static Bundle.tN "UNASSIGNED_STACK" Bundle.steD)) (by simp [Bundle.ownAtoms0]))
  obtain ⟨sen, hsen⟩ := Cond.staticRefV Y.sentinel L.sentinelStatic L.statics hcS0 hiss (a' (.isRef (.static Bundle.tN "SUPPRESSED_SENTINEL" Bundle.listD)) (by simp [Bundle.ownAtoms0]))
  obtain ⟨ci198, i198, fB, hk198, hg198, ha198, hsB, -, hnB, htB, hffB⟩ := Cond.ownField (t := .object "java/lang/Object") Y.found L.cls (by decide +kernel) (a' (.fieldLink Bundle.tN 198 Bundle.tN "backtrace" "Ljava/lang/Object;") (by simp [Bundle.ownAtoms0])) (a' (.lays Bundle.tN Bundle.tN "backtrace" "Ljava/lang/Object;") (by simp [Bundle.ownAtoms0])) e.platform hpl
  obtain ⟨cellS, hcS', heS, -, hkeep⟩ := X.same.2.2.2.2.2 T.aS cellS0 hcS0
  have hcellS : W0.heap[T.aS]? = some cellS := hcS'
  have hout' : ∀ i, (⟨T.aS, i⟩ : Loc) ∉ locs := fun i hmem => by
    have := hlocs _ hmem cellS0 hcS0
    rw [hiss] at this; cases this
  have hknownS : cellS.vm ≠ .unknown := by
    rw [heS]; intro hu
    rw [show cellS0.vm = .unknown from hu] at hiss
    cases hiss
  have hneS : T.aS ≠ a := Nat.ne_of_lt (Nat.lt_of_lt_of_le (Array.getElem?_eq_some_iff.mp hcS0).1 hnew)
  obtain ⟨tyC, dC, hdC, hdnC⟩ := Cond.laysAt hfound hk Y.cause (a' (.lays cls Bundle.tN "cause" "Ljava/lang/Throwable;") (by simp [Bundle.ownAtoms0]))
  obtain ⟨tyS, dS, hdS, hdnS⟩ := Cond.laysAt hfound hk Y.stack (a' (.lays cls Bundle.tN "stackTrace" Bundle.steD) (by simp [Bundle.ownAtoms0]))
  obtain ⟨tyP, dP, hdP, hdnP⟩ := Cond.laysAt hfound hk Y.supp (a' (.lays cls Bundle.tN "suppressedExceptions" Bundle.listD) (by simp [Bundle.ownAtoms0]))
  obtain ⟨tyB, dB, hdB, hdnB⟩ := Cond.laysAt hfound hk hffB (a' (.lays cls Bundle.tN "backtrace" "Ljava/lang/Object;") (by simp [Bundle.ownAtoms0]))
  have bC := Cond.laysApart hdB hdC hdnB hdnC (by rw [hnB, Y.causeName]; decide)
  have bS := Cond.laysApart hdB hdS hdnB hdnS (by rw [hnB, Y.stackName]; decide)
  have bP := Cond.laysApart hdB hdP hdnB hdnP (by rw [hnB, Y.suppName]; decide)
  have hskip : SkipFacts T e.platform s (fun u => u) u0 ((preparedCellV T.toThrowableT (freshCell P1.m.cls kX) a u0 sen).withEntry W0.cur) :=
    ⟨{ ci198 := ci198, i198 := i198, fBack := fB }, ⟨hk198, hg198, ha198, hsB⟩, by
      have := fresh_default (c := P1.m.cls) tyB
      rw [htB] at this
      simpa [preparedCellV, Cell.setSlot, Cell.withEntry, Array.getElem?_setIfInBounds, bC, bS, bP, bC.symm, bS.symm, bP.symm, defaultValue] using this, fun _ _ => rfl⟩
  obtain ⟨tm, methC, cdC, kC, vm₁, hnC, -, -, -, -, -, -, -, hW₁, st1⟩ := Steps.initCold (tb := p.tables) (e := e) (below := below) (s := s) (U := W0) X.here hexec X.warmed hpl hown (t := Bundle.init0 cls) rfl rfl (Bundle.fit_spec hcls).2
    (a' (.methodLink own ic (Bundle.init0 cls)) (by simp [Bundle.ownAtoms0])) (h (.instanceMethod (Bundle.init0 cls)) (by cases names <;> simp [Bundle.ownAtoms0, Bundle.chain0Atoms, Bundle.passAtoms])) (bytes := Bundle.five) (maxL := 1) (h (.code (Bundle.init0 cls) Bundle.five 1 none) (by cases names <;> simp [Bundle.ownAtoms0, Bundle.chain0Atoms, Bundle.passAtoms]))
    (f := g) hg (a := a) (rest := .ref a :: rest) hstack hd6
  cases Option.some.inj (hnC.symm.trans hP1m)
  have X₁ := X.noted hW₁
  obtain ⟨vm₂, X₂, st2⟩ := X₁.ctorPlainOffV hexec (g := { g with stack := .ref a :: rest }) hg hsize T L Z LZ (P1 :: Ps)
    (fun P hP => by rcases List.mem_cons.mp hP with rfl | hP; exact L1; exact hL P hP) ⟨hlink1, hlink⟩ (u0 := u0) (sen := sen) (self := a) (cell := freshCell P1.m.cls kX) (cellS := cellS)
    hcell (fun _ => by simp) (by simp) rfl rfl hsel0 hselF hcellS hneS hknownS (by rw [hkeep _ (hout' _)]; exact hu0) (by rw [hkeep _ (hout' _)]; exact hsen)
    (Takes.of_laid hk hord tyC (by rw [Y.causeType]; rfl)) (Takes.of_laid hk hord tyS (by rw [Y.stackType]; exact fits_refV_array _ u0)) (Takes.of_laid hk hord tyP (by rw [Y.suppType]; exact fits_refV_object _ sen)) Y.objLocals hskip htr [] hd6
    (by simp only [List.length_cons, hlen]; omega) (by simp only [List.length_cons, hlen]; exact hRlocals)
  obtain ⟨hwalk, hrun, hended, hWU, hsame⟩ := X₂.athrowLeaves hexec (g := { g with stack := .ref a :: rest, pc := g.pc + 3 }) hg hlocked hentered hout (a := a) (rest := rest) rfl hd9 hlocks
  have hlt : a < ((W0.setVm vm₁).setVm vm₂).heap.size := (Array.getElem?_eq_some_iff.mp hcell).1
  have hU := heapAt_setCell_self (s := (W0.setVm vm₁).setVm vm₂) ((preparedCellV T.toThrowableT (freshCell P1.m.cls kX) a u0 sen).setSlot T.fStack.slot u0.v) hlt
  refine ⟨_, st1 _ (fun acts => ?_), hrun, hended, hWU, hsame.weaken (fun y hy hlt' => ?_) (Nat.le_refl _) (Nat.le_refl _), _, hU, rfl, rfl, ?_, fun q hq => ?_⟩
  · rw [doInvoke_state]
    exact st2 _ hwalk
  · rcases List.mem_append.mp hy with h1 | h1
    · exact h1
    · exfalso
      have hb : y.base = a := by
        simp only [List.mem_cons, List.not_mem_nil, or_false] at h1
        rcases h1 with rfl | rfl | rfl | rfl <;> rfl
      rw [hb] at hlt'
      exact Nat.not_lt.mpr hnew hlt'
  · exact size_setCell ((W0.setVm vm₁).setVm vm₂) a _
  · exact heapAt_setCell_ne (s := (W0.setVm vm₁).setVm vm₂) _ (Ne.symm hq)
end TX
section TY
variable {K : Kx} {G : Gl} {cc : ByteArray} {own : String} {nL : Nat} {rm : Room} {rt : Option FieldType} {post : Option Value → Mem → Prop} {pe : Nat → Mem → Prop} {pc : Nat} {lv : List (Nat × Av)} {st : List Value} {μ : Mem} {a b : Nat}
def exNames : List String := ["java/lang/RuntimeException", "java/lang/Exception"]
def exOk (own : String) (ic : Nat) (X : String) : Prop := ∀ w ∈ Bundle.ownAtoms0 own ic X exNames, w ∈ LW ∨ w = .isRef (.static Bundle.tN "UNASSIGNED_STACK" Bundle.steD) ∨ w = .isRef (.static Bundle.tN "SUPPRESSED_SENTINEL" Bundle.listD) ∨ w = .laysStatic Bundle.tN "UNASSIGNED_STACK" Bundle.steD ∨ w = .laysStatic Bundle.tN "SUPPRESSED_SENTINEL" Bundle.listD
theorem locs_ok (C : Cx K G cc own nL rm rt post pe) {H : Heap} {locs : List Loc} (hS : va_S (gF G) (ks K).heap H locs) : ∀ x ∈ locs, ∀ cell, (ks K).heap[x.base]? = some cell → cell.vm.isStatics = false := by
  intro x hx cell hc
  obtain ⟨μ0, h0⟩ := C.d
  have h1 : gb G ≤ x.base := hS.2.2 x hx
  have h2 : x.base < (ks K).heap.size := (Array.getElem?_eq_some_iff.mp hc).1
  have h3 := h0.2.1
  rw [h3] at h2
  have h4 := h0.2.2 (x.base - gb G) (Nat.sub_lt_left_of_lt_add h1 h2)
  have h5 : gb G + (x.base - gb G) = x.base := Nat.add_sub_cancel' h1
  rw [h5] at h4
  rw [at_vm h4 hc]
  rfl
theorem r_throw (C : Cx K G cc own nL rm rt post pe) (hE : (kc K).exceptionTable.isEmpty = true) {X : String} {i0 ic q : Nat} (hq : CL[q]? = some (X, fT_0, 0)) (hfit : Bundle.fit X = true) (hcl : (Cond.classLink own i0 X).before (ka K) (ks K) = true) (hins : Cond.instantiable X 6 ∈ LW) (hini : Cond.initialized X ∈ LW) (hat : exOk own ic X)
    (d0 : decode cc pc = .ok (.new i0, 3)) (d1 : decode cc (pc + 3) = .ok (.dup, 1)) (d2 : decode cc (pc + 4) = .ok (.invokespecial ic, 3)) (d3 : decode cc (pc + 7) = .ok (.athrow, 1))
    (hrm : 5 < rm.frames ∧ 81 ≤ rm.locals ∧ a + 1 ≤ rm.cells ∧ b + 6 ≤ rm.slots) (hp : pe q (bump μ q)) : Rn K G nL pc lv [] μ a b := by
  intro H locs ls hH hS hl
  have hR := C.r
  obtain ⟨hfc, kC0, hkC0, hkind⟩ := (C.k.1 q _ hq).2
  refine W.newcK C.x C.b C.o hcl (C.w _ hins) (C.w _ hini) rfl d0 (by rw [hR]; exact hrm.2.2.1) (by rw [hR]; exact hrm.2.2.2) hfc rfl fun H1 kC hkC e1 z1 o1 => ?_
  refine lv_dup (pc := pc + 3) C.x C.b d1 rfl ?_
  intro T0 hT0 XS
  have hadm : (ke K).platform.stackTraces = false := by
    have h1 := XS.admits.2.2.2.2.1
    rw [h1]
    exact C.s
  have hsz : (ks K).heap.size ≤ H.size := hS.1
  obtain ⟨U, hst, hrun, hend, hW, hsame, ce, u1, u2, u3, u4, u5⟩ := x_throw0 XS C.x hadm C.o hfit (names := exNames) (by decide) (fun w hw => by
      rcases hat w hw with h | rfl | rfl | rfl | rfl
      · exact C.w _ h
      · exact C.e.2.2.1.isRef
      · exact C.e.2.2.2.1.isRef
      · exact C.e.2.2.1.lays
      · exact C.e.2.2.2.1.lays) (locs_ok C hS) hfc hkC (a := H.size) (by rw [hT0]; exact e1) hsz (g := F0 (km K) (pc + 3 + 1) ls [.ref H.size, .ref H.size]) rfl (hl.1.trans C.n.symm) rfl rfl (rest := []) rfl
    (by rw [C.b]; exact d2) (by rw [C.b]; exact d3) (fun x hx => by
      have h1 : (kc K).exceptionTable = #[] := by simpa using hE
      rw [h1] at hx
      cases hx) (by rw [hR]; exact hrm.1) (by rw [hR]; exact hrm.2.1) C.l
  refine ⟨U, hst, ?_⟩
  have hUo : ∀ x : Nat, x < H.size → U.heap[x]? = H[x]? := fun x hx => by rw [u5 x (Nat.ne_of_lt hx), hT0]; exact o1 x hx
  have hHU : Hd G (bump μ q) U.heap := hH.bump hq (by rw [u4, hT0]; exact z1) hUo u1 u2 u3
  have hSU : va_S (gF G) (ks K).heap U.heap locs := ⟨by rw [u4, hT0, z1]; omega, fun x h1 h2 => (hUo x (Nat.lt_of_lt_of_le h1 hsz)).trans (hS.2.1 x h1 h2), hS.2.2⟩
  rw [C.q]
  exact ⟨.threw H.size, hrun, hend, ⟨hSU.F rfl, Or.inr ⟨q, H.size, bump μ q, rfl, hp, Wd.at hHU C.k C.e hSU (base_le C.d) rfl hW.alike, mN μ, hH.2.1, by rw [mN_bump]; omega, by rw [mK_bump, if_pos rfl]⟩⟩, hW, locs, hsame.mono hrm.2.2.1 hrm.2.2.2, hS.2.2⟩
/-- an exception of a callee goes through a method without handlers -/
theorem r_cVt (C : Cx K G cc own nL rm rt post pe) (hE : (kc K).exceptionTable.isEmpty = true) {i : Mi} {Cn : String} {T : u_T} {N ci rr idx : Nat} {As : List Av} {po : Option Value → Mem → Prop} {stk : List Value} (hM : Ct (kl K) G i (.inr (.inl (some rr)) :: As) μ po pe) (hi : MiV i Cn) (hc : CL[ci]? = some (Cn, T, N)) (hr : Lay μ → okO μ rr ci)
    (hlk : (Cond.methodLink own idx (iy i)).before (ka K) (ks K) = true) (hn : As.length = ia i) (hrm : (im i).frames + 1 ≤ rm.frames ∧ 8 + (il i + 11) + (im i).locals ≤ rm.locals ∧ a + (im i).cells ≤ rm.cells ∧ b + (im i).slots ≤ rm.slots)
    (hw : (st.map fun v => v.category).sum ≤ 8) (hd : decode cc pc = .ok (.invokevirtual idx, 3)) (hstk : stk = (avl G As).reverse ++ rv G (some rr) :: st) (kr : ∀ v μ1, po v μ1 → Rn K G nL (pc + 3) lv (v.toList ++ st) μ1 (a + (im i).cells) (b + (im i).slots)) : Rn K G nL pc lv stk μ a b := by
  intro H locs ls hH hS hl
  have h1 := hr hH.1
  have h9 := cl_lt hc
  obtain ⟨q, h2, cell, q1, q2, q3, -⟩ := hH.P h1.1 (rend_o (G := G) h1.2 (by omega)) 0 _ rfl
  have hcls : (ks K).vm.findClass Cn = some cell.cls := by rw [q2]; exact (C.k.1 ci _ hc).2.1
  obtain ⟨⟨i1, i2, i3⟩, i4, i5, i6⟩ := hi
  have hR := C.r
  refine overX (g := F0 (km K) pc ls stk) (rest := st) (avs := (avl G (.inr (.inl (some rr)) :: As)).toArray) C.b hM rfl rfl (by rw [hR]; exact hrm.1) (by rw [hR]; exact hrm.2.1) rfl (hl.1.trans C.n.symm) hd (st_room rfl hw) (ws_in C i4) (fun a' U hU => lw_ok _ i1 hU (C.w _ i1)) ?_ (by rw [hR]; exact hrm.2.2.1) (by rw [hR]; exact hrm.2.2.2) (pc_in C hH hS rfl) (k_ret hS hl kr) ?_
  · intro T0 hT0 X
    exact landV X C.x C.o hlk (C.w _ i5) (C.w _ i6) (C.w _ i4) i2 (by rw [hT0]; exact q1) (by rw [q3]; rfl) hcls rfl (argsL := avl G As) (by rw [i3, ← hn]; simp [avl]) hstk (by rw [C.b]; exact hd)
  · intro x st0 t L h0 hWt hq hL T1 hT1 X1
    obtain ⟨hF, ⟨v, μ1, h3, -⟩ | ⟨q, x', μ1, h3, h4, h5, h6⟩⟩ := hq
    · cases h3
    · cases h3
      have hSU := s_over hS h0 hF hL
      obtain ⟨hwalk, hrun, hend, hW, hsame⟩ := X1.leaveThrown x (g := F0 (km K) pc ls st) rfl rfl rfl (fun y hy => by
        have h1 : (kc K).exceptionTable = #[] := by simpa using hE
        rw [h1] at hy
        cases hy) C.l
      refine ⟨_, hwalk, ?_⟩
      rw [C.q]
      have hTt : (T1.setFrames (.throwing x :: kw K)).heap = t.heap := hT1
      refine ⟨.threw x, hrun, hend, ⟨hSU.F hTt, Or.inr ⟨q, x, μ1, rfl, h4, ?_, h6⟩⟩, hW, _, hsame.mono (by exact hrm.2.2.1) (by exact hrm.2.2.2), hSU.2.2⟩
      exact Wd.at h5.1 C.k C.e hSU (base_le C.d) hTt hW.alike
end TY
end
section
/-! An exception that a callee throws is caught in the method that called: the catch's classes may still have to be linked -/
section TZ
variable {e : Env} {s : State} {f : JFrame} {a : Addr}
theorem go_hit {Q : Handler → Pre} {E : CtlPost} {d : Bool} {acts : List Action} {x : ExceptionTableEntry} {t : List ExceptionTableEntry} {c : ClassId} {cell : Cell} (hx : covers x f.pc = true) (h0 : x.catchType ≠ 0)
    (hl : s.vm.ClassLinks e.platform f.method.cls x.catchType c) (hcell : s.heap[a]? = some cell) (hobj : ∀ k, cell.vm ≠ .statics k)
    (hk : ∃ k, s.vm.classes[cell.cls]? = some k) (hc : ∃ k, s.vm.classes[c]? = some k) (hfit : s.vm.assignable cell.cls c = true) :
    wp (findHandler.go f a (x :: t)) Q E e d acts s ↔ Q (.found x.handlerPc) d acts (s.setVm (s.vm.noted f.method.cls x.catchType (.cls c))) := by
  simp only [covers] at hx
  obtain ⟨ha, ht⟩ := (resolveClass_links e.toSetting hl).op (op := VmOp.resolveClass f.method.cls x.catchType) rfl
  have hal : s.vm.Alike (s.vm.noted f.method.cls x.catchType (.cls c)) := (Vm.Alike.refl s.vm).noted _ _ _
  obtain ⟨k1, hk1⟩ := hk
  obtain ⟨k2, hk2⟩ := hc
  obtain ⟨k1', hk1', -⟩ := hal.2.2 _ _ hk1
  obtain ⟨k2', hk2', -⟩ := hal.2.2 _ _ hk2
  have hfit' : (s.vm.noted f.method.cls x.catchType (.cls c)).assignable cell.cls c = true := by rw [hal.assignable]; exact hfit
  simp [findHandler.go, hx, h0, ha, ht, hcell, hobj, hk1', hk2', hfit', VmOp.dirties, VmOp.acts]
theorem go_pass {Q : Handler → Pre} {E : CtlPost} {d : Bool} {acts : List Action} {x : ExceptionTableEntry} {t : List ExceptionTableEntry} {c : ClassId} {cell : Cell} (hx : covers x f.pc = true) (h0 : x.catchType ≠ 0)
    (hl : s.vm.ClassLinks e.platform f.method.cls x.catchType c) (hcell : s.heap[a]? = some cell) (hobj : ∀ k, cell.vm ≠ .statics k)
    (hk : ∃ k, s.vm.classes[cell.cls]? = some k) (hc : ∃ k, s.vm.classes[c]? = some k) (hfit : s.vm.assignable cell.cls c = false) :
    wp (findHandler.go f a (x :: t)) Q E e d acts s ↔ wp (findHandler.go f a t) Q E e d acts (s.setVm (s.vm.noted f.method.cls x.catchType (.cls c))) := by
  simp only [covers] at hx
  obtain ⟨ha, ht⟩ := (resolveClass_links e.toSetting hl).op (op := VmOp.resolveClass f.method.cls x.catchType) rfl
  have hal : s.vm.Alike (s.vm.noted f.method.cls x.catchType (.cls c)) := (Vm.Alike.refl s.vm).noted _ _ _
  obtain ⟨k1, hk1⟩ := hk
  obtain ⟨k2, hk2⟩ := hc
  obtain ⟨k1', hk1', -⟩ := hal.2.2 _ _ hk1
  obtain ⟨k2', hk2', -⟩ := hal.2.2 _ _ hk2
  have hfit' : (s.vm.noted f.method.cls x.catchType (.cls c)).assignable cell.cls c = false := by rw [hal.assignable]; exact hfit
  conv => lhs; unfold findHandler.go
  simp [hx, h0, ha, ht, hcell, hobj, hk1', hk2', hfit', VmOp.dirties, VmOp.acts]
theorem catch_to {tb : Tables} {target : State} {g : JFrame} {c : Code} {below : List Frame} (h : At s g.method c below) {pc : Nat} {vm' : Vm}
    (hfind : ∀ (Q : Handler → Pre) (E : CtlPost) (d : Bool) (acts : List Action), wp (findHandler g a) Q E e d acts ((s.setTop g).pushFrame (.throwing a)) ↔ Q (.found pc) d acts (((s.setTop g).pushFrame (.throwing a)).setVm vm'))
    (hrest : Steps tb e below ((s.setVm vm').setTop { g with pc := pc, stack := [.ref a] }) target) : Steps tb e below ((s.setTop g).pushFrame (.throwing a)) target := by
  obtain ⟨hgo, hw⟩ := h.throwing a
  refine Steps.head hgo hw ?_
  have hstep : (stepThrowing e ((s.setTop g).pushFrame (.throwing a)) a (.java g :: s.frames.tail)).Is ((((s.setTop g).pushFrame (.throwing a)).setVm vm').setFrames (.java { g with pc := pc, stack := [.ref a] } :: s.frames.tail)) [] := by
    simp only [stepThrowing, searchFrame, vmDo]
    generalize hr : Sem.go _ e false [] ((s.setTop g).pushFrame (.throwing a)) = res
    obtain ⟨as, rfl, ha⟩ := Sem.eq_ok_of hr (a := Handler.found pc) (s' := ((s.setTop g).pushFrame (.throwing a)).setVm vm') (acts' := []) (by simp [hfind])
    exact ⟨rfl, ha⟩
  rw [stepThread_throwing (frames_entered h.top _), hstep.1]
  obtain ⟨g₀, hg⟩ := Option.isSome_iff_exists.mp h.top
  obtain ⟨r, hr⟩ := State.topJava?_eq_some.mp hg
  have hr' : (s.setVm vm').frames = .java g₀ :: r := hr
  have e1 : ∀ (u : State) (F F' : List Frame), ((u.setFrames F).setVm vm').setFrames F' = (u.setVm vm').setFrames F' := fun u F F' => by
    have e2 : (u.setFrames F).setVm vm' = (u.setVm vm').setFrames F := rfl
    rw [e2, State.setFrames_setFrames]
  rw [State.setTop_of_frames _ hr'] at hrest
  rw [hr, List.tail_cons, State.pushFrame, e1, State.setTop_of_frames _ hr, e1]
  exact hrest
end TZ
/-- the handlers' list leads an exception of the class X to tgt -/
def Caught (args : Array Value) (s : State) (own X : String) (pc tgt : Nat) : List (Nat × Nat × Nat × Nat) → Prop
  | [] => False
  | h :: t => (h.1 ≤ pc ∧ pc < h.2.1 ∧ h.2.2.2 ≠ 0) ∧ ∃ Y : String, (Cond.classLink own h.2.2.2 Y).before args s = true ∧ (((Cond.castable X Y).before args s = true ∧ tgt = h.2.2.1) ∨ (va_Nc X Y s ∧ Caught args s own X pc tgt t))
section TW
variable {p : Program} {l : Launch} {e : Env} {R : Room} {s : State} {m : MethodId} {args : Array Value} {below : List Frame} {meth : Method} {c : Code} {locs : List Loc} {cells slots : Nat}
theorem catch_walk {g : JFrame} (hg : g.method = m) {own cls : String} (hown : s.vm.findClass own = some m.cls) {a : Addr} {cell : Cell} (hobj : cell.vm = .none) (hcls : s.vm.findClass cls = some cell.cls) {tgt : Nat} :
    ∀ (tbl : List ExceptionTableEntry) (T : State), Stand p l e R s m args below meth c T locs cells slots → T.heap[a]? = some cell → Caught args s own cls g.pc tgt (tbl.map (fun h => (h.startPc, h.endPc, h.handlerPc, h.catchType))) →
    ∃ vm', Stand p l e R s m args below meth c (T.setVm vm') locs cells slots ∧ ∀ (Q : Handler → Pre) (E : CtlPost) (d : Bool) (acts : List Action), wp (findHandler.go g a tbl) Q E e d acts ((T.setTop g).pushFrame (.throwing a)) ↔ Q (.found tgt) d acts (((T.setTop g).pushFrame (.throwing a)).setVm vm') := by
  intro tbl
  induction tbl with
  | nil => intro T X _ h; exact h.elim
  | cons x t ih =>
    intro T X hcell h
    obtain ⟨⟨h1, h2, h3⟩, Y, hlink, hor⟩ := h
    dsimp only at h1 h2 h3 hlink
    have hx : covers x g.pc = true := by
      simp only [covers]
      simp [h1, h2]
    have hpl : e.platform.magicAccessors = ({} : Platform).magicAccessors := by rw [X.admits.platform]
    obtain ⟨cT, hcT, hcl⟩ := Cond.classLink_spec hown hlink e.platform hpl
    obtain ⟨dk, _, _, kt, hd, _, _, _, _, hkt, _, hopen⟩ := hcl.here
    have hcl₀ := X.warmed.classLinks hcl
    have hW' : s.WarmedH (T.vm.noted m.cls x.catchType (.cls cT)) := X.warmed.noted hd hopen (State.rightAt_cls hcl)
    have hal := X.warmed.alike
    obtain ⟨kt', hkt', -⟩ := hal.2.2 _ _ hkt
    obtain ⟨kc, hkc⟩ := Vm.classAt_of_findClass hcls
    obtain ⟨kc', hkc', -⟩ := hal.2.2 _ _ hkc
    have ho : ∀ k, cell.vm ≠ .statics k := fun k h => by rw [hobj] at h; cases h
    subst hg
    have hheap : ((T.setTop g).pushFrame (.throwing a)).heap[a]? = some cell := by
      rw [Stand.throwing_heap]; exact hcell
    have hvm : ((T.setTop g).pushFrame (.throwing a)).vm = T.vm := Stand.throwing_vm T g a
    rcases hor with ⟨hcast, rfl⟩ | ⟨⟨c1, c2, n1, n2, n3⟩, hrest⟩
    · obtain ⟨c3, c4, w1, w2, w3⟩ := Cond.castable_spec hcast
      cases hcls.symm.trans w1
      cases hcT.symm.trans w2
      refine ⟨_, X.noted hW', fun Q E d acts => ?_⟩
      exact go_hit (s := (T.setTop g).pushFrame (.throwing a)) (f := g) (c := cT) hx h3 (by rw [hvm]; exact hcl₀) hheap ho (by rw [hvm]; exact ⟨_, hkc'⟩) (by rw [hvm]; exact ⟨_, hkt'⟩) (by rw [hvm, hal.assignable]; exact w3)
    · cases hcls.symm.trans n1
      cases hcT.symm.trans n2
      obtain ⟨vm', X', hf⟩ := ih (T.setVm (T.vm.noted g.method.cls x.catchType (.cls cT))) (X.noted hW') hcell hrest
      refine ⟨vm', X', fun Q E d acts => ?_⟩
      refine (go_pass (s := (T.setTop g).pushFrame (.throwing a)) (f := g) (c := cT) hx h3 (by rw [hvm]; exact hcl₀) hheap ho (by rw [hvm]; exact ⟨_, hkc'⟩) (by rw [hvm]; exact ⟨_, hkt'⟩) (by rw [hvm, hal.assignable]; exact n3)).trans ?_
      exact hf Q E d acts
end TW
section TV
variable {K : Kx} {G : Gl} {cc : ByteArray} {own : String} {nL : Nat} {rm : Room} {rt : Option FieldType} {post : Option Value → Mem → Prop} {pe : Nat → Mem → Prop} {pc : Nat} {lv : List (Nat × Av)} {st : List Value} {μ : Mem} {a b : Nat}
theorem r_cVc (C : Cx K G cc own nL rm rt post pe) {hh : List (Nat × Nat × Nat × Nat)} (hE : (kc K).exceptionTable.toList.map (fun h => (h.startPc, h.endPc, h.handlerPc, h.catchType)) = hh) {i : Mi} {Cn : String} {T : u_T} {N ci rr idx : Nat} {As : List Av} {po : Option Value → Mem → Prop} {pf : Nat → Mem → Prop} {stk : List Value} (hM : Ct (kl K) G i (.inr (.inl (some rr)) :: As) μ po pf) (hi : MiV i Cn) (hc : CL[ci]? = some (Cn, T, N)) (hr : Lay μ → okO μ rr ci)
    (hlk : (Cond.methodLink own idx (iy i)).before (ka K) (ks K) = true) (hn : As.length = ia i) (hrm : (im i).frames + 1 ≤ rm.frames ∧ 8 + (il i + 11) + (im i).locals ≤ rm.locals ∧ a + (im i).cells ≤ rm.cells ∧ b + (im i).slots ≤ rm.slots)
    (hw : (st.map fun v => v.category).sum ≤ 8) (hd : decode cc pc = .ok (.invokevirtual idx, 3)) (hstk : stk = (avl G As).reverse ++ rv G (some rr) :: st) (kr : ∀ v μ1, po v μ1 → Rn K G nL (pc + 3) lv (v.toList ++ st) μ1 (a + (im i).cells) (b + (im i).slots))
    (kt : ∀ q μ1, pf q μ1 → ∃ (X : String) (tgt : Nat), CL[q]? = some (X, fT_0, 0) ∧ Caught (ka K) (ks K) own X pc tgt hh ∧ ∀ z, Rn K G nL tgt lv [rv G (some z)] μ1 (a + (im i).cells) (b + (im i).slots)) : Rn K G nL pc lv stk μ a b := by
  intro H locs ls hH hS hl
  have h1 := hr hH.1
  have h9 := cl_lt hc
  obtain ⟨q, h2, cell, q1, q2, q3, -⟩ := hH.P h1.1 (rend_o (G := G) h1.2 (by omega)) 0 _ rfl
  have hcls : (ks K).vm.findClass Cn = some cell.cls := by rw [q2]; exact (C.k.1 ci _ hc).2.1
  obtain ⟨⟨i1, i2, i3⟩, i4, i5, i6⟩ := hi
  have hR := C.r
  refine overX (g := F0 (km K) pc ls stk) (rest := st) (avs := (avl G (.inr (.inl (some rr)) :: As)).toArray) C.b hM rfl rfl (by rw [hR]; exact hrm.1) (by rw [hR]; exact hrm.2.1) rfl (hl.1.trans C.n.symm) hd (st_room rfl hw) (ws_in C i4) (fun a' U hU => lw_ok _ i1 hU (C.w _ i1)) ?_ (by rw [hR]; exact hrm.2.2.1) (by rw [hR]; exact hrm.2.2.2) (pc_in C hH hS rfl) (k_ret hS hl kr) ?_
  · intro T0 hT0 X
    exact landV X C.x C.o hlk (C.w _ i5) (C.w _ i6) (C.w _ i4) i2 (by rw [hT0]; exact q1) (by rw [q3]; rfl) hcls rfl (argsL := avl G As) (by rw [i3, ← hn]; simp [avl]) hstk (by rw [C.b]; exact hd)
  · intro x st0 t L h0 hWt hq hL T1 hT1 X1
    obtain ⟨hF, ⟨v, μ1, h3, -⟩ | ⟨q, x', μ1, h3, h4, h5, z, h6, h7⟩⟩ := hq
    · cases h3
    · cases h3
      have hSU := s_over hS h0 hF hL
      obtain ⟨X, tgt, hX, hca, hgo⟩ := kt q μ1 h4
      have hq9 := cl_lt hX
      obtain ⟨r9, g1, ce, g2, g3, g4, -⟩ := h5.1.P h7.1 (rend_o (G := G) h7.2 (by omega)) 0 _ rfl
      have hce : (ks K).vm.findClass X = some ce.cls := by rw [g3]; exact (C.k.1 q _ hX).2.1
      have hxz : x = gb G + z := h6
      subst hxz
      rw [← hE] at hca
      obtain ⟨vm', X2, hf⟩ := catch_walk (g := F0 (km K) pc ls st) rfl C.o (a := gb G + z) g4 hce _ T1 X1 (by rw [hT1]; exact g2) hca
      obtain ⟨t2, a1, b1⟩ := hgo z t.heap _ ls h5.1 hSU hl (T1.setVm vm') hT1 X2
      refine ⟨t2, ?_, b1⟩
      refine catch_to (g := F0 (km K) pc ls st) X1.here (vm' := vm') (fun Q E d acts => ?_) a1
      rw [W.findHandler_eq (meth := kh K) (code := kc K) (by rw [Stand.throwing_vm]; exact X1.method') X1.code]
      exact hf Q E d acts
end TV
end
section
/-! Rows for calls, by what comes back -/
section CY
variable {K : Kx} {G : Gl} {cc : ByteArray} {own : String} {nL : Nat} {rm : Room} {rt : Option FieldType} {post : Option Value → Mem → Prop} {pe : Nat → Mem → Prop} {pc : Nat} {lv : List (Nat × Av)} {st : List Value} {μ : Mem} {a b a' b' : Nat}
theorem r_cVv (C : Cx K G cc own nL rm rt post pe) {i : Mi} {Cn : String} {T : u_T} {N ci rr idx : Nat} {As : List Av} {stk : List Value} {po : Mem → Prop} (hM : Ct (kl K) G i (.inr (.inl (some rr)) :: As) μ (poV po) noX) (hi : MiV i Cn) (hc : CL[ci]? = some (Cn, T, N)) (hr : Lay μ → okO μ rr ci) (hlk : (Cond.methodLink own idx (iy i)).before (ka K) (ks K) = true) (hn : As.length = ia i) (hrm : (im i).frames + 1 ≤ rm.frames ∧ 8 + (il i + 11) + (im i).locals ≤ rm.locals ∧ a + (im i).cells ≤ rm.cells ∧ b + (im i).slots ≤ rm.slots) (ha : a + (im i).cells = a') (hb : b + (im i).slots = b') (hw : (st.map fun v => v.category).sum ≤ 8) (hd : decode cc pc = .ok (.invokevirtual idx, 3)) (hstk : stk = (avl G As).reverse ++ rv G (some rr) :: st) (kr : ∀ μ1, po μ1 → Rn K G nL (pc + 3) lv st μ1 a' b') : Rn K G nL pc lv stk μ a b := by
  subst ha; subst hb
  exact r_cV C hM hi hc hr hlk hn hrm hw hd hstk (fun v μ1 h => by obtain ⟨rfl, h⟩ := h; exact kr μ1 h)
theorem r_cVtv (C : Cx K G cc own nL rm rt post pe) (hE : (kc K).exceptionTable.isEmpty = true) {i : Mi} {Cn : String} {T : u_T} {N ci rr idx : Nat} {As : List Av} {stk : List Value} {po : Mem → Prop} (hM : Ct (kl K) G i (.inr (.inl (some rr)) :: As) μ (poV po) pe) (hi : MiV i Cn) (hc : CL[ci]? = some (Cn, T, N)) (hr : Lay μ → okO μ rr ci) (hlk : (Cond.methodLink own idx (iy i)).before (ka K) (ks K) = true) (hn : As.length = ia i) (hrm : (im i).frames + 1 ≤ rm.frames ∧ 8 + (il i + 11) + (im i).locals ≤ rm.locals ∧ a + (im i).cells ≤ rm.cells ∧ b + (im i).slots ≤ rm.slots) (ha : a + (im i).cells = a') (hb : b + (im i).slots = b') (hw : (st.map fun v => v.category).sum ≤ 8) (hd : decode cc pc = .ok (.invokevirtual idx, 3)) (hstk : stk = (avl G As).reverse ++ rv G (some rr) :: st) (kr : ∀ μ1, po μ1 → Rn K G nL (pc + 3) lv st μ1 a' b') : Rn K G nL pc lv stk μ a b := by
  subst ha; subst hb
  exact r_cVt C hE hM hi hc hr hlk hn hrm hw hd hstk (fun v μ1 h => by obtain ⟨rfl, h⟩ := h; exact kr μ1 h)
theorem r_cVcv (C : Cx K G cc own nL rm rt post pe) {hh : List (Nat × Nat × Nat × Nat)} (hE : (kc K).exceptionTable.toList.map (fun h => (h.startPc, h.endPc, h.handlerPc, h.catchType)) = hh) {i : Mi} {Cn : String} {T : u_T} {N ci rr idx : Nat} {As : List Av} {stk : List Value} {po : Mem → Prop} {pf : Nat → Mem → Prop} (hM : Ct (kl K) G i (.inr (.inl (some rr)) :: As) μ (poV po) pf) (hi : MiV i Cn) (hc : CL[ci]? = some (Cn, T, N)) (hr : Lay μ → okO μ rr ci) (hlk : (Cond.methodLink own idx (iy i)).before (ka K) (ks K) = true) (hn : As.length = ia i) (hrm : (im i).frames + 1 ≤ rm.frames ∧ 8 + (il i + 11) + (im i).locals ≤ rm.locals ∧ a + (im i).cells ≤ rm.cells ∧ b + (im i).slots ≤ rm.slots) (ha : a + (im i).cells = a') (hb : b + (im i).slots = b') (hw : (st.map fun v => v.category).sum ≤ 8) (hd : decode cc pc = .ok (.invokevirtual idx, 3)) (hstk : stk = (avl G As).reverse ++ rv G (some rr) :: st) (kr : ∀ μ1, po μ1 → Rn K G nL (pc + 3) lv st μ1 a' b') (kt : ∀ q μ1, pf q μ1 → ∃ (X : String) (tgt : Nat), CL[q]? = some (X, fT_0, 0) ∧ Caught (ka K) (ks K) own X pc tgt hh ∧ ∀ z, Rn K G nL tgt lv [rv G (some z)] μ1 a' b') : Rn K G nL pc lv stk μ a b := by
  subst ha; subst hb
  exact r_cVc C hE hM hi hc hr hlk hn hrm hw hd hstk (fun v μ1 h => by obtain ⟨rfl, h⟩ := h; exact kr μ1 h) kt
theorem r_cSv (C : Cx K G cc own nL rm rt post pe) {i : Mi} {idx : Nat} {As : List Av} {stk : List Value} {po : Mem → Prop} (hM : Ct (kl K) G i As μ (poV po) noX) (hi : MiS i) (hlk : (Cond.methodLink own idx (iy i)).before (ka K) (ks K) = true) (hn : As.length = ia i) (hrm : (im i).frames + 1 ≤ rm.frames ∧ 8 + (il i + 11) + (im i).locals ≤ rm.locals ∧ a + (im i).cells ≤ rm.cells ∧ b + (im i).slots ≤ rm.slots) (ha : a + (im i).cells = a') (hb : b + (im i).slots = b') (hw : (st.map fun v => v.category).sum ≤ 8) (hd : decode cc pc = .ok (.invokestatic idx, 3)) (hstk : stk = (avl G As).reverse ++ st) (kr : ∀ μ1, po μ1 → Rn K G nL (pc + 3) lv st μ1 a' b') : Rn K G nL pc lv stk μ a b := by
  subst ha; subst hb
  exact r_cS C hM hi hlk hn hrm hw hd hstk (fun v μ1 h => by obtain ⟨rfl, h⟩ := h; exact kr μ1 h)
theorem r_cWv (C : Cx K G cc own nL rm rt post pe) {i : Mi} {idx : Nat} {As : List Av} {stk : List Value} {hh : List (Nat × Nat × Nat × Nat)} {po : Mem → Prop} (hM : CtW (kl K) G i hh As μ (poV po) noX) (hi : MiW i hh) (hlk : (Cond.methodLink own idx (iy i)).before (ka K) (ks K) = true) (hn : As.length = ia i) (hrm : (im i).frames + 1 ≤ rm.frames ∧ 8 + (il i + 11) + (im i).locals ≤ rm.locals ∧ a + (im i).cells ≤ rm.cells ∧ b + (im i).slots ≤ rm.slots) (ha : a + (im i).cells = a') (hb : b + (im i).slots = b') (hw : (st.map fun v => v.category).sum ≤ 8) (hd : decode cc pc = .ok (.invokestatic idx, 3)) (hstk : stk = (avl G As).reverse ++ st) (kr : ∀ μ1, po μ1 → Rn K G nL (pc + 3) lv st μ1 a' b') : Rn K G nL pc lv stk μ a b := by
  subst ha; subst hb
  exact r_cW C hM hi hlk hn hrm hw hd hstk (fun v μ1 h => by obtain ⟨rfl, h⟩ := h; exact kr μ1 h)
theorem r_cVi (C : Cx K G cc own nL rm rt post pe) {i : Mi} {Cn : String} {T : u_T} {N ci rr idx : Nat} {As : List Av} {stk : List Value} {po : Int32 → Mem → Prop} (hM : Ct (kl K) G i (.inr (.inl (some rr)) :: As) μ (poI po) noX) (hi : MiV i Cn) (hc : CL[ci]? = some (Cn, T, N)) (hr : Lay μ → okO μ rr ci) (hlk : (Cond.methodLink own idx (iy i)).before (ka K) (ks K) = true) (hn : As.length = ia i) (hrm : (im i).frames + 1 ≤ rm.frames ∧ 8 + (il i + 11) + (im i).locals ≤ rm.locals ∧ a + (im i).cells ≤ rm.cells ∧ b + (im i).slots ≤ rm.slots) (ha : a + (im i).cells = a') (hb : b + (im i).slots = b') (hw : (st.map fun v => v.category).sum ≤ 8) (hd : decode cc pc = .ok (.invokevirtual idx, 3)) (hstk : stk = (avl G As).reverse ++ rv G (some rr) :: st) (kr : ∀ n μ1, po n μ1 → Rn K G nL (pc + 3) lv (.int n :: st) μ1 a' b') : Rn K G nL pc lv stk μ a b := by
  subst ha; subst hb
  exact r_cV C hM hi hc hr hlk hn hrm hw hd hstk (fun v μ1 h => by obtain ⟨n, rfl, h⟩ := h; exact kr n μ1 h)
theorem r_cVti (C : Cx K G cc own nL rm rt post pe) (hE : (kc K).exceptionTable.isEmpty = true) {i : Mi} {Cn : String} {T : u_T} {N ci rr idx : Nat} {As : List Av} {stk : List Value} {po : Int32 → Mem → Prop} (hM : Ct (kl K) G i (.inr (.inl (some rr)) :: As) μ (poI po) pe) (hi : MiV i Cn) (hc : CL[ci]? = some (Cn, T, N)) (hr : Lay μ → okO μ rr ci) (hlk : (Cond.methodLink own idx (iy i)).before (ka K) (ks K) = true) (hn : As.length = ia i) (hrm : (im i).frames + 1 ≤ rm.frames ∧ 8 + (il i + 11) + (im i).locals ≤ rm.locals ∧ a + (im i).cells ≤ rm.cells ∧ b + (im i).slots ≤ rm.slots) (ha : a + (im i).cells = a') (hb : b + (im i).slots = b') (hw : (st.map fun v => v.category).sum ≤ 8) (hd : decode cc pc = .ok (.invokevirtual idx, 3)) (hstk : stk = (avl G As).reverse ++ rv G (some rr) :: st) (kr : ∀ n μ1, po n μ1 → Rn K G nL (pc + 3) lv (.int n :: st) μ1 a' b') : Rn K G nL pc lv stk μ a b := by
  subst ha; subst hb
  exact r_cVt C hE hM hi hc hr hlk hn hrm hw hd hstk (fun v μ1 h => by obtain ⟨n, rfl, h⟩ := h; exact kr n μ1 h)
theorem r_cVci (C : Cx K G cc own nL rm rt post pe) {hh : List (Nat × Nat × Nat × Nat)} (hE : (kc K).exceptionTable.toList.map (fun h => (h.startPc, h.endPc, h.handlerPc, h.catchType)) = hh) {i : Mi} {Cn : String} {T : u_T} {N ci rr idx : Nat} {As : List Av} {stk : List Value} {po : Int32 → Mem → Prop} {pf : Nat → Mem → Prop} (hM : Ct (kl K) G i (.inr (.inl (some rr)) :: As) μ (poI po) pf) (hi : MiV i Cn) (hc : CL[ci]? = some (Cn, T, N)) (hr : Lay μ → okO μ rr ci) (hlk : (Cond.methodLink own idx (iy i)).before (ka K) (ks K) = true) (hn : As.length = ia i) (hrm : (im i).frames + 1 ≤ rm.frames ∧ 8 + (il i + 11) + (im i).locals ≤ rm.locals ∧ a + (im i).cells ≤ rm.cells ∧ b + (im i).slots ≤ rm.slots) (ha : a + (im i).cells = a') (hb : b + (im i).slots = b') (hw : (st.map fun v => v.category).sum ≤ 8) (hd : decode cc pc = .ok (.invokevirtual idx, 3)) (hstk : stk = (avl G As).reverse ++ rv G (some rr) :: st) (kr : ∀ n μ1, po n μ1 → Rn K G nL (pc + 3) lv (.int n :: st) μ1 a' b') (kt : ∀ q μ1, pf q μ1 → ∃ (X : String) (tgt : Nat), CL[q]? = some (X, fT_0, 0) ∧ Caught (ka K) (ks K) own X pc tgt hh ∧ ∀ z, Rn K G nL tgt lv [rv G (some z)] μ1 a' b') : Rn K G nL pc lv stk μ a b := by
  subst ha; subst hb
  exact r_cVc C hE hM hi hc hr hlk hn hrm hw hd hstk (fun v μ1 h => by obtain ⟨n, rfl, h⟩ := h; exact kr n μ1 h) kt
theorem r_cSi (C : Cx K G cc own nL rm rt post pe) {i : Mi} {idx : Nat} {As : List Av} {stk : List Value} {po : Int32 → Mem → Prop} (hM : Ct (kl K) G i As μ (poI po) noX) (hi : MiS i) (hlk : (Cond.methodLink own idx (iy i)).before (ka K) (ks K) = true) (hn : As.length = ia i) (hrm : (im i).frames + 1 ≤ rm.frames ∧ 8 + (il i + 11) + (im i).locals ≤ rm.locals ∧ a + (im i).cells ≤ rm.cells ∧ b + (im i).slots ≤ rm.slots) (ha : a + (im i).cells = a') (hb : b + (im i).slots = b') (hw : (st.map fun v => v.category).sum ≤ 8) (hd : decode cc pc = .ok (.invokestatic idx, 3)) (hstk : stk = (avl G As).reverse ++ st) (kr : ∀ n μ1, po n μ1 → Rn K G nL (pc + 3) lv (.int n :: st) μ1 a' b') : Rn K G nL pc lv stk μ a b := by
  subst ha; subst hb
  exact r_cS C hM hi hlk hn hrm hw hd hstk (fun v μ1 h => by obtain ⟨n, rfl, h⟩ := h; exact kr n μ1 h)
theorem r_cWi (C : Cx K G cc own nL rm rt post pe) {i : Mi} {idx : Nat} {As : List Av} {stk : List Value} {hh : List (Nat × Nat × Nat × Nat)} {po : Int32 → Mem → Prop} (hM : CtW (kl K) G i hh As μ (poI po) noX) (hi : MiW i hh) (hlk : (Cond.methodLink own idx (iy i)).before (ka K) (ks K) = true) (hn : As.length = ia i) (hrm : (im i).frames + 1 ≤ rm.frames ∧ 8 + (il i + 11) + (im i).locals ≤ rm.locals ∧ a + (im i).cells ≤ rm.cells ∧ b + (im i).slots ≤ rm.slots) (ha : a + (im i).cells = a') (hb : b + (im i).slots = b') (hw : (st.map fun v => v.category).sum ≤ 8) (hd : decode cc pc = .ok (.invokestatic idx, 3)) (hstk : stk = (avl G As).reverse ++ st) (kr : ∀ n μ1, po n μ1 → Rn K G nL (pc + 3) lv (.int n :: st) μ1 a' b') : Rn K G nL pc lv stk μ a b := by
  subst ha; subst hb
  exact r_cW C hM hi hlk hn hrm hw hd hstk (fun v μ1 h => by obtain ⟨n, rfl, h⟩ := h; exact kr n μ1 h)
theorem r_cVq (C : Cx K G cc own nL rm rt post pe) {i : Mi} {Cn : String} {T : u_T} {N ci rr idx : Nat} {As : List Av} {stk : List Value} {po : Option Nat → Mem → Prop} (hM : Ct (kl K) G i (.inr (.inl (some rr)) :: As) μ (poQ G po) noX) (hi : MiV i Cn) (hc : CL[ci]? = some (Cn, T, N)) (hr : Lay μ → okO μ rr ci) (hlk : (Cond.methodLink own idx (iy i)).before (ka K) (ks K) = true) (hn : As.length = ia i) (hrm : (im i).frames + 1 ≤ rm.frames ∧ 8 + (il i + 11) + (im i).locals ≤ rm.locals ∧ a + (im i).cells ≤ rm.cells ∧ b + (im i).slots ≤ rm.slots) (ha : a + (im i).cells = a') (hb : b + (im i).slots = b') (hw : (st.map fun v => v.category).sum ≤ 8) (hd : decode cc pc = .ok (.invokevirtual idx, 3)) (hstk : stk = (avl G As).reverse ++ rv G (some rr) :: st) (kr : ∀ e μ1, po e μ1 → Rn K G nL (pc + 3) lv (rv G e :: st) μ1 a' b') : Rn K G nL pc lv stk μ a b := by
  subst ha; subst hb
  exact r_cV C hM hi hc hr hlk hn hrm hw hd hstk (fun v μ1 h => by obtain ⟨e, rfl, h⟩ := h; exact kr e μ1 h)
theorem r_cVtq (C : Cx K G cc own nL rm rt post pe) (hE : (kc K).exceptionTable.isEmpty = true) {i : Mi} {Cn : String} {T : u_T} {N ci rr idx : Nat} {As : List Av} {stk : List Value} {po : Option Nat → Mem → Prop} (hM : Ct (kl K) G i (.inr (.inl (some rr)) :: As) μ (poQ G po) pe) (hi : MiV i Cn) (hc : CL[ci]? = some (Cn, T, N)) (hr : Lay μ → okO μ rr ci) (hlk : (Cond.methodLink own idx (iy i)).before (ka K) (ks K) = true) (hn : As.length = ia i) (hrm : (im i).frames + 1 ≤ rm.frames ∧ 8 + (il i + 11) + (im i).locals ≤ rm.locals ∧ a + (im i).cells ≤ rm.cells ∧ b + (im i).slots ≤ rm.slots) (ha : a + (im i).cells = a') (hb : b + (im i).slots = b') (hw : (st.map fun v => v.category).sum ≤ 8) (hd : decode cc pc = .ok (.invokevirtual idx, 3)) (hstk : stk = (avl G As).reverse ++ rv G (some rr) :: st) (kr : ∀ e μ1, po e μ1 → Rn K G nL (pc + 3) lv (rv G e :: st) μ1 a' b') : Rn K G nL pc lv stk μ a b := by
  subst ha; subst hb
  exact r_cVt C hE hM hi hc hr hlk hn hrm hw hd hstk (fun v μ1 h => by obtain ⟨e, rfl, h⟩ := h; exact kr e μ1 h)
theorem r_cVcq (C : Cx K G cc own nL rm rt post pe) {hh : List (Nat × Nat × Nat × Nat)} (hE : (kc K).exceptionTable.toList.map (fun h => (h.startPc, h.endPc, h.handlerPc, h.catchType)) = hh) {i : Mi} {Cn : String} {T : u_T} {N ci rr idx : Nat} {As : List Av} {stk : List Value} {po : Option Nat → Mem → Prop} {pf : Nat → Mem → Prop} (hM : Ct (kl K) G i (.inr (.inl (some rr)) :: As) μ (poQ G po) pf) (hi : MiV i Cn) (hc : CL[ci]? = some (Cn, T, N)) (hr : Lay μ → okO μ rr ci) (hlk : (Cond.methodLink own idx (iy i)).before (ka K) (ks K) = true) (hn : As.length = ia i) (hrm : (im i).frames + 1 ≤ rm.frames ∧ 8 + (il i + 11) + (im i).locals ≤ rm.locals ∧ a + (im i).cells ≤ rm.cells ∧ b + (im i).slots ≤ rm.slots) (ha : a + (im i).cells = a') (hb : b + (im i).slots = b') (hw : (st.map fun v => v.category).sum ≤ 8) (hd : decode cc pc = .ok (.invokevirtual idx, 3)) (hstk : stk = (avl G As).reverse ++ rv G (some rr) :: st) (kr : ∀ e μ1, po e μ1 → Rn K G nL (pc + 3) lv (rv G e :: st) μ1 a' b') (kt : ∀ q μ1, pf q μ1 → ∃ (X : String) (tgt : Nat), CL[q]? = some (X, fT_0, 0) ∧ Caught (ka K) (ks K) own X pc tgt hh ∧ ∀ z, Rn K G nL tgt lv [rv G (some z)] μ1 a' b') : Rn K G nL pc lv stk μ a b := by
  subst ha; subst hb
  exact r_cVc C hE hM hi hc hr hlk hn hrm hw hd hstk (fun v μ1 h => by obtain ⟨e, rfl, h⟩ := h; exact kr e μ1 h) kt
theorem r_cSq (C : Cx K G cc own nL rm rt post pe) {i : Mi} {idx : Nat} {As : List Av} {stk : List Value} {po : Option Nat → Mem → Prop} (hM : Ct (kl K) G i As μ (poQ G po) noX) (hi : MiS i) (hlk : (Cond.methodLink own idx (iy i)).before (ka K) (ks K) = true) (hn : As.length = ia i) (hrm : (im i).frames + 1 ≤ rm.frames ∧ 8 + (il i + 11) + (im i).locals ≤ rm.locals ∧ a + (im i).cells ≤ rm.cells ∧ b + (im i).slots ≤ rm.slots) (ha : a + (im i).cells = a') (hb : b + (im i).slots = b') (hw : (st.map fun v => v.category).sum ≤ 8) (hd : decode cc pc = .ok (.invokestatic idx, 3)) (hstk : stk = (avl G As).reverse ++ st) (kr : ∀ e μ1, po e μ1 → Rn K G nL (pc + 3) lv (rv G e :: st) μ1 a' b') : Rn K G nL pc lv stk μ a b := by
  subst ha; subst hb
  exact r_cS C hM hi hlk hn hrm hw hd hstk (fun v μ1 h => by obtain ⟨e, rfl, h⟩ := h; exact kr e μ1 h)
theorem r_cWq (C : Cx K G cc own nL rm rt post pe) {i : Mi} {idx : Nat} {As : List Av} {stk : List Value} {hh : List (Nat × Nat × Nat × Nat)} {po : Option Nat → Mem → Prop} (hM : CtW (kl K) G i hh As μ (poQ G po) noX) (hi : MiW i hh) (hlk : (Cond.methodLink own idx (iy i)).before (ka K) (ks K) = true) (hn : As.length = ia i) (hrm : (im i).frames + 1 ≤ rm.frames ∧ 8 + (il i + 11) + (im i).locals ≤ rm.locals ∧ a + (im i).cells ≤ rm.cells ∧ b + (im i).slots ≤ rm.slots) (ha : a + (im i).cells = a') (hb : b + (im i).slots = b') (hw : (st.map fun v => v.category).sum ≤ 8) (hd : decode cc pc = .ok (.invokestatic idx, 3)) (hstk : stk = (avl G As).reverse ++ st) (kr : ∀ e μ1, po e μ1 → Rn K G nL (pc + 3) lv (rv G e :: st) μ1 a' b') : Rn K G nL pc lv stk μ a b := by
  subst ha; subst hb
  exact r_cW C hM hi hlk hn hrm hw hd hstk (fun v μ1 h => by obtain ⟨e, rfl, h⟩ := h; exact kr e μ1 h)
end CY
end
section
/-! The methods, by their code and words (written by a program) -/
def i_C_isRoot : Mi := (⟨"LineCollector", "isRoot", "(I)Z"⟩, prog_1_method_15_code, 1, some .boolean, { frames := 0, cells := 0, slots := 0, locals := 0 }, 1)
set_option maxRecDepth 20000 in
theorem o_C_isRoot : MiS i_C_isRoot := ⟨⟨tb 1 rfl rfl, ⟨by decide, by decide⟩, by decide +kernel⟩, tb 357 rfl rfl, tb 356 rfl rfl⟩
def i_S_has : Mi := (⟨"LineCollector$Span", "has", "(I)Z"⟩, prog_6_method_3_code, 2, some .boolean, { frames := 0, cells := 0, slots := 0, locals := 0 }, 1)
set_option maxRecDepth 20000 in
theorem o_S_has : MiV i_S_has "LineCollector$Span" := ⟨⟨tb 3 rfl rfl, ⟨by decide, by decide⟩, by decide +kernel⟩, tb 224 rfl rfl, tb 222 rfl rfl, tb 223 rfl rfl⟩
def i_S_take : Mi := (⟨"LineCollector$Span", "take", "(I)I"⟩, prog_6_method_4_code, 3, some .int, { frames := 0, cells := 0, slots := 0, locals := 0 }, 1)
set_option maxRecDepth 20000 in
theorem o_S_take : MiV i_S_take "LineCollector$Span" := ⟨⟨tb 3 rfl rfl, ⟨by decide, by decide⟩, by decide +kernel⟩, tb 228 rfl rfl, tb 226 rfl rfl, tb 227 rfl rfl⟩
def i_S_covers : Mi := (⟨"LineCollector$Span", "covers", "(I)Z"⟩, prog_6_method_5_code, 2, some .boolean, { frames := 0, cells := 0, slots := 0, locals := 0 }, 1)
set_option maxRecDepth 20000 in
theorem o_S_covers : MiV i_S_covers "LineCollector$Span" := ⟨⟨tb 3 rfl rfl, ⟨by decide, by decide⟩, by decide +kernel⟩, tb 244 rfl rfl, tb 242 rfl rfl, tb 243 rfl rfl⟩
def i_P_isFree : Mi := (⟨"LineCollector$Places", "isFree", "(I)Z"⟩, prog_4_method_3_code, 2, some .boolean, { frames := 1, cells := 0, slots := 0, locals := 21 }, 1)
set_option maxRecDepth 20000 in
theorem o_P_isFree : MiV i_P_isFree "LineCollector$Places" := ⟨⟨tb 2 rfl rfl, ⟨by decide, by decide⟩, by decide +kernel⟩, tb 240 rfl rfl, tb 238 rfl rfl, tb 239 rfl rfl⟩
def i_S_open : Mi := (⟨"LineCollector$Span", "open", "(II)V"⟩, prog_6_method_2_code, 3, none, { frames := 0, cells := 0, slots := 0, locals := 0 }, 2)
set_option maxRecDepth 20000 in
theorem o_S_open : MiV i_S_open "LineCollector$Span" := ⟨⟨tb 3 rfl rfl, ⟨by decide, by decide⟩, by decide +kernel⟩, tb 188 rfl rfl, tb 186 rfl rfl, tb 187 rfl rfl⟩
def i_P_openOverflow : Mi := (⟨"LineCollector$Places", "openOverflow", "()Z"⟩, prog_4_method_12_code, 4, some .boolean, { frames := 2, cells := 0, slots := 0, locals := 42 }, 0)
set_option maxRecDepth 20000 in
theorem o_P_openOverflow : MiV i_P_openOverflow "LineCollector$Places" := ⟨⟨tb 2 rfl rfl, ⟨by decide, by decide⟩, by decide +kernel⟩, tb 248 rfl rfl, tb 247 rfl rfl, tp 6 rfl rfl⟩
def i_S_endLine : Mi := (⟨"LineCollector$Span", "endLine", "()I"⟩, prog_6_method_6_code, 1, some .int, { frames := 0, cells := 0, slots := 0, locals := 0 }, 0)
set_option maxRecDepth 20000 in
theorem o_S_endLine : MiV i_S_endLine "LineCollector$Span" := ⟨⟨tb 3 rfl rfl, ⟨by decide, by decide⟩, by decide +kernel⟩, tb 236 rfl rfl, tb 234 rfl rfl, tb 235 rfl rfl⟩
def i_P_openHole : Mi := (⟨"LineCollector$Places", "openHole", "()Z"⟩, prog_4_method_11_code, 6, some .boolean, { frames := 2, cells := 0, slots := 0, locals := 42 }, 0)
set_option maxRecDepth 20000 in
theorem o_P_openHole : MiV i_P_openHole "LineCollector$Places" := ⟨⟨tb 2 rfl rfl, ⟨by decide, by decide⟩, by decide +kernel⟩, tb 232 rfl rfl, tb 231 rfl rfl, tp 5 rfl rfl⟩
def i_P_find : Mi := (⟨"LineCollector$Places", "find", "(I)I"⟩, prog_4_method_10_code, 2, some .int, { frames := 3, cells := 0, slots := 0, locals := 67 }, 1)
set_option maxRecDepth 20000 in
theorem o_P_find : MiV i_P_find "LineCollector$Places" := ⟨⟨tb 2 rfl rfl, ⟨by decide, by decide⟩, by decide +kernel⟩, tb 220 rfl rfl, tb 218 rfl rfl, tb 219 rfl rfl⟩
def i_P_occupy : Mi := (⟨"LineCollector$Places", "occupy", "(II)V"⟩, prog_4_method_4_code, 4, none, { frames := 0, cells := 0, slots := 0, locals := 0 }, 2)
set_option maxRecDepth 20000 in
theorem o_P_occupy : MiV i_P_occupy "LineCollector$Places" := ⟨⟨tb 2 rfl rfl, ⟨by decide, by decide⟩, by decide +kernel⟩, tb 264 rfl rfl, tb 262 rfl rfl, tb 263 rfl rfl⟩
def i_C_settle : Mi := (⟨"LineCollector", "settle", "(LLineCollector$Item;I)V"⟩, prog_1_method_22_code, 3, none, { frames := 1, cells := 0, slots := 0, locals := 23 }, 2)
set_option maxRecDepth 20000 in
theorem o_C_settle : MiV i_C_settle "LineCollector" := ⟨⟨tb 1 rfl rfl, ⟨by decide, by decide⟩, by decide +kernel⟩, tb 260 rfl rfl, tb 259 rfl rfl, tp 8 rfl rfl⟩
def i_W_takeFirst : Mi := (⟨"LineCollector$Row", "takeFirst", "()LLineCollector$Item;"⟩, prog_5_method_4_code, 2, some (.object "LineCollector$Item"), { frames := 0, cells := 0, slots := 0, locals := 0 }, 0)
set_option maxRecDepth 20000 in
theorem o_W_takeFirst : MiV i_W_takeFirst "LineCollector$Row" := ⟨⟨tb 5 rfl rfl, ⟨by decide, by decide⟩, by decide +kernel⟩, tb 152 rfl rfl, tb 150 rfl rfl, tb 151 rfl rfl⟩
def i_P_vacate : Mi := (⟨"LineCollector$Places", "vacate", "(II)V"⟩, prog_4_method_5_code, 4, none, { frames := 0, cells := 0, slots := 0, locals := 0 }, 2)
set_option maxRecDepth 20000 in
theorem o_P_vacate : MiV i_P_vacate "LineCollector$Places" := ⟨⟨tb 2 rfl rfl, ⟨by decide, by decide⟩, by decide +kernel⟩, tb 164 rfl rfl, tb 162 rfl rfl, tb 163 rfl rfl⟩
def i_C_remove : Mi := (⟨"LineCollector", "remove", "(LLineCollector$Item;)V"⟩, prog_1_method_24_code, 2, none, { frames := 1, cells := 0, slots := 0, locals := 23 }, 1)
set_option maxRecDepth 20000 in
theorem o_C_remove : MiV i_C_remove "LineCollector" := ⟨⟨tb 1 rfl rfl, ⟨by decide, by decide⟩, by decide +kernel⟩, tb 160 rfl rfl, tb 159 rfl rfl, tp 2 rfl rfl⟩
def i_W_add : Mi := (⟨"LineCollector$Row", "add", "(LLineCollector$Item;)V"⟩, prog_5_method_2_code, 2, none, { frames := 0, cells := 0, slots := 0, locals := 0 }, 1)
set_option maxRecDepth 20000 in
theorem o_W_add : MiV i_W_add "LineCollector$Row" := ⟨⟨tb 5 rfl rfl, ⟨by decide, by decide⟩, by decide +kernel⟩, tb 168 rfl rfl, tb 166 rfl rfl, tb 167 rfl rfl⟩
def i_I_isOld : Mi := (⟨"LineCollector$Item", "isOld", "()Z"⟩, prog_2_method_3_code, 1, some .boolean, { frames := 0, cells := 0, slots := 0, locals := 0 }, 0)
set_option maxRecDepth 20000 in
theorem o_I_isOld : MiV i_I_isOld "LineCollector$Item" := ⟨⟨tb 13 rfl rfl, ⟨by decide, by decide⟩, by decide +kernel⟩, tb 180 rfl rfl, tb 178 rfl rfl, tb 179 rfl rfl⟩
def i_I_isWhite : Mi := (⟨"LineCollector$Item", "isWhite", "()Z"⟩, prog_2_method_4_code, 1, some .boolean, { frames := 1, cells := 0, slots := 0, locals := 20 }, 0)
set_option maxRecDepth 20000 in
theorem o_I_isWhite : MiV i_I_isWhite "LineCollector$Item" := ⟨⟨tb 13 rfl rfl, ⟨by decide, by decide⟩, by decide +kernel⟩, tb 176 rfl rfl, tb 174 rfl rfl, tb 175 rfl rfl⟩
def i_I_turnGreyIfWhite : Mi := (⟨"LineCollector$Item", "turnGreyIfWhite", "()V"⟩, prog_2_method_6_code, 1, none, { frames := 2, cells := 0, slots := 0, locals := 40 }, 0)
set_option maxRecDepth 20000 in
theorem o_I_turnGreyIfWhite : MiV i_I_turnGreyIfWhite "LineCollector$Item" := ⟨⟨tb 13 rfl rfl, ⟨by decide, by decide⟩, by decide +kernel⟩, tb 172 rfl rfl, tb 170 rfl rfl, tb 171 rfl rfl⟩
def i_C_letGo : Mi := (⟨"LineCollector", "letGo", "(LLineCollector$Item;)V"⟩, prog_1_method_27_code, 6, none, { frames := 3, cells := 0, slots := 0, locals := 60 }, 1)
set_option maxRecDepth 20000 in
theorem o_C_letGo : MiV i_C_letGo "LineCollector" := ⟨⟨tb 1 rfl rfl, ⟨by decide, by decide⟩, by decide +kernel⟩, tb 156 rfl rfl, tb 155 rfl rfl, tp 1 rfl rfl⟩
def i_C_drainUpTo : Mi := (⟨"LineCollector", "drainUpTo", "(I)V"⟩, prog_1_method_26_code, 4, none, { frames := 4, cells := 0, slots := 0, locals := 85 }, 1)
set_option maxRecDepth 20000 in
theorem o_C_drainUpTo : MiV i_C_drainUpTo "LineCollector" := ⟨⟨tb 1 rfl rfl, ⟨by decide, by decide⟩, by decide +kernel⟩, tb 148 rfl rfl, tb 147 rfl rfl, tp 0 rfl rfl⟩
def i_P_close : Mi := (⟨"LineCollector$Places", "close", "()V"⟩, prog_4_method_8_code, 1, none, { frames := 1, cells := 0, slots := 0, locals := 22 }, 0)
set_option maxRecDepth 20000 in
theorem o_P_close : MiV i_P_close "LineCollector$Places" := ⟨⟨tb 2 rfl rfl, ⟨by decide, by decide⟩, by decide +kernel⟩, tb 184 rfl rfl, tb 182 rfl rfl, tb 183 rfl rfl⟩
def i_W_clear : Mi := (⟨"LineCollector$Row", "clear", "()V"⟩, prog_5_method_6_code, 1, none, { frames := 0, cells := 0, slots := 0, locals := 0 }, 0)
set_option maxRecDepth 20000 in
theorem o_W_clear : MiV i_W_clear "LineCollector$Row" := ⟨⟨tb 5 rfl rfl, ⟨by decide, by decide⟩, by decide +kernel⟩, tb 200 rfl rfl, tb 198 rfl rfl, tb 199 rfl rfl⟩
def i_G_heldNow : Mi := (⟨"LineCollector$Log", "heldNow", "(I)LLineCollector$Item;"⟩, prog_3_method_3_code, 2, some (.object "LineCollector$Item"), { frames := 0, cells := 0, slots := 0, locals := 0 }, 1)
set_option maxRecDepth 20000 in
theorem o_G_heldNow : MiV i_G_heldNow "LineCollector$Log" := ⟨⟨tb 4 rfl rfl, ⟨by decide, by decide⟩, by decide +kernel⟩, tb 204 rfl rfl, tb 202 rfl rfl, tb 203 rfl rfl⟩
def i_C_gatherSlots : Mi := (⟨"LineCollector", "gatherSlots", "()V"⟩, prog_1_method_34_code, 5, none, { frames := 1, cells := 0, slots := 0, locals := 21 }, 0)
set_option maxRecDepth 20000 in
theorem o_C_gatherSlots : MiV i_C_gatherSlots "LineCollector" := ⟨⟨tb 1 rfl rfl, ⟨by decide, by decide⟩, by decide +kernel⟩, tb 196 rfl rfl, tb 195 rfl rfl, tp 4 rfl rfl⟩
def i_W_get : Mi := (⟨"LineCollector$Row", "get", "(I)LLineCollector$Item;"⟩, prog_5_method_3_code, 2, some (.object "LineCollector$Item"), { frames := 0, cells := 0, slots := 0, locals := 0 }, 1)
set_option maxRecDepth 20000 in
theorem o_W_get : MiV i_W_get "LineCollector$Row" := ⟨⟨tb 5 rfl rfl, ⟨by decide, by decide⟩, by decide +kernel⟩, tb 208 rfl rfl, tb 206 rfl rfl, tb 207 rfl rfl⟩
def i_I_growOld : Mi := (⟨"LineCollector$Item", "growOld", "(I)V"⟩, prog_2_method_5_code, 2, none, { frames := 0, cells := 0, slots := 0, locals := 0 }, 1)
set_option maxRecDepth 20000 in
theorem o_I_growOld : MiV i_I_growOld "LineCollector$Item" := ⟨⟨tb 13 rfl rfl, ⟨by decide, by decide⟩, by decide +kernel⟩, tb 216 rfl rfl, tb 214 rfl rfl, tb 215 rfl rfl⟩
def i_P_moveOut : Mi := (⟨"LineCollector$Places", "moveOut", "(II)V"⟩, prog_4_method_6_code, 4, none, { frames := 0, cells := 0, slots := 0, locals := 0 }, 2)
set_option maxRecDepth 20000 in
theorem o_P_moveOut : MiV i_P_moveOut "LineCollector$Places" := ⟨⟨tb 2 rfl rfl, ⟨by decide, by decide⟩, by decide +kernel⟩, tb 256 rfl rfl, tb 254 rfl rfl, tb 255 rfl rfl⟩
def i_C_moveTo : Mi := (⟨"LineCollector", "moveTo", "(LLineCollector$Item;I)V"⟩, prog_1_method_23_code, 3, none, { frames := 2, cells := 0, slots := 0, locals := 45 }, 2)
set_option maxRecDepth 20000 in
theorem o_C_moveTo : MiV i_C_moveTo "LineCollector" := ⟨⟨tb 1 rfl rfl, ⟨by decide, by decide⟩, by decide +kernel⟩, tb 252 rfl rfl, tb 251 rfl rfl, tp 7 rfl rfl⟩
def i_C_addFieldsToSlots : Mi := (⟨"LineCollector", "addFieldsToSlots", "(LLineCollector$Item;)V"⟩, prog_1_method_35_code, 6, none, { frames := 1, cells := 0, slots := 0, locals := 21 }, 1)
set_option maxRecDepth 20000 in
theorem o_C_addFieldsToSlots : MiV i_C_addFieldsToSlots "LineCollector" := ⟨⟨tb 1 rfl rfl, ⟨by decide, by decide⟩, by decide +kernel⟩, tb 268 rfl rfl, tb 267 rfl rfl, tp 9 rfl rfl⟩
def i_P_forgetMovedOut : Mi := (⟨"LineCollector$Places", "forgetMovedOut", "()V"⟩, prog_4_method_7_code, 2, none, { frames := 0, cells := 0, slots := 0, locals := 0 }, 0)
set_option maxRecDepth 20000 in
theorem o_P_forgetMovedOut : MiV i_P_forgetMovedOut "LineCollector$Places" := ⟨⟨tb 2 rfl rfl, ⟨by decide, by decide⟩, by decide +kernel⟩, tb 272 rfl rfl, tb 270 rfl rfl, tb 271 rfl rfl⟩
def i_C_countSlots : Mi := (⟨"LineCollector", "countSlots", "()I"⟩, prog_1_method_33_code, 4, some .int, { frames := 4, cells := 0, slots := 0, locals := 88 }, 0)
set_option maxRecDepth 20000 in
theorem o_C_countSlots : MiV i_C_countSlots "LineCollector" := ⟨⟨tb 1 rfl rfl, ⟨by decide, by decide⟩, by decide +kernel⟩, tb 192 rfl rfl, tb 191 rfl rfl, tp 3 rfl rfl⟩
def i_C_loseYoung : Mi := (⟨"LineCollector", "loseYoung", "()V"⟩, prog_1_method_36_code, 5, none, { frames := 2, cells := 0, slots := 0, locals := 44 }, 0)
set_option maxRecDepth 20000 in
theorem o_C_loseYoung : MiV i_C_loseYoung "LineCollector" := ⟨⟨tb 1 rfl rfl, ⟨by decide, by decide⟩, by decide +kernel⟩, tb 276 rfl rfl, tb 275 rfl rfl, tp 10 rfl rfl⟩
def i_G_heldBefore : Mi := (⟨"LineCollector$Log", "heldBefore", "(I)LLineCollector$Item;"⟩, prog_3_method_4_code, 2, some (.object "LineCollector$Item"), { frames := 0, cells := 0, slots := 0, locals := 0 }, 1)
set_option maxRecDepth 20000 in
theorem o_G_heldBefore : MiV i_G_heldBefore "LineCollector$Log" := ⟨⟨tb 4 rfl rfl, ⟨by decide, by decide⟩, by decide +kernel⟩, tb 284 rfl rfl, tb 282 rfl rfl, tb 283 rfl rfl⟩
def i_G_clear : Mi := (⟨"LineCollector$Log", "clear", "()V"⟩, prog_3_method_5_code, 2, none, { frames := 0, cells := 0, slots := 0, locals := 0 }, 0)
set_option maxRecDepth 20000 in
theorem o_G_clear : MiV i_G_clear "LineCollector$Log" := ⟨⟨tb 4 rfl rfl, ⟨by decide, by decide⟩, by decide +kernel⟩, tb 288 rfl rfl, tb 286 rfl rfl, tb 287 rfl rfl⟩
def i_C_queueRootsAndLog : Mi := (⟨"LineCollector", "queueRootsAndLog", "()V"⟩, prog_1_method_37_code, 5, none, { frames := 3, cells := 0, slots := 0, locals := 60 }, 0)
set_option maxRecDepth 20000 in
theorem o_C_queueRootsAndLog : MiV i_C_queueRootsAndLog "LineCollector" := ⟨⟨tb 1 rfl rfl, ⟨by decide, by decide⟩, by decide +kernel⟩, tb 280 rfl rfl, tb 279 rfl rfl, tp 11 rfl rfl⟩
def i_C_rememberRoots : Mi := (⟨"LineCollector", "rememberRoots", "()V"⟩, prog_1_method_31_code, 2, none, { frames := 0, cells := 0, slots := 0, locals := 0 }, 0)
set_option maxRecDepth 20000 in
theorem o_C_rememberRoots : MiV i_C_rememberRoots "LineCollector" := ⟨⟨tb 1 rfl rfl, ⟨by decide, by decide⟩, by decide +kernel⟩, tb 345 rfl rfl, tb 344 rfl rfl, tp 20 rfl rfl⟩
def i_C_beginTrace : Mi := (⟨"LineCollector", "beginTrace", "()V"⟩, prog_1_method_32_code, 5, none, { frames := 3, cells := 0, slots := 0, locals := 60 }, 0)
set_option maxRecDepth 20000 in
theorem o_C_beginTrace : MiV i_C_beginTrace "LineCollector" := ⟨⟨tb 1 rfl rfl, ⟨by decide, by decide⟩, by decide +kernel⟩, tb 341 rfl rfl, tb 340 rfl rfl, tp 19 rfl rfl⟩
def i_C_countGrey : Mi := (⟨"LineCollector", "countGrey", "()I"⟩, prog_1_method_21_code, 6, some .int, { frames := 0, cells := 0, slots := 0, locals := 0 }, 0)
set_option maxRecDepth 20000 in
theorem o_C_countGrey : MiV i_C_countGrey "LineCollector" := ⟨⟨tb 1 rfl rfl, ⟨by decide, by decide⟩, by decide +kernel⟩, tb 292 rfl rfl, tb 291 rfl rfl, tp 12 rfl rfl⟩
def i_C_loseWhite : Mi := (⟨"LineCollector", "loseWhite", "()V"⟩, prog_1_method_38_code, 9, none, { frames := 2, cells := 0, slots := 0, locals := 44 }, 0)
set_option maxRecDepth 20000 in
theorem o_C_loseWhite : MiV i_C_loseWhite "LineCollector" := ⟨⟨tb 1 rfl rfl, ⟨by decide, by decide⟩, by decide +kernel⟩, tb 296 rfl rfl, tb 295 rfl rfl, tp 13 rfl rfl⟩
def i_W_countOf : Mi := (⟨"LineCollector$Row", "countOf", "(LLineCollector$Item;)I"⟩, prog_5_method_5_code, 4, some .int, { frames := 0, cells := 0, slots := 0, locals := 0 }, 1)
set_option maxRecDepth 20000 in
theorem o_W_countOf : MiV i_W_countOf "LineCollector$Row" := ⟨⟨tb 5 rfl rfl, ⟨by decide, by decide⟩, by decide +kernel⟩, tb 309 rfl rfl, tb 307 rfl rfl, tb 308 rfl rfl⟩
def i_I_countFieldsHolding : Mi := (⟨"LineCollector$Item", "countFieldsHolding", "(LLineCollector$Item;)I"⟩, prog_2_method_7_code, 7, some .int, { frames := 0, cells := 0, slots := 0, locals := 0 }, 1)
set_option maxRecDepth 20000 in
theorem o_I_countFieldsHolding : MiV i_I_countFieldsHolding "LineCollector$Item" := ⟨⟨tb 13 rfl rfl, ⟨by decide, by decide⟩, by decide +kernel⟩, tb 313 rfl rfl, tb 311 rfl rfl, tb 312 rfl rfl⟩
def i_C_countHolders : Mi := (⟨"LineCollector", "countHolders", "(LLineCollector$Item;)I"⟩, prog_1_method_40_code, 7, some .int, { frames := 1, cells := 0, slots := 0, locals := 26 }, 1)
set_option maxRecDepth 20000 in
theorem o_C_countHolders : MiV i_C_countHolders "LineCollector" := ⟨⟨tb 1 rfl rfl, ⟨by decide, by decide⟩, by decide +kernel⟩, tb 305 rfl rfl, tb 304 rfl rfl, tp 15 rfl rfl⟩
def i_C_recountStuck : Mi := (⟨"LineCollector", "recountStuck", "()V"⟩, prog_1_method_39_code, 5, none, { frames := 4, cells := 0, slots := 0, locals := 85 }, 0)
set_option maxRecDepth 20000 in
theorem o_C_recountStuck : MiV i_C_recountStuck "LineCollector" := ⟨⟨tb 1 rfl rfl, ⟨by decide, by decide⟩, by decide +kernel⟩, tb 301 rfl rfl, tb 300 rfl rfl, tp 14 rfl rfl⟩
def i_C_whitenAll : Mi := (⟨"LineCollector", "whitenAll", "()V"⟩, prog_1_method_41_code, 5, none, { frames := 0, cells := 0, slots := 0, locals := 0 }, 0)
set_option maxRecDepth 20000 in
theorem o_C_whitenAll : MiV i_C_whitenAll "LineCollector" := ⟨⟨tb 1 rfl rfl, ⟨by decide, by decide⟩, by decide +kernel⟩, tb 317 rfl rfl, tb 316 rfl rfl, tp 16 rfl rfl⟩
def i_P_isUsed : Mi := (⟨"LineCollector$Places", "isUsed", "(I)Z"⟩, prog_4_method_2_code, 2, some .boolean, { frames := 0, cells := 0, slots := 0, locals := 0 }, 1)
set_option maxRecDepth 20000 in
theorem o_P_isUsed : MiV i_P_isUsed "LineCollector$Places" := ⟨⟨tb 2 rfl rfl, ⟨by decide, by decide⟩, by decide +kernel⟩, tb 333 rfl rfl, tb 331 rfl rfl, tb 332 rfl rfl⟩
def i_P_usedLines : Mi := (⟨"LineCollector$Places", "usedLines", "(I)I"⟩, prog_4_method_14_code, 4, some .int, { frames := 1, cells := 0, slots := 0, locals := 21 }, 1)
set_option maxRecDepth 20000 in
theorem o_P_usedLines : MiV i_P_usedLines "LineCollector$Places" := ⟨⟨tb 2 rfl rfl, ⟨by decide, by decide⟩, by decide +kernel⟩, tb 329 rfl rfl, tb 328 rfl rfl, tp 18 rfl rfl⟩
def i_P_sparsestBlock : Mi := (⟨"LineCollector$Places", "sparsestBlock", "()I"⟩, prog_4_method_13_code, 5, some .int, { frames := 2, cells := 0, slots := 0, locals := 44 }, 0)
set_option maxRecDepth 20000 in
theorem o_P_sparsestBlock : MiV i_P_sparsestBlock "LineCollector$Places" := ⟨⟨tb 2 rfl rfl, ⟨by decide, by decide⟩, by decide +kernel⟩, tb 325 rfl rfl, tb 323 rfl rfl, tb 324 rfl rfl⟩
def i_P_shut : Mi := (⟨"LineCollector$Places", "shut", "(I)V"⟩, prog_4_method_9_code, 2, none, { frames := 0, cells := 0, slots := 0, locals := 0 }, 1)
set_option maxRecDepth 20000 in
theorem o_P_shut : MiV i_P_shut "LineCollector$Places" := ⟨⟨tb 2 rfl rfl, ⟨by decide, by decide⟩, by decide +kernel⟩, tb 337 rfl rfl, tb 335 rfl rfl, tb 336 rfl rfl⟩
def i_C_clearSparsestBlock : Mi := (⟨"LineCollector", "clearSparsestBlock", "()V"⟩, prog_1_method_42_code, 4, none, { frames := 4, cells := 0, slots := 0, locals := 88 }, 0)
set_option maxRecDepth 20000 in
theorem o_C_clearSparsestBlock : MiV i_C_clearSparsestBlock "LineCollector" := ⟨⟨tb 1 rfl rfl, ⟨by decide, by decide⟩, by decide +kernel⟩, tb 321 rfl rfl, tb 320 rfl rfl, tp 17 rfl rfl⟩
def i_C_pause : Mi := (⟨"LineCollector", "pause", "(Z)I"⟩, prog_1_method_9_code, 3, some .int, { frames := 5, cells := 0, slots := 0, locals := 111 }, 1)
set_option maxRecDepth 20000 in
theorem o_C_pause : MiV i_C_pause "LineCollector" := ⟨⟨tb 1 rfl rfl, ⟨by decide, by decide⟩, by decide +kernel⟩, tb 143 rfl rfl, tb 141 rfl rfl, tb 142 rfl rfl⟩
def i_C_blacken : Mi := (⟨"LineCollector", "blacken", "(LLineCollector$Item;)V"⟩, prog_1_method_30_code, 5, none, { frames := 3, cells := 0, slots := 0, locals := 60 }, 1)
set_option maxRecDepth 20000 in
theorem o_C_blacken : MiS i_C_blacken := ⟨⟨tb 1 rfl rfl, ⟨by decide, by decide⟩, by decide +kernel⟩, tb 438 rfl rfl, tb 437 rfl rfl⟩
def i_C_blackenFirstGrey : Mi := (⟨"LineCollector", "blackenFirstGrey", "()Z"⟩, prog_1_method_29_code, 5, some .boolean, { frames := 4, cells := 0, slots := 0, locals := 84 }, 0)
set_option maxRecDepth 20000 in
theorem o_C_blackenFirstGrey : MiV i_C_blackenFirstGrey "LineCollector" := ⟨⟨tb 1 rfl rfl, ⟨by decide, by decide⟩, by decide +kernel⟩, tb 435 rfl rfl, tb 434 rfl rfl, tp 24 rfl rfl⟩
def i_C_stepUpTo : Mi := (⟨"LineCollector", "stepUpTo", "(I)V"⟩, prog_1_method_28_code, 4, none, { frames := 5, cells := 0, slots := 0, locals := 108 }, 1)
set_option maxRecDepth 20000 in
theorem o_C_stepUpTo : MiV i_C_stepUpTo "LineCollector" := ⟨⟨tb 1 rfl rfl, ⟨by decide, by decide⟩, by decide +kernel⟩, tb 431 rfl rfl, tb 430 rfl rfl, tp 23 rfl rfl⟩
def i_C_collect : Mi := (⟨"LineCollector", "collect", "()V"⟩, prog_1_method_25_code, 1, none, { frames := 6, cells := 0, slots := 0, locals := 133 }, 0)
set_option maxRecDepth 20000 in
theorem o_C_collect : MiV i_C_collect "LineCollector" := ⟨⟨tb 1 rfl rfl, ⟨by decide, by decide⟩, by decide +kernel⟩, tb 426 rfl rfl, tb 425 rfl rfl, tp 22 rfl rfl⟩
def i_C_allocate : Mi := (⟨"LineCollector", "allocate", "(III)I"⟩, prog_1_method_2_code, 6, some .int, { frames := 7, cells := 3, slots := 31, locals := 153 }, 3)
set_option maxRecDepth 20000 in
theorem o_C_allocate : MiV i_C_allocate "LineCollector" := ⟨⟨tb 1 rfl rfl, ⟨by decide, by decide⟩, by decide +kernel⟩, tb 354 rfl rfl, tb 352 rfl rfl, tb 353 rfl rfl⟩
def i_C_drop : Mi := (⟨"LineCollector", "drop", "(I)V"⟩, prog_1_method_3_code, 2, none, { frames := 6, cells := 1, slots := 6, locals := 81 }, 1)
set_option maxRecDepth 20000 in
theorem o_C_drop : MiV i_C_drop "LineCollector" := ⟨⟨tb 1 rfl rfl, ⟨by decide, by decide⟩, by decide +kernel⟩, tb 496 rfl rfl, tb 494 rfl rfl, tb 495 rfl rfl⟩
def i_C_copy : Mi := (⟨"LineCollector", "copy", "(II)V"⟩, prog_1_method_4_code, 3, none, { frames := 6, cells := 1, slots := 6, locals := 81 }, 2)
set_option maxRecDepth 20000 in
theorem o_C_copy : MiV i_C_copy "LineCollector" := ⟨⟨tb 1 rfl rfl, ⟨by decide, by decide⟩, by decide +kernel⟩, tb 503 rfl rfl, tb 501 rfl rfl, tb 502 rfl rfl⟩
def i_I_hasField : Mi := (⟨"LineCollector$Item", "hasField", "(I)Z"⟩, prog_2_method_2_code, 2, some .boolean, { frames := 0, cells := 0, slots := 0, locals := 0 }, 1)
set_option maxRecDepth 20000 in
theorem o_I_hasField : MiV i_I_hasField "LineCollector$Item" := ⟨⟨tb 13 rfl rfl, ⟨by decide, by decide⟩, by decide +kernel⟩, tb 535 rfl rfl, tb 533 rfl rfl, tb 534 rfl rfl⟩
def i_C_itemWithField : Mi := (⟨"LineCollector", "itemWithField", "(III)LLineCollector$Item;"⟩, prog_1_method_16_code, 5, some (.object "LineCollector$Item"), { frames := 6, cells := 1, slots := 6, locals := 81 }, 3)
set_option maxRecDepth 20000 in
theorem o_C_itemWithField : MiV i_C_itemWithField "LineCollector" := ⟨⟨tb 1 rfl rfl, ⟨by decide, by decide⟩, by decide +kernel⟩, tb 516 rfl rfl, tb 515 rfl rfl, tp 25 rfl rfl⟩
def i_C_addressOf : Mi := (⟨"LineCollector", "addressOf", "(LLineCollector$Item;)I"⟩, prog_1_method_17_code, 1, some .int, { frames := 0, cells := 0, slots := 0, locals := 0 }, 1)
set_option maxRecDepth 20000 in
theorem o_C_addressOf : MiS i_C_addressOf := ⟨⟨tb 1 rfl rfl, ⟨by decide, by decide⟩, by decide +kernel⟩, tb 553 rfl rfl, tb 552 rfl rfl⟩
def i_C_load : Mi := (⟨"LineCollector", "load", "(III)I"⟩, prog_1_method_5_code, 5, some .int, { frames := 7, cells := 1, slots := 6, locals := 105 }, 3)
set_option maxRecDepth 20000 in
theorem o_C_load : MiV i_C_load "LineCollector" := ⟨⟨tb 1 rfl rfl, ⟨by decide, by decide⟩, by decide +kernel⟩, tb 512 rfl rfl, tb 510 rfl rfl, tb 511 rfl rfl⟩
def i_G_add : Mi := (⟨"LineCollector$Log", "add", "(LLineCollector$Item;I)V"⟩, prog_3_method_2_code, 3, none, { frames := 0, cells := 0, slots := 0, locals := 0 }, 2)
set_option maxRecDepth 20000 in
theorem o_G_add : MiV i_G_add "LineCollector$Log" := ⟨⟨tb 4 rfl rfl, ⟨by decide, by decide⟩, by decide +kernel⟩, tb 564 rfl rfl, tb 562 rfl rfl, tb 563 rfl rfl⟩
def i_C_store : Mi := (⟨"LineCollector", "store", "(III)V"⟩, prog_1_method_6_code, 5, none, { frames := 7, cells := 1, slots := 6, locals := 105 }, 3)
set_option maxRecDepth 20000 in
theorem o_C_store : MiV i_C_store "LineCollector" := ⟨⟨tb 1 rfl rfl, ⟨by decide, by decide⟩, by decide +kernel⟩, tb 560 rfl rfl, tb 558 rfl rfl, tb 559 rfl rfl⟩
def i_C_drain : Mi := (⟨"LineCollector", "drain", "(I)I"⟩, prog_1_method_7_code, 2, some .int, { frames := 6, cells := 1, slots := 6, locals := 108 }, 1)
set_option maxRecDepth 20000 in
theorem o_C_drain : MiV i_C_drain "LineCollector" := ⟨⟨tb 1 rfl rfl, ⟨by decide, by decide⟩, by decide +kernel⟩, tb 571 rfl rfl, tb 569 rfl rfl, tb 570 rfl rfl⟩
def i_C_trace : Mi := (⟨"LineCollector", "trace", "(I)I"⟩, prog_1_method_8_code, 2, some .int, { frames := 6, cells := 1, slots := 6, locals := 131 }, 1)
set_option maxRecDepth 20000 in
theorem o_C_trace : MiV i_C_trace "LineCollector" := ⟨⟨tb 1 rfl rfl, ⟨by decide, by decide⟩, by decide +kernel⟩, tb 578 rfl rfl, tb 576 rfl rfl, tb 577 rfl rfl⟩
def i_C_root : Mi := (⟨"LineCollector", "root", "(I)I"⟩, prog_1_method_10_code, 2, some .int, { frames := 6, cells := 1, slots := 6, locals := 81 }, 1)
set_option maxRecDepth 20000 in
theorem o_C_root : MiV i_C_root "LineCollector" := ⟨⟨tb 1 rfl rfl, ⟨by decide, by decide⟩, by decide +kernel⟩, tb 585 rfl rfl, tb 583 rfl rfl, tb 584 rfl rfl⟩
def i_C_itemOrNull : Mi := (⟨"LineCollector", "itemOrNull", "(I)LLineCollector$Item;"⟩, prog_1_method_18_code, 2, some (.object "LineCollector$Item"), { frames := 0, cells := 0, slots := 0, locals := 0 }, 1)
set_option maxRecDepth 20000 in
theorem o_C_itemOrNull : MiV i_C_itemOrNull "LineCollector" := ⟨⟨tb 1 rfl rfl, ⟨by decide, by decide⟩, by decide +kernel⟩, tb 597 rfl rfl, tb 596 rfl rfl, tp 26 rfl rfl⟩
def i_C_field : Mi := (⟨"LineCollector", "field", "(II)I"⟩, prog_1_method_11_code, 4, some .int, { frames := 6, cells := 1, slots := 6, locals := 81 }, 2)
set_option maxRecDepth 20000 in
theorem o_C_field : MiV i_C_field "LineCollector" := ⟨⟨tb 1 rfl rfl, ⟨by decide, by decide⟩, by decide +kernel⟩, tb 593 rfl rfl, tb 591 rfl rfl, tb 592 rfl rfl⟩
def i_C_object : Mi := (⟨"LineCollector", "object", "(II)I"⟩, prog_1_method_12_code, 4, some .int, { frames := 6, cells := 1, slots := 6, locals := 81 }, 2)
set_option maxRecDepth 20000 in
theorem o_C_object : MiV i_C_object "LineCollector" := ⟨⟨tb 1 rfl rfl, ⟨by decide, by decide⟩, by decide +kernel⟩, tb 619 rfl rfl, tb 617 rfl rfl, tb 618 rfl rfl⟩
def i_C_line : Mi := (⟨"LineCollector", "line", "(I)I"⟩, prog_1_method_13_code, 2, some .int, { frames := 6, cells := 1, slots := 6, locals := 81 }, 1)
set_option maxRecDepth 20000 in
theorem o_C_line : MiV i_C_line "LineCollector" := ⟨⟨tb 1 rfl rfl, ⟨by decide, by decide⟩, by decide +kernel⟩, tb 626 rfl rfl, tb 624 rfl rfl, tb 625 rfl rfl⟩
def i_C_countItems : Mi := (⟨"LineCollector", "countItems", "()I"⟩, prog_1_method_19_code, 6, some .int, { frames := 0, cells := 0, slots := 0, locals := 0 }, 0)
set_option maxRecDepth 20000 in
theorem o_C_countItems : MiV i_C_countItems "LineCollector" := ⟨⟨tb 1 rfl rfl, ⟨by decide, by decide⟩, by decide +kernel⟩, tb 639 rfl rfl, tb 638 rfl rfl, tp 27 rfl rfl⟩
def i_C_countYoung : Mi := (⟨"LineCollector", "countYoung", "()I"⟩, prog_1_method_20_code, 6, some .int, { frames := 1, cells := 0, slots := 0, locals := 20 }, 0)
set_option maxRecDepth 20000 in
theorem o_C_countYoung : MiV i_C_countYoung "LineCollector" := ⟨⟨tb 1 rfl rfl, ⟨by decide, by decide⟩, by decide +kernel⟩, tb 643 rfl rfl, tb 642 rfl rfl, tp 28 rfl rfl⟩
def i_C_figure : Mi := (⟨"LineCollector", "figure", "(I)I"⟩, prog_1_method_14_code, 2, some .int, { frames := 6, cells := 1, slots := 6, locals := 81 }, 1)
set_option maxRecDepth 20000 in
theorem o_C_figure : MiV i_C_figure "LineCollector" := ⟨⟨tb 1 rfl rfl, ⟨by decide, by decide⟩, by decide +kernel⟩, tb 635 rfl rfl, tb 633 rfl rfl, tb 634 rfl rfl⟩
def i_M_thrown : Mi := (⟨"LineCollectorModel", "thrown", "()I"⟩, prog_8_method_2_code, 1, some .int, { frames := 0, cells := 0, slots := 0, locals := 0 }, 0)
set_option maxRecDepth 20000 in
theorem o_M_thrown : MiV i_M_thrown "LineCollectorModel" := ⟨⟨tb 6 rfl rfl, ⟨by decide, by decide⟩, by decide +kernel⟩, tb 747 rfl rfl, tb 745 rfl rfl, tb 746 rfl rfl⟩
def i_M_isUsed : Mi := (⟨"LineCollectorModel", "isUsed", "(I)Z"⟩, prog_8_method_3_code, 4, some .boolean, { frames := 0, cells := 0, slots := 0, locals := 0 }, 1)
set_option maxRecDepth 20000 in
theorem o_M_isUsed : MiV i_M_isUsed "LineCollectorModel" := ⟨⟨tb 6 rfl rfl, ⟨by decide, by decide⟩, by decide +kernel⟩, tb 770 rfl rfl, tb 769 rfl rfl, tp 32 rfl rfl⟩
def i_M_isTaken : Mi := (⟨"LineCollectorModel", "isTaken", "(I)Z"⟩, prog_8_method_4_code, 2, some .boolean, { frames := 0, cells := 0, slots := 0, locals := 0 }, 1)
set_option maxRecDepth 20000 in
theorem o_M_isTaken : MiV i_M_isTaken "LineCollectorModel" := ⟨⟨tb 6 rfl rfl, ⟨by decide, by decide⟩, by decide +kernel⟩, tb 774 rfl rfl, tb 773 rfl rfl, tp 33 rfl rfl⟩
def i_M_isFree : Mi := (⟨"LineCollectorModel", "isFree", "(I)Z"⟩, prog_8_method_5_code, 2, some .boolean, { frames := 1, cells := 0, slots := 0, locals := 23 }, 1)
set_option maxRecDepth 20000 in
theorem o_M_isFree : MiV i_M_isFree "LineCollectorModel" := ⟨⟨tb 6 rfl rfl, ⟨by decide, by decide⟩, by decide +kernel⟩, tb 766 rfl rfl, tb 765 rfl rfl, tp 31 rfl rfl⟩
def i_M_isFreeBlock : Mi := (⟨"LineCollectorModel", "isFreeBlock", "(I)Z"⟩, prog_8_method_6_code, 4, some .boolean, { frames := 2, cells := 0, slots := 0, locals := 44 }, 1)
set_option maxRecDepth 20000 in
theorem o_M_isFreeBlock : MiV i_M_isFreeBlock "LineCollectorModel" := ⟨⟨tb 6 rfl rfl, ⟨by decide, by decide⟩, by decide +kernel⟩, tb 782 rfl rfl, tb 781 rfl rfl, tp 35 rfl rfl⟩
def i_M_forget : Mi := (⟨"LineCollectorModel", "forget", "()V"⟩, prog_8_method_7_code, 1, none, { frames := 0, cells := 0, slots := 0, locals := 0 }, 0)
set_option maxRecDepth 20000 in
theorem o_M_forget : MiV i_M_forget "LineCollectorModel" := ⟨⟨tb 6 rfl rfl, ⟨by decide, by decide⟩, by decide +kernel⟩, tb 822 rfl rfl, tb 821 rfl rfl, tp 45 rfl rfl⟩
def i_M_placeInBlock : Mi := (⟨"LineCollectorModel", "placeInBlock", "(I)I"⟩, prog_8_method_10_code, 3, some .int, { frames := 3, cells := 0, slots := 0, locals := 67 }, 1)
set_option maxRecDepth 20000 in
theorem o_M_placeInBlock : MiV i_M_placeInBlock "LineCollectorModel" := ⟨⟨tb 6 rfl rfl, ⟨by decide, by decide⟩, by decide +kernel⟩, tb 778 rfl rfl, tb 777 rfl rfl, tp 34 rfl rfl⟩
def i_M_placeInLines : Mi := (⟨"LineCollectorModel", "placeInLines", "(I)I"⟩, prog_8_method_9_code, 6, some .int, { frames := 2, cells := 0, slots := 0, locals := 44 }, 1)
set_option maxRecDepth 20000 in
theorem o_M_placeInLines : MiV i_M_placeInLines "LineCollectorModel" := ⟨⟨tb 6 rfl rfl, ⟨by decide, by decide⟩, by decide +kernel⟩, tb 762 rfl rfl, tb 761 rfl rfl, tp 30 rfl rfl⟩
def i_M_place : Mi := (⟨"LineCollectorModel", "place", "(I)I"⟩, prog_8_method_8_code, 2, some .int, { frames := 4, cells := 0, slots := 0, locals := 89 }, 1)
set_option maxRecDepth 20000 in
theorem o_M_place : MiV i_M_place "LineCollectorModel" := ⟨⟨tb 6 rfl rfl, ⟨by decide, by decide⟩, by decide +kernel⟩, tb 758 rfl rfl, tb 757 rfl rfl, tp 29 rfl rfl⟩
def i_M_objectAt : Mi := (⟨"LineCollectorModel", "objectAt", "(I)I"⟩, prog_8_method_11_code, 2, some .int, { frames := 0, cells := 0, slots := 0, locals := 0 }, 1)
set_option maxRecDepth 20000 in
theorem o_M_objectAt : MiV i_M_objectAt "LineCollectorModel" := ⟨⟨tb 6 rfl rfl, ⟨by decide, by decide⟩, by decide +kernel⟩, tb 862 rfl rfl, tb 861 rfl rfl, tp 55 rfl rfl⟩
def i_M_addressOf : Mi := (⟨"LineCollectorModel", "addressOf", "(I)I"⟩, prog_8_method_12_code, 2, some .int, { frames := 0, cells := 0, slots := 0, locals := 0 }, 1)
set_option maxRecDepth 20000 in
theorem o_M_addressOf : MiV i_M_addressOf "LineCollectorModel" := ⟨⟨tb 6 rfl rfl, ⟨by decide, by decide⟩, by decide +kernel⟩, tb 906 rfl rfl, tb 905 rfl rfl, tp 63 rfl rfl⟩
def i_M_lay : Mi := (⟨"LineCollectorModel", "lay", "(II)V"⟩, prog_8_method_13_code, 4, none, { frames := 0, cells := 0, slots := 0, locals := 0 }, 2)
set_option maxRecDepth 20000 in
theorem o_M_lay : MiV i_M_lay "LineCollectorModel" := ⟨⟨tb 6 rfl rfl, ⟨by decide, by decide⟩, by decide +kernel⟩, tb 842 rfl rfl, tb 841 rfl rfl, tp 50 rfl rfl⟩
def i_M_lift : Mi := (⟨"LineCollectorModel", "lift", "(IZ)V"⟩, prog_8_method_14_code, 4, none, { frames := 0, cells := 0, slots := 0, locals := 0 }, 2)
set_option maxRecDepth 20000 in
theorem o_M_lift : MiV i_M_lift "LineCollectorModel" := ⟨⟨tb 6 rfl rfl, ⟨by decide, by decide⟩, by decide +kernel⟩, tb 818 rfl rfl, tb 817 rfl rfl, tp 44 rfl rfl⟩
def i_M_shift : Mi := (⟨"LineCollectorModel", "shift", "(I)V"⟩, prog_8_method_15_code, 3, none, { frames := 5, cells := 0, slots := 0, locals := 110 }, 1)
set_option maxRecDepth 20000 in
theorem o_M_shift : MiV i_M_shift "LineCollectorModel" := ⟨⟨tb 6 rfl rfl, ⟨by decide, by decide⟩, by decide +kernel⟩, tb 838 rfl rfl, tb 837 rfl rfl, tp 49 rfl rfl⟩
def i_M_lose : Mi := (⟨"LineCollectorModel", "lose", "(I)V"⟩, prog_8_method_16_code, 2, none, { frames := 1, cells := 0, slots := 0, locals := 23 }, 1)
set_option maxRecDepth 20000 in
theorem o_M_lose : MiV i_M_lose "LineCollectorModel" := ⟨⟨tb 6 rfl rfl, ⟨by decide, by decide⟩, by decide +kernel⟩, tb 814 rfl rfl, tb 813 rfl rfl, tp 43 rfl rfl⟩
def i_M_make : Mi := (⟨"LineCollectorModel", "make", "(II)I"⟩, prog_8_method_17_code, 5, some .int, { frames := 0, cells := 0, slots := 0, locals := 0 }, 2)
set_option maxRecDepth 20000 in
theorem o_M_make : MiV i_M_make "LineCollectorModel" := ⟨⟨tb 6 rfl rfl, ⟨by decide, by decide⟩, by decide +kernel⟩, tb 886 rfl rfl, tb 885 rfl rfl, tp 61 rfl rfl⟩
def i_M_isWhite : Mi := (⟨"LineCollectorModel", "isWhite", "(I)Z"⟩, prog_8_method_18_code, 2, some .boolean, { frames := 0, cells := 0, slots := 0, locals := 0 }, 1)
set_option maxRecDepth 20000 in
theorem o_M_isWhite : MiV i_M_isWhite "LineCollectorModel" := ⟨⟨tb 6 rfl rfl, ⟨by decide, by decide⟩, by decide +kernel⟩, tb 810 rfl rfl, tb 809 rfl rfl, tp 42 rfl rfl⟩
def i_M_greys : Mi := (⟨"LineCollectorModel", "greys", "()I"⟩, prog_8_method_19_code, 3, some .int, { frames := 0, cells := 0, slots := 0, locals := 0 }, 0)
set_option maxRecDepth 20000 in
theorem o_M_greys : MiV i_M_greys "LineCollectorModel" := ⟨⟨tb 6 rfl rfl, ⟨by decide, by decide⟩, by decide +kernel⟩, tb 854 rfl rfl, tb 853 rfl rfl, tp 53 rfl rfl⟩
def i_M_wait : Mi := (⟨"LineCollectorModel", "wait", "(I)V"⟩, prog_8_method_20_code, 2, none, { frames := 0, cells := 0, slots := 0, locals := 0 }, 1)
set_option maxRecDepth 20000 in
theorem o_M_wait : MiV i_M_wait "LineCollectorModel" := ⟨⟨tb 6 rfl rfl, ⟨by decide, by decide⟩, by decide +kernel⟩, tb 806 rfl rfl, tb 805 rfl rfl, tp 41 rfl rfl⟩
def i_M_vanish : Mi := (⟨"LineCollectorModel", "vanish", "(I)V"⟩, prog_8_method_21_code, 4, none, { frames := 2, cells := 0, slots := 0, locals := 44 }, 1)
set_option maxRecDepth 20000 in
theorem o_M_vanish : MiV i_M_vanish "LineCollectorModel" := ⟨⟨tb 6 rfl rfl, ⟨by decide, by decide⟩, by decide +kernel⟩, tb 802 rfl rfl, tb 801 rfl rfl, tp 40 rfl rfl⟩
def i_M_drainOne : Mi := (⟨"LineCollectorModel", "drainOne", "()V"⟩, prog_8_method_22_code, 3, none, { frames := 3, cells := 0, slots := 0, locals := 67 }, 0)
set_option maxRecDepth 20000 in
theorem o_M_drainOne : MiV i_M_drainOne "LineCollectorModel" := ⟨⟨tb 6 rfl rfl, ⟨by decide, by decide⟩, by decide +kernel⟩, tb 798 rfl rfl, tb 797 rfl rfl, tp 39 rfl rfl⟩
def i_M_drainAll : Mi := (⟨"LineCollectorModel", "drainAll", "()V"⟩, prog_8_method_23_code, 1, none, { frames := 4, cells := 0, slots := 0, locals := 89 }, 0)
set_option maxRecDepth 20000 in
theorem o_M_drainAll : MiV i_M_drainAll "LineCollectorModel" := ⟨⟨tb 6 rfl rfl, ⟨by decide, by decide⟩, by decide +kernel⟩, tb 794 rfl rfl, tb 793 rfl rfl, tp 38 rfl rfl⟩
def i_M_step : Mi := (⟨"LineCollectorModel", "step", "()V"⟩, prog_8_method_24_code, 5, none, { frames := 1, cells := 0, slots := 0, locals := 21 }, 0)
set_option maxRecDepth 20000 in
theorem o_M_step : MiV i_M_step "LineCollectorModel" := ⟨⟨tb 6 rfl rfl, ⟨by decide, by decide⟩, by decide +kernel⟩, tb 882 rfl rfl, tb 881 rfl rfl, tp 60 rfl rfl⟩
def i_M_addSlot : Mi := (⟨"LineCollectorModel", "addSlot", "(I)V"⟩, prog_8_method_25_code, 2, none, { frames := 0, cells := 0, slots := 0, locals := 0 }, 1)
set_option maxRecDepth 20000 in
theorem o_M_addSlot : MiV i_M_addSlot "LineCollectorModel" := ⟨⟨tb 6 rfl rfl, ⟨by decide, by decide⟩, by decide +kernel⟩, tb 830 rfl rfl, tb 829 rfl rfl, tp 47 rfl rfl⟩
def i_M_survive : Mi := (⟨"LineCollectorModel", "survive", "(I)V"⟩, prog_8_method_26_code, 3, none, { frames := 6, cells := 0, slots := 0, locals := 132 }, 1)
set_option maxRecDepth 20000 in
theorem o_M_survive : MiV i_M_survive "LineCollectorModel" := ⟨⟨tb 6 rfl rfl, ⟨by decide, by decide⟩, by decide +kernel⟩, tb 834 rfl rfl, tb 833 rfl rfl, tp 48 rfl rfl⟩
def i_M_countSlots : Mi := (⟨"LineCollectorModel", "countSlots", "()I"⟩, prog_8_method_27_code, 4, some .int, { frames := 7, cells := 0, slots := 0, locals := 154 }, 0)
set_option maxRecDepth 20000 in
theorem o_M_countSlots : MiV i_M_countSlots "LineCollectorModel" := ⟨⟨tb 6 rfl rfl, ⟨by decide, by decide⟩, by decide +kernel⟩, tb 826 rfl rfl, tb 825 rfl rfl, tp 46 rfl rfl⟩
def i_M_endStep : Mi := (⟨"LineCollectorModel", "endStep", "()V"⟩, prog_8_method_28_code, 2, none, { frames := 0, cells := 0, slots := 0, locals := 0 }, 0)
set_option maxRecDepth 20000 in
theorem o_M_endStep : MiV i_M_endStep "LineCollectorModel" := ⟨⟨tb 6 rfl rfl, ⟨by decide, by decide⟩, by decide +kernel⟩, tb 846 rfl rfl, tb 845 rfl rfl, tp 51 rfl rfl⟩
def i_M_settle : Mi := (⟨"LineCollectorModel", "settle", "()V"⟩, prog_8_method_29_code, 2, none, { frames := 2, cells := 0, slots := 0, locals := 44 }, 0)
set_option maxRecDepth 20000 in
theorem o_M_settle : MiV i_M_settle "LineCollectorModel" := ⟨⟨tb 6 rfl rfl, ⟨by decide, by decide⟩, by decide +kernel⟩, tb 850 rfl rfl, tb 849 rfl rfl, tp 52 rfl rfl⟩
def i_M_sweep : Mi := (⟨"LineCollectorModel", "sweep", "()V"⟩, prog_8_method_30_code, 5, none, { frames := 2, cells := 0, slots := 0, locals := 44 }, 0)
set_option maxRecDepth 20000 in
theorem o_M_sweep : MiV i_M_sweep "LineCollectorModel" := ⟨⟨tb 6 rfl rfl, ⟨by decide, by decide⟩, by decide +kernel⟩, tb 858 rfl rfl, tb 857 rfl rfl, tp 54 rfl rfl⟩
def i_M_holders : Mi := (⟨"LineCollectorModel", "holders", "(I)I"⟩, prog_8_method_31_code, 5, some .int, { frames := 0, cells := 0, slots := 0, locals := 0 }, 1)
set_option maxRecDepth 20000 in
theorem o_M_holders : MiV i_M_holders "LineCollectorModel" := ⟨⟨tb 6 rfl rfl, ⟨by decide, by decide⟩, by decide +kernel⟩, tb 870 rfl rfl, tb 869 rfl rfl, tp 57 rfl rfl⟩
def i_M_countAnew : Mi := (⟨"LineCollectorModel", "countAnew", "()V"⟩, prog_8_method_32_code, 4, none, { frames := 3, cells := 0, slots := 0, locals := 67 }, 0)
set_option maxRecDepth 20000 in
theorem o_M_countAnew : MiV i_M_countAnew "LineCollectorModel" := ⟨⟨tb 6 rfl rfl, ⟨by decide, by decide⟩, by decide +kernel⟩, tb 866 rfl rfl, tb 865 rfl rfl, tp 56 rfl rfl⟩
def i_M_usedLines : Mi := (⟨"LineCollectorModel", "usedLines", "(I)I"⟩, prog_8_method_33_code, 4, some .int, { frames := 1, cells := 0, slots := 0, locals := 23 }, 1)
set_option maxRecDepth 20000 in
theorem o_M_usedLines : MiV i_M_usedLines "LineCollectorModel" := ⟨⟨tb 6 rfl rfl, ⟨by decide, by decide⟩, by decide +kernel⟩, tb 878 rfl rfl, tb 877 rfl rfl, tp 59 rfl rfl⟩
def i_M_clearBlock : Mi := (⟨"LineCollectorModel", "clearBlock", "()V"⟩, prog_8_method_34_code, 4, none, { frames := 6, cells := 0, slots := 0, locals := 132 }, 0)
set_option maxRecDepth 20000 in
theorem o_M_clearBlock : MiV i_M_clearBlock "LineCollectorModel" := ⟨⟨tb 6 rfl rfl, ⟨by decide, by decide⟩, by decide +kernel⟩, tb 874 rfl rfl, tb 873 rfl rfl, tp 58 rfl rfl⟩
def i_M_halt : Mi := (⟨"LineCollectorModel", "halt", "(Z)I"⟩, prog_8_method_35_code, 4, some .int, { frames := 8, cells := 0, slots := 0, locals := 177 }, 1)
set_option maxRecDepth 20000 in
theorem o_M_halt : MiV i_M_halt "LineCollectorModel" := ⟨⟨tb 6 rfl rfl, ⟨by decide, by decide⟩, by decide +kernel⟩, tb 790 rfl rfl, tb 789 rfl rfl, tp 37 rfl rfl⟩
def i_M_collect : Mi := (⟨"LineCollectorModel", "collect", "()V"⟩, prog_8_method_36_code, 1, none, { frames := 9, cells := 0, slots := 0, locals := 200 }, 0)
set_option maxRecDepth 20000 in
theorem o_M_collect : MiV i_M_collect "LineCollectorModel" := ⟨⟨tb 6 rfl rfl, ⟨by decide, by decide⟩, by decide +kernel⟩, tb 786 rfl rfl, tb 785 rfl rfl, tp 36 rfl rfl⟩
def i_M_isRoot : Mi := (⟨"LineCollectorModel", "isRoot", "(I)Z"⟩, prog_8_method_37_code, 1, some .boolean, { frames := 0, cells := 0, slots := 0, locals := 0 }, 1)
set_option maxRecDepth 20000 in
theorem o_M_isRoot : MiS i_M_isRoot := ⟨⟨tb 6 rfl rfl, ⟨by decide, by decide⟩, by decide +kernel⟩, tb 754 rfl rfl, tb 753 rfl rfl⟩
def i_M_allocate : Mi := (⟨"LineCollectorModel", "allocate", "(III)I"⟩, prog_8_method_38_code, 6, some .int, { frames := 10, cells := 0, slots := 0, locals := 220 }, 3)
set_option maxRecDepth 20000 in
theorem o_M_allocate : MiV i_M_allocate "LineCollectorModel" := ⟨⟨tb 6 rfl rfl, ⟨by decide, by decide⟩, by decide +kernel⟩, tb 751 rfl rfl, tb 749 rfl rfl, tb 750 rfl rfl⟩
def i_M_drop : Mi := (⟨"LineCollectorModel", "drop", "(I)V"⟩, prog_8_method_39_code, 2, none, { frames := 1, cells := 0, slots := 0, locals := 20 }, 1)
set_option maxRecDepth 20000 in
theorem o_M_drop : MiV i_M_drop "LineCollectorModel" := ⟨⟨tb 6 rfl rfl, ⟨by decide, by decide⟩, by decide +kernel⟩, tb 890 rfl rfl, tb 888 rfl rfl, tb 889 rfl rfl⟩
def i_M_copy : Mi := (⟨"LineCollectorModel", "copy", "(II)V"⟩, prog_8_method_40_code, 3, none, { frames := 1, cells := 0, slots := 0, locals := 20 }, 2)
set_option maxRecDepth 20000 in
theorem o_M_copy : MiV i_M_copy "LineCollectorModel" := ⟨⟨tb 6 rfl rfl, ⟨by decide, by decide⟩, by decide +kernel⟩, tb 894 rfl rfl, tb 892 rfl rfl, tb 893 rfl rfl⟩
def i_M_reach : Mi := (⟨"LineCollectorModel", "reach", "(III)V"⟩, prog_8_method_41_code, 4, none, { frames := 1, cells := 0, slots := 0, locals := 20 }, 3)
set_option maxRecDepth 20000 in
theorem o_M_reach : MiV i_M_reach "LineCollectorModel" := ⟨⟨tb 6 rfl rfl, ⟨by decide, by decide⟩, by decide +kernel⟩, tb 902 rfl rfl, tb 901 rfl rfl, tp 62 rfl rfl⟩
def i_M_load : Mi := (⟨"LineCollectorModel", "load", "(III)I"⟩, prog_8_method_42_code, 4, some .int, { frames := 2, cells := 0, slots := 0, locals := 43 }, 3)
set_option maxRecDepth 20000 in
theorem o_M_load : MiV i_M_load "LineCollectorModel" := ⟨⟨tb 6 rfl rfl, ⟨by decide, by decide⟩, by decide +kernel⟩, tb 898 rfl rfl, tb 896 rfl rfl, tb 897 rfl rfl⟩
def i_M_store : Mi := (⟨"LineCollectorModel", "store", "(III)V"⟩, prog_8_method_43_code, 6, none, { frames := 2, cells := 0, slots := 0, locals := 43 }, 3)
set_option maxRecDepth 20000 in
theorem o_M_store : MiV i_M_store "LineCollectorModel" := ⟨⟨tb 6 rfl rfl, ⟨by decide, by decide⟩, by decide +kernel⟩, tb 910 rfl rfl, tb 908 rfl rfl, tb 909 rfl rfl⟩
def i_M_drain : Mi := (⟨"LineCollectorModel", "drain", "(I)I"⟩, prog_8_method_44_code, 3, some .int, { frames := 4, cells := 0, slots := 0, locals := 89 }, 1)
set_option maxRecDepth 20000 in
theorem o_M_drain : MiV i_M_drain "LineCollectorModel" := ⟨⟨tb 6 rfl rfl, ⟨by decide, by decide⟩, by decide +kernel⟩, tb 914 rfl rfl, tb 912 rfl rfl, tb 913 rfl rfl⟩
def i_M_trace : Mi := (⟨"LineCollectorModel", "trace", "(I)I"⟩, prog_8_method_45_code, 3, some .int, { frames := 2, cells := 0, slots := 0, locals := 45 }, 1)
set_option maxRecDepth 20000 in
theorem o_M_trace : MiV i_M_trace "LineCollectorModel" := ⟨⟨tb 6 rfl rfl, ⟨by decide, by decide⟩, by decide +kernel⟩, tb 918 rfl rfl, tb 916 rfl rfl, tb 917 rfl rfl⟩
def i_M_pause : Mi := (⟨"LineCollectorModel", "pause", "(Z)I"⟩, prog_8_method_46_code, 2, some .int, { frames := 9, cells := 0, slots := 0, locals := 200 }, 1)
set_option maxRecDepth 20000 in
theorem o_M_pause : MiV i_M_pause "LineCollectorModel" := ⟨⟨tb 6 rfl rfl, ⟨by decide, by decide⟩, by decide +kernel⟩, tb 922 rfl rfl, tb 920 rfl rfl, tb 921 rfl rfl⟩
def i_M_root : Mi := (⟨"LineCollectorModel", "root", "(I)I"⟩, prog_8_method_47_code, 2, some .int, { frames := 1, cells := 0, slots := 0, locals := 21 }, 1)
set_option maxRecDepth 20000 in
theorem o_M_root : MiV i_M_root "LineCollectorModel" := ⟨⟨tb 6 rfl rfl, ⟨by decide, by decide⟩, by decide +kernel⟩, tb 926 rfl rfl, tb 924 rfl rfl, tb 925 rfl rfl⟩
def i_M_field : Mi := (⟨"LineCollectorModel", "field", "(II)I"⟩, prog_8_method_48_code, 4, some .int, { frames := 1, cells := 0, slots := 0, locals := 21 }, 2)
set_option maxRecDepth 20000 in
theorem o_M_field : MiV i_M_field "LineCollectorModel" := ⟨⟨tb 6 rfl rfl, ⟨by decide, by decide⟩, by decide +kernel⟩, tb 930 rfl rfl, tb 928 rfl rfl, tb 929 rfl rfl⟩
def i_M_object : Mi := (⟨"LineCollectorModel", "object", "(II)I"⟩, prog_8_method_49_code, 4, some .int, { frames := 1, cells := 0, slots := 0, locals := 21 }, 2)
set_option maxRecDepth 20000 in
theorem o_M_object : MiV i_M_object "LineCollectorModel" := ⟨⟨tb 6 rfl rfl, ⟨by decide, by decide⟩, by decide +kernel⟩, tb 934 rfl rfl, tb 932 rfl rfl, tb 933 rfl rfl⟩
def i_M_line : Mi := (⟨"LineCollectorModel", "line", "(I)I"⟩, prog_8_method_50_code, 2, some .int, { frames := 1, cells := 0, slots := 0, locals := 23 }, 1)
set_option maxRecDepth 20000 in
theorem o_M_line : MiV i_M_line "LineCollectorModel" := ⟨⟨tb 6 rfl rfl, ⟨by decide, by decide⟩, by decide +kernel⟩, tb 938 rfl rfl, tb 936 rfl rfl, tb 937 rfl rfl⟩
def i_M_objects : Mi := (⟨"LineCollectorModel", "objects", "(I)I"⟩, prog_8_method_51_code, 4, some .int, { frames := 0, cells := 0, slots := 0, locals := 0 }, 1)
set_option maxRecDepth 20000 in
theorem o_M_objects : MiV i_M_objects "LineCollectorModel" := ⟨⟨tb 6 rfl rfl, ⟨by decide, by decide⟩, by decide +kernel⟩, tb 946 rfl rfl, tb 945 rfl rfl, tp 64 rfl rfl⟩
def i_M_figure : Mi := (⟨"LineCollectorModel", "figure", "(I)I"⟩, prog_8_method_52_code, 2, some .int, { frames := 1, cells := 0, slots := 0, locals := 23 }, 1)
set_option maxRecDepth 20000 in
theorem o_M_figure : MiV i_M_figure "LineCollectorModel" := ⟨⟨tb 6 rfl rfl, ⟨by decide, by decide⟩, by decide +kernel⟩, tb 942 rfl rfl, tb 940 rfl rfl, tb 941 rfl rfl⟩
def i_L_allocate : Mi := (⟨"LineCollectorLaw", "allocate", "(LLineCollector;III[J)I"⟩, method_3_code, 6, some .int, { frames := 8, cells := 3, slots := 31, locals := 178 }, 5)
def h_L_allocate : List (Nat × Nat × Nat × Nat) := [(0, 12, 15, 13), (0, 12, 19, 15)]
set_option maxRecDepth 20000 in
theorem o_L_allocate : MiW i_L_allocate h_L_allocate := ⟨⟨tb 0 rfl rfl, ⟨by decide, by decide⟩, by decide +kernel⟩, tb 348 rfl rfl, tb 347 rfl rfl⟩
def i_L_drop : Mi := (⟨"LineCollectorLaw", "drop", "(LLineCollector;I)I"⟩, method_4_code, 3, some .int, { frames := 7, cells := 1, slots := 6, locals := 102 }, 2)
def h_L_drop : List (Nat × Nat × Nat × Nat) := [(0, 5, 8, 13)]
set_option maxRecDepth 20000 in
theorem o_L_drop : MiW i_L_drop h_L_drop := ⟨⟨tb 0 rfl rfl, ⟨by decide, by decide⟩, by decide +kernel⟩, tb 492 rfl rfl, tb 491 rfl rfl⟩
def i_L_copy : Mi := (⟨"LineCollectorLaw", "copy", "(LLineCollector;II)I"⟩, method_5_code, 4, some .int, { frames := 7, cells := 1, slots := 6, locals := 103 }, 3)
def h_L_copy : List (Nat × Nat × Nat × Nat) := [(0, 6, 9, 13)]
set_option maxRecDepth 20000 in
theorem o_L_copy : MiW i_L_copy h_L_copy := ⟨⟨tb 0 rfl rfl, ⟨by decide, by decide⟩, by decide +kernel⟩, tb 499 rfl rfl, tb 498 rfl rfl⟩
def i_L_load : Mi := (⟨"LineCollectorLaw", "load", "(LLineCollector;III[J)I"⟩, method_6_code, 6, some .int, { frames := 8, cells := 1, slots := 6, locals := 129 }, 5)
def h_L_load : List (Nat × Nat × Nat × Nat) := [(0, 12, 15, 13), (0, 12, 19, 28), (0, 12, 23, 30)]
set_option maxRecDepth 20000 in
theorem o_L_load : MiW i_L_load h_L_load := ⟨⟨tb 0 rfl rfl, ⟨by decide, by decide⟩, by decide +kernel⟩, tb 506 rfl rfl, tb 505 rfl rfl⟩
def i_L_store : Mi := (⟨"LineCollectorLaw", "store", "(LLineCollector;III)I"⟩, method_7_code, 5, some .int, { frames := 8, cells := 1, slots := 6, locals := 129 }, 4)
def h_L_store : List (Nat × Nat × Nat × Nat) := [(0, 7, 10, 13), (0, 7, 14, 28), (0, 7, 18, 30)]
set_option maxRecDepth 20000 in
theorem o_L_store : MiW i_L_store h_L_store := ⟨⟨tb 0 rfl rfl, ⟨by decide, by decide⟩, by decide +kernel⟩, tb 556 rfl rfl, tb 555 rfl rfl⟩
def i_L_drain : Mi := (⟨"LineCollectorLaw", "drain", "(LLineCollector;I[J)I"⟩, method_8_code, 4, some .int, { frames := 7, cells := 1, slots := 6, locals := 129 }, 3)
def h_L_drain : List (Nat × Nat × Nat × Nat) := [(0, 9, 12, 13)]
set_option maxRecDepth 20000 in
theorem o_L_drain : MiW i_L_drain h_L_drain := ⟨⟨tb 0 rfl rfl, ⟨by decide, by decide⟩, by decide +kernel⟩, tb 567 rfl rfl, tb 566 rfl rfl⟩
def i_L_trace : Mi := (⟨"LineCollectorLaw", "trace", "(LLineCollector;I[J)I"⟩, method_9_code, 4, some .int, { frames := 7, cells := 1, slots := 6, locals := 152 }, 3)
def h_L_trace : List (Nat × Nat × Nat × Nat) := [(0, 9, 12, 13), (0, 9, 15, 28)]
set_option maxRecDepth 20000 in
theorem o_L_trace : MiW i_L_trace h_L_trace := ⟨⟨tb 0 rfl rfl, ⟨by decide, by decide⟩, by decide +kernel⟩, tb 574 rfl rfl, tb 573 rfl rfl⟩
def i_L_root : Mi := (⟨"LineCollectorLaw", "root", "(LLineCollector;I[J)I"⟩, method_10_code, 4, some .int, { frames := 7, cells := 1, slots := 6, locals := 102 }, 3)
def h_L_root : List (Nat × Nat × Nat × Nat) := [(0, 9, 12, 13)]
set_option maxRecDepth 20000 in
theorem o_L_root : MiW i_L_root h_L_root := ⟨⟨tb 0 rfl rfl, ⟨by decide, by decide⟩, by decide +kernel⟩, tb 581 rfl rfl, tb 580 rfl rfl⟩
def i_L_field : Mi := (⟨"LineCollectorLaw", "field", "(LLineCollector;II[J)I"⟩, method_11_code, 5, some .int, { frames := 7, cells := 1, slots := 6, locals := 104 }, 4)
def h_L_field : List (Nat × Nat × Nat × Nat) := [(0, 10, 13, 50), (0, 10, 17, 30)]
set_option maxRecDepth 20000 in
theorem o_L_field : MiW i_L_field h_L_field := ⟨⟨tb 0 rfl rfl, ⟨by decide, by decide⟩, by decide +kernel⟩, tb 588 rfl rfl, tb 587 rfl rfl⟩
def i_L_object : Mi := (⟨"LineCollectorLaw", "object", "(LLineCollector;II[J)I"⟩, method_12_code, 5, some .int, { frames := 7, cells := 1, slots := 6, locals := 104 }, 4)
def h_L_object : List (Nat × Nat × Nat × Nat) := [(0, 10, 13, 13), (0, 10, 17, 50)]
set_option maxRecDepth 20000 in
theorem o_L_object : MiW i_L_object h_L_object := ⟨⟨tb 0 rfl rfl, ⟨by decide, by decide⟩, by decide +kernel⟩, tb 615 rfl rfl, tb 614 rfl rfl⟩
def i_L_line : Mi := (⟨"LineCollectorLaw", "line", "(LLineCollector;I[J)I"⟩, method_13_code, 4, some .int, { frames := 7, cells := 1, slots := 6, locals := 102 }, 3)
def h_L_line : List (Nat × Nat × Nat × Nat) := [(0, 9, 12, 30)]
set_option maxRecDepth 20000 in
theorem o_L_line : MiW i_L_line h_L_line := ⟨⟨tb 0 rfl rfl, ⟨by decide, by decide⟩, by decide +kernel⟩, tb 622 rfl rfl, tb 621 rfl rfl⟩
def i_L_figure : Mi := (⟨"LineCollectorLaw", "figure", "(LLineCollector;I[J)I"⟩, method_14_code, 4, some .int, { frames := 7, cells := 1, slots := 6, locals := 102 }, 3)
def h_L_figure : List (Nat × Nat × Nat × Nat) := [(0, 9, 12, 13)]
set_option maxRecDepth 20000 in
theorem o_L_figure : MiW i_L_figure h_L_figure := ⟨⟨tb 0 rfl rfl, ⟨by decide, by decide⟩, by decide +kernel⟩, tb 631 rfl rfl, tb 630 rfl rfl⟩
theorem x_C_51 : exOk "LineCollector" 51 "java/lang/IllegalArgumentException" := by unfold exOk; decide +kernel
theorem x_C_61 : exOk "LineCollector" 61 "java/lang/UnsupportedOperationException" := by unfold exOk; decide +kernel
theorem x_C_105 : exOk "LineCollector" 105 "java/lang/IllegalStateException" := by unfold exOk; decide +kernel
theorem x_C_153 : exOk "LineCollector" 153 "java/util/NoSuchElementException" := by unfold exOk; decide +kernel
theorem x_C_159 : exOk "LineCollector" 159 "java/lang/IndexOutOfBoundsException" := by unfold exOk; decide +kernel
end
section
/-! Instructions (written by a program) -/
theorem d_C_isRoot_0 : decode prog_1_method_15_code 0 = .ok (.iload_n 0, 1) := by decide +kernel
theorem d_C_isRoot_1 : decode prog_1_method_15_code 1 = .ok (.ifCond .lt 13, 3) := by decide +kernel
theorem d_C_isRoot_4 : decode prog_1_method_15_code 4 = .ok (.iload_n 0, 1) := by decide +kernel
theorem d_C_isRoot_5 : decode prog_1_method_15_code 5 = .ok (.bipush 6, 2) := by decide +kernel
theorem d_C_isRoot_7 : decode prog_1_method_15_code 7 = .ok (.if_icmp .ge 7, 3) := by decide +kernel
theorem d_C_isRoot_10 : decode prog_1_method_15_code 10 = .ok (.iconst 1, 1) := by decide +kernel
theorem d_C_isRoot_11 : decode prog_1_method_15_code 11 = .ok (.goto 4, 3) := by decide +kernel
theorem d_C_isRoot_14 : decode prog_1_method_15_code 14 = .ok (.iconst 0, 1) := by decide +kernel
theorem d_C_isRoot_15 : decode prog_1_method_15_code 15 = .ok (.ireturn, 1) := by decide +kernel
theorem d_S_has_0 : decode prog_6_method_3_code 0 = .ok (.aload_n 0, 1) := by decide +kernel
theorem d_S_has_1 : decode prog_6_method_3_code 1 = .ok (.getfield 18, 3) := by decide +kernel
theorem d_S_has_4 : decode prog_6_method_3_code 4 = .ok (.aload_n 0, 1) := by decide +kernel
theorem d_S_has_5 : decode prog_6_method_3_code 5 = .ok (.getfield 15, 3) := by decide +kernel
theorem d_S_has_8 : decode prog_6_method_3_code 8 = .ok (.isub, 1) := by decide +kernel
theorem d_S_has_9 : decode prog_6_method_3_code 9 = .ok (.iload_n 1, 1) := by decide +kernel
theorem d_S_has_10 : decode prog_6_method_3_code 10 = .ok (.if_icmp .lt 7, 3) := by decide +kernel
theorem d_S_has_13 : decode prog_6_method_3_code 13 = .ok (.iconst 1, 1) := by decide +kernel
theorem d_S_has_14 : decode prog_6_method_3_code 14 = .ok (.goto 4, 3) := by decide +kernel
theorem d_S_has_17 : decode prog_6_method_3_code 17 = .ok (.iconst 0, 1) := by decide +kernel
theorem d_S_has_18 : decode prog_6_method_3_code 18 = .ok (.ireturn, 1) := by decide +kernel
theorem d_S_take_0 : decode prog_6_method_4_code 0 = .ok (.aload_n 0, 1) := by decide +kernel
theorem d_S_take_1 : decode prog_6_method_4_code 1 = .ok (.getfield 15, 3) := by decide +kernel
theorem d_S_take_4 : decode prog_6_method_4_code 4 = .ok (.istore_n 2, 1) := by decide +kernel
theorem d_S_take_5 : decode prog_6_method_4_code 5 = .ok (.aload_n 0, 1) := by decide +kernel
theorem d_S_take_6 : decode prog_6_method_4_code 6 = .ok (.dup, 1) := by decide +kernel
theorem d_S_take_7 : decode prog_6_method_4_code 7 = .ok (.getfield 15, 3) := by decide +kernel
theorem d_S_take_10 : decode prog_6_method_4_code 10 = .ok (.iload_n 1, 1) := by decide +kernel
theorem d_S_take_11 : decode prog_6_method_4_code 11 = .ok (.iadd, 1) := by decide +kernel
theorem d_S_take_12 : decode prog_6_method_4_code 12 = .ok (.putfield 15, 3) := by decide +kernel
theorem d_S_take_15 : decode prog_6_method_4_code 15 = .ok (.iload_n 2, 1) := by decide +kernel
theorem d_S_take_16 : decode prog_6_method_4_code 16 = .ok (.ireturn, 1) := by decide +kernel
theorem d_S_covers_0 : decode prog_6_method_5_code 0 = .ok (.iload_n 1, 1) := by decide +kernel
theorem d_S_covers_1 : decode prog_6_method_5_code 1 = .ok (.iconst 4, 1) := by decide +kernel
theorem d_S_covers_2 : decode prog_6_method_5_code 2 = .ok (.imul, 1) := by decide +kernel
theorem d_S_covers_3 : decode prog_6_method_5_code 3 = .ok (.aload_n 0, 1) := by decide +kernel
theorem d_S_covers_4 : decode prog_6_method_5_code 4 = .ok (.getfield 9, 3) := by decide +kernel
theorem d_S_covers_7 : decode prog_6_method_5_code 7 = .ok (.if_icmp .lt 17, 3) := by decide +kernel
theorem d_S_covers_10 : decode prog_6_method_5_code 10 = .ok (.iload_n 1, 1) := by decide +kernel
theorem d_S_covers_11 : decode prog_6_method_5_code 11 = .ok (.iconst 4, 1) := by decide +kernel
theorem d_S_covers_12 : decode prog_6_method_5_code 12 = .ok (.imul, 1) := by decide +kernel
theorem d_S_covers_13 : decode prog_6_method_5_code 13 = .ok (.aload_n 0, 1) := by decide +kernel
theorem d_S_covers_14 : decode prog_6_method_5_code 14 = .ok (.getfield 18, 3) := by decide +kernel
theorem d_S_covers_17 : decode prog_6_method_5_code 17 = .ok (.if_icmp .ge 7, 3) := by decide +kernel
theorem d_S_covers_20 : decode prog_6_method_5_code 20 = .ok (.iconst 1, 1) := by decide +kernel
theorem d_S_covers_21 : decode prog_6_method_5_code 21 = .ok (.goto 4, 3) := by decide +kernel
theorem d_S_covers_24 : decode prog_6_method_5_code 24 = .ok (.iconst 0, 1) := by decide +kernel
theorem d_S_covers_25 : decode prog_6_method_5_code 25 = .ok (.ireturn, 1) := by decide +kernel
theorem d_P_isFree_0 : decode prog_4_method_3_code 0 = .ok (.aload_n 0, 1) := by decide +kernel
theorem d_P_isFree_1 : decode prog_4_method_3_code 1 = .ok (.getfield 9, 3) := by decide +kernel
theorem d_P_isFree_4 : decode prog_4_method_3_code 4 = .ok (.iload_n 1, 1) := by decide +kernel
theorem d_P_isFree_5 : decode prog_4_method_3_code 5 = .ok (.iaload, 1) := by decide +kernel
theorem d_P_isFree_6 : decode prog_4_method_3_code 6 = .ok (.ifCond .ne 49, 3) := by decide +kernel
theorem d_P_isFree_9 : decode prog_4_method_3_code 9 = .ok (.aload_n 0, 1) := by decide +kernel
theorem d_P_isFree_10 : decode prog_4_method_3_code 10 = .ok (.getfield 15, 3) := by decide +kernel
theorem d_P_isFree_13 : decode prog_4_method_3_code 13 = .ok (.iload_n 1, 1) := by decide +kernel
theorem d_P_isFree_14 : decode prog_4_method_3_code 14 = .ok (.baload, 1) := by decide +kernel
theorem d_P_isFree_15 : decode prog_4_method_3_code 15 = .ok (.ifCond .ne 40, 3) := by decide +kernel
theorem d_P_isFree_18 : decode prog_4_method_3_code 18 = .ok (.iload_n 1, 1) := by decide +kernel
theorem d_P_isFree_19 : decode prog_4_method_3_code 19 = .ok (.bipush 8, 2) := by decide +kernel
theorem d_P_isFree_21 : decode prog_4_method_3_code 21 = .ok (.idiv, 1) := by decide +kernel
theorem d_P_isFree_22 : decode prog_4_method_3_code 22 = .ok (.aload_n 0, 1) := by decide +kernel
theorem d_P_isFree_23 : decode prog_4_method_3_code 23 = .ok (.getfield 29, 3) := by decide +kernel
theorem d_P_isFree_26 : decode prog_4_method_3_code 26 = .ok (.if_icmp .eq 29, 3) := by decide +kernel
theorem d_P_isFree_29 : decode prog_4_method_3_code 29 = .ok (.aload_n 0, 1) := by decide +kernel
theorem d_P_isFree_30 : decode prog_4_method_3_code 30 = .ok (.getfield 22, 3) := by decide +kernel
theorem d_P_isFree_33 : decode prog_4_method_3_code 33 = .ok (.iload_n 1, 1) := by decide +kernel
theorem d_P_isFree_34 : decode prog_4_method_3_code 34 = .ok (.invokevirtual 33, 3) := by decide +kernel
theorem d_P_isFree_37 : decode prog_4_method_3_code 37 = .ok (.ifCond .ne 18, 3) := by decide +kernel
theorem d_P_isFree_40 : decode prog_4_method_3_code 40 = .ok (.aload_n 0, 1) := by decide +kernel
theorem d_P_isFree_41 : decode prog_4_method_3_code 41 = .ok (.getfield 26, 3) := by decide +kernel
theorem d_P_isFree_44 : decode prog_4_method_3_code 44 = .ok (.iload_n 1, 1) := by decide +kernel
theorem d_P_isFree_45 : decode prog_4_method_3_code 45 = .ok (.invokevirtual 33, 3) := by decide +kernel
theorem d_P_isFree_48 : decode prog_4_method_3_code 48 = .ok (.ifCond .ne 7, 3) := by decide +kernel
theorem d_P_isFree_51 : decode prog_4_method_3_code 51 = .ok (.iconst 1, 1) := by decide +kernel
theorem d_P_isFree_52 : decode prog_4_method_3_code 52 = .ok (.goto 4, 3) := by decide +kernel
theorem d_P_isFree_55 : decode prog_4_method_3_code 55 = .ok (.iconst 0, 1) := by decide +kernel
theorem d_P_isFree_56 : decode prog_4_method_3_code 56 = .ok (.ireturn, 1) := by decide +kernel
theorem d_S_open_0 : decode prog_6_method_2_code 0 = .ok (.aload_n 0, 1) := by decide +kernel
theorem d_S_open_1 : decode prog_6_method_2_code 1 = .ok (.iload_n 1, 1) := by decide +kernel
theorem d_S_open_2 : decode prog_6_method_2_code 2 = .ok (.iconst 4, 1) := by decide +kernel
theorem d_S_open_3 : decode prog_6_method_2_code 3 = .ok (.imul, 1) := by decide +kernel
theorem d_S_open_4 : decode prog_6_method_2_code 4 = .ok (.putfield 9, 3) := by decide +kernel
theorem d_S_open_7 : decode prog_6_method_2_code 7 = .ok (.aload_n 0, 1) := by decide +kernel
theorem d_S_open_8 : decode prog_6_method_2_code 8 = .ok (.aload_n 0, 1) := by decide +kernel
theorem d_S_open_9 : decode prog_6_method_2_code 9 = .ok (.getfield 9, 3) := by decide +kernel
theorem d_S_open_12 : decode prog_6_method_2_code 12 = .ok (.putfield 15, 3) := by decide +kernel
theorem d_S_open_15 : decode prog_6_method_2_code 15 = .ok (.aload_n 0, 1) := by decide +kernel
theorem d_S_open_16 : decode prog_6_method_2_code 16 = .ok (.iload_n 2, 1) := by decide +kernel
theorem d_S_open_17 : decode prog_6_method_2_code 17 = .ok (.iconst 4, 1) := by decide +kernel
theorem d_S_open_18 : decode prog_6_method_2_code 18 = .ok (.imul, 1) := by decide +kernel
theorem d_S_open_19 : decode prog_6_method_2_code 19 = .ok (.putfield 18, 3) := by decide +kernel
theorem d_S_open_22 : decode prog_6_method_2_code 22 = .ok (.return_, 1) := by decide +kernel
theorem d_P_openOverflow_0 : decode prog_4_method_12_code 0 = .ok (.iconst 0, 1) := by decide +kernel
theorem d_P_openOverflow_1 : decode prog_4_method_12_code 1 = .ok (.istore_n 1, 1) := by decide +kernel
theorem d_P_openOverflow_2 : decode prog_4_method_12_code 2 = .ok (.iload_n 1, 1) := by decide +kernel
theorem d_P_openOverflow_3 : decode prog_4_method_12_code 3 = .ok (.iconst 4, 1) := by decide +kernel
theorem d_P_openOverflow_4 : decode prog_4_method_12_code 4 = .ok (.if_icmp .ge 68, 3) := by decide +kernel
theorem d_P_openOverflow_7 : decode prog_4_method_12_code 7 = .ok (.iconst 0, 1) := by decide +kernel
theorem d_P_openOverflow_8 : decode prog_4_method_12_code 8 = .ok (.istore_n 2, 1) := by decide +kernel
theorem d_P_openOverflow_9 : decode prog_4_method_12_code 9 = .ok (.iload_n 1, 1) := by decide +kernel
theorem d_P_openOverflow_10 : decode prog_4_method_12_code 10 = .ok (.bipush 8, 2) := by decide +kernel
theorem d_P_openOverflow_12 : decode prog_4_method_12_code 12 = .ok (.imul, 1) := by decide +kernel
theorem d_P_openOverflow_13 : decode prog_4_method_12_code 13 = .ok (.istore_n 3, 1) := by decide +kernel
theorem d_P_openOverflow_14 : decode prog_4_method_12_code 14 = .ok (.iload_n 3, 1) := by decide +kernel
theorem d_P_openOverflow_15 : decode prog_4_method_12_code 15 = .ok (.iload_n 1, 1) := by decide +kernel
theorem d_P_openOverflow_16 : decode prog_4_method_12_code 16 = .ok (.iconst 1, 1) := by decide +kernel
theorem d_P_openOverflow_17 : decode prog_4_method_12_code 17 = .ok (.iadd, 1) := by decide +kernel
theorem d_P_openOverflow_18 : decode prog_4_method_12_code 18 = .ok (.bipush 8, 2) := by decide +kernel
theorem d_P_openOverflow_20 : decode prog_4_method_12_code 20 = .ok (.imul, 1) := by decide +kernel
theorem d_P_openOverflow_21 : decode prog_4_method_12_code 21 = .ok (.if_icmp .ge 20, 3) := by decide +kernel
theorem d_P_openOverflow_24 : decode prog_4_method_12_code 24 = .ok (.aload_n 0, 1) := by decide +kernel
theorem d_P_openOverflow_25 : decode prog_4_method_12_code 25 = .ok (.iload_n 3, 1) := by decide +kernel
theorem d_P_openOverflow_26 : decode prog_4_method_12_code 26 = .ok (.invokevirtual 59, 3) := by decide +kernel
theorem d_P_openOverflow_29 : decode prog_4_method_12_code 29 = .ok (.ifCond .eq 6, 3) := by decide +kernel
theorem d_P_openOverflow_32 : decode prog_4_method_12_code 32 = .ok (.iinc 2 1, 3) := by decide +kernel
theorem d_P_openOverflow_35 : decode prog_4_method_12_code 35 = .ok (.iinc 3 1, 3) := by decide +kernel
theorem d_P_openOverflow_38 : decode prog_4_method_12_code 38 = .ok (.goto (-24), 3) := by decide +kernel
theorem d_P_openOverflow_41 : decode prog_4_method_12_code 41 = .ok (.iload_n 2, 1) := by decide +kernel
theorem d_P_openOverflow_42 : decode prog_4_method_12_code 42 = .ok (.bipush 8, 2) := by decide +kernel
theorem d_P_openOverflow_44 : decode prog_4_method_12_code 44 = .ok (.if_icmp .ne 22, 3) := by decide +kernel
theorem d_P_openOverflow_47 : decode prog_4_method_12_code 47 = .ok (.aload_n 0, 1) := by decide +kernel
theorem d_P_openOverflow_48 : decode prog_4_method_12_code 48 = .ok (.getfield 26, 3) := by decide +kernel
theorem d_P_openOverflow_51 : decode prog_4_method_12_code 51 = .ok (.iload_n 1, 1) := by decide +kernel
theorem d_P_openOverflow_52 : decode prog_4_method_12_code 52 = .ok (.bipush 8, 2) := by decide +kernel
theorem d_P_openOverflow_54 : decode prog_4_method_12_code 54 = .ok (.imul, 1) := by decide +kernel
theorem d_P_openOverflow_55 : decode prog_4_method_12_code 55 = .ok (.iload_n 1, 1) := by decide +kernel
theorem d_P_openOverflow_56 : decode prog_4_method_12_code 56 = .ok (.iconst 1, 1) := by decide +kernel
theorem d_P_openOverflow_57 : decode prog_4_method_12_code 57 = .ok (.iadd, 1) := by decide +kernel
theorem d_P_openOverflow_58 : decode prog_4_method_12_code 58 = .ok (.bipush 8, 2) := by decide +kernel
theorem d_P_openOverflow_60 : decode prog_4_method_12_code 60 = .ok (.imul, 1) := by decide +kernel
theorem d_P_openOverflow_61 : decode prog_4_method_12_code 61 = .ok (.invokevirtual 37, 3) := by decide +kernel
theorem d_P_openOverflow_64 : decode prog_4_method_12_code 64 = .ok (.iconst 1, 1) := by decide +kernel
theorem d_P_openOverflow_65 : decode prog_4_method_12_code 65 = .ok (.ireturn, 1) := by decide +kernel
theorem d_P_openOverflow_66 : decode prog_4_method_12_code 66 = .ok (.iinc 1 1, 3) := by decide +kernel
theorem d_P_openOverflow_69 : decode prog_4_method_12_code 69 = .ok (.goto (-67), 3) := by decide +kernel
theorem d_P_openOverflow_72 : decode prog_4_method_12_code 72 = .ok (.iconst 0, 1) := by decide +kernel
theorem d_P_openOverflow_73 : decode prog_4_method_12_code 73 = .ok (.ireturn, 1) := by decide +kernel
theorem d_S_endLine_0 : decode prog_6_method_6_code 0 = .ok (.aload_n 0, 1) := by decide +kernel
theorem d_S_endLine_1 : decode prog_6_method_6_code 1 = .ok (.getfield 18, 3) := by decide +kernel
theorem d_S_endLine_4 : decode prog_6_method_6_code 4 = .ok (.iconst 4, 1) := by decide +kernel
theorem d_S_endLine_5 : decode prog_6_method_6_code 5 = .ok (.idiv, 1) := by decide +kernel
theorem d_S_endLine_6 : decode prog_6_method_6_code 6 = .ok (.ireturn, 1) := by decide +kernel
theorem d_P_openHole_0 : decode prog_4_method_11_code 0 = .ok (.aload_n 0, 1) := by decide +kernel
theorem d_P_openHole_1 : decode prog_4_method_11_code 1 = .ok (.getfield 22, 3) := by decide +kernel
theorem d_P_openHole_4 : decode prog_4_method_11_code 4 = .ok (.invokevirtual 55, 3) := by decide +kernel
theorem d_P_openHole_7 : decode prog_4_method_11_code 7 = .ok (.istore_n 1, 1) := by decide +kernel
theorem d_P_openHole_8 : decode prog_4_method_11_code 8 = .ok (.iconst 0, 1) := by decide +kernel
theorem d_P_openHole_9 : decode prog_4_method_11_code 9 = .ok (.istore_n 2, 1) := by decide +kernel
theorem d_P_openHole_10 : decode prog_4_method_11_code 10 = .ok (.iload_n 2, 1) := by decide +kernel
theorem d_P_openHole_11 : decode prog_4_method_11_code 11 = .ok (.bipush 32, 2) := by decide +kernel
theorem d_P_openHole_13 : decode prog_4_method_11_code 13 = .ok (.if_icmp .ge 74, 3) := by decide +kernel
theorem d_P_openHole_16 : decode prog_4_method_11_code 16 = .ok (.iload_n 1, 1) := by decide +kernel
theorem d_P_openHole_17 : decode prog_4_method_11_code 17 = .ok (.iload_n 2, 1) := by decide +kernel
theorem d_P_openHole_18 : decode prog_4_method_11_code 18 = .ok (.iadd, 1) := by decide +kernel
theorem d_P_openHole_19 : decode prog_4_method_11_code 19 = .ok (.bipush 32, 2) := by decide +kernel
theorem d_P_openHole_21 : decode prog_4_method_11_code 21 = .ok (.irem, 1) := by decide +kernel
theorem d_P_openHole_22 : decode prog_4_method_11_code 22 = .ok (.istore_n 3, 1) := by decide +kernel
theorem d_P_openHole_23 : decode prog_4_method_11_code 23 = .ok (.aload_n 0, 1) := by decide +kernel
theorem d_P_openHole_24 : decode prog_4_method_11_code 24 = .ok (.iload_n 3, 1) := by decide +kernel
theorem d_P_openHole_25 : decode prog_4_method_11_code 25 = .ok (.invokevirtual 59, 3) := by decide +kernel
theorem d_P_openHole_28 : decode prog_4_method_11_code 28 = .ok (.ifCond .eq 53, 3) := by decide +kernel
theorem d_P_openHole_31 : decode prog_4_method_11_code 31 = .ok (.iload_n 3, 1) := by decide +kernel
theorem d_P_openHole_32 : decode prog_4_method_11_code 32 = .ok (.bipush 8, 2) := by decide +kernel
theorem d_P_openHole_34 : decode prog_4_method_11_code 34 = .ok (.idiv, 1) := by decide +kernel
theorem d_P_openHole_35 : decode prog_4_method_11_code 35 = .ok (.iconst 1, 1) := by decide +kernel
theorem d_P_openHole_36 : decode prog_4_method_11_code 36 = .ok (.iadd, 1) := by decide +kernel
theorem d_P_openHole_37 : decode prog_4_method_11_code 37 = .ok (.bipush 8, 2) := by decide +kernel
theorem d_P_openHole_39 : decode prog_4_method_11_code 39 = .ok (.imul, 1) := by decide +kernel
theorem d_P_openHole_40 : decode prog_4_method_11_code 40 = .ok (.istore 4, 2) := by decide +kernel
theorem d_P_openHole_42 : decode prog_4_method_11_code 42 = .ok (.iload_n 3, 1) := by decide +kernel
theorem d_P_openHole_43 : decode prog_4_method_11_code 43 = .ok (.iconst 1, 1) := by decide +kernel
theorem d_P_openHole_44 : decode prog_4_method_11_code 44 = .ok (.iadd, 1) := by decide +kernel
theorem d_P_openHole_45 : decode prog_4_method_11_code 45 = .ok (.istore 5, 2) := by decide +kernel
theorem d_P_openHole_47 : decode prog_4_method_11_code 47 = .ok (.iload 5, 2) := by decide +kernel
theorem d_P_openHole_49 : decode prog_4_method_11_code 49 = .ok (.iload 4, 2) := by decide +kernel
theorem d_P_openHole_51 : decode prog_4_method_11_code 51 = .ok (.if_icmp .ge 18, 3) := by decide +kernel
theorem d_P_openHole_54 : decode prog_4_method_11_code 54 = .ok (.aload_n 0, 1) := by decide +kernel
theorem d_P_openHole_55 : decode prog_4_method_11_code 55 = .ok (.iload 5, 2) := by decide +kernel
theorem d_P_openHole_57 : decode prog_4_method_11_code 57 = .ok (.invokevirtual 59, 3) := by decide +kernel
theorem d_P_openHole_60 : decode prog_4_method_11_code 60 = .ok (.ifCond .eq 9, 3) := by decide +kernel
theorem d_P_openHole_63 : decode prog_4_method_11_code 63 = .ok (.iinc 5 1, 3) := by decide +kernel
theorem d_P_openHole_66 : decode prog_4_method_11_code 66 = .ok (.goto (-19), 3) := by decide +kernel
theorem d_P_openHole_69 : decode prog_4_method_11_code 69 = .ok (.aload_n 0, 1) := by decide +kernel
theorem d_P_openHole_70 : decode prog_4_method_11_code 70 = .ok (.getfield 22, 3) := by decide +kernel
theorem d_P_openHole_73 : decode prog_4_method_11_code 73 = .ok (.iload_n 3, 1) := by decide +kernel
theorem d_P_openHole_74 : decode prog_4_method_11_code 74 = .ok (.iload 5, 2) := by decide +kernel
theorem d_P_openHole_76 : decode prog_4_method_11_code 76 = .ok (.invokevirtual 37, 3) := by decide +kernel
theorem d_P_openHole_79 : decode prog_4_method_11_code 79 = .ok (.iconst 1, 1) := by decide +kernel
theorem d_P_openHole_80 : decode prog_4_method_11_code 80 = .ok (.ireturn, 1) := by decide +kernel
theorem d_P_openHole_81 : decode prog_4_method_11_code 81 = .ok (.iinc 2 1, 3) := by decide +kernel
theorem d_P_openHole_84 : decode prog_4_method_11_code 84 = .ok (.goto (-74), 3) := by decide +kernel
theorem d_P_openHole_87 : decode prog_4_method_11_code 87 = .ok (.iconst 0, 1) := by decide +kernel
theorem d_P_openHole_88 : decode prog_4_method_11_code 88 = .ok (.ireturn, 1) := by decide +kernel
theorem d_P_find_0 : decode prog_4_method_10_code 0 = .ok (.aload_n 0, 1) := by decide +kernel
theorem d_P_find_1 : decode prog_4_method_10_code 1 = .ok (.getfield 22, 3) := by decide +kernel
theorem d_P_find_4 : decode prog_4_method_10_code 4 = .ok (.iload_n 1, 1) := by decide +kernel
theorem d_P_find_5 : decode prog_4_method_10_code 5 = .ok (.invokevirtual 41, 3) := by decide +kernel
theorem d_P_find_8 : decode prog_4_method_10_code 8 = .ok (.ifCond .eq 12, 3) := by decide +kernel
theorem d_P_find_11 : decode prog_4_method_10_code 11 = .ok (.aload_n 0, 1) := by decide +kernel
theorem d_P_find_12 : decode prog_4_method_10_code 12 = .ok (.getfield 22, 3) := by decide +kernel
theorem d_P_find_15 : decode prog_4_method_10_code 15 = .ok (.iload_n 1, 1) := by decide +kernel
theorem d_P_find_16 : decode prog_4_method_10_code 16 = .ok (.invokevirtual 44, 3) := by decide +kernel
theorem d_P_find_19 : decode prog_4_method_10_code 19 = .ok (.ireturn, 1) := by decide +kernel
theorem d_P_find_20 : decode prog_4_method_10_code 20 = .ok (.iload_n 1, 1) := by decide +kernel
theorem d_P_find_21 : decode prog_4_method_10_code 21 = .ok (.iconst 4, 1) := by decide +kernel
theorem d_P_find_22 : decode prog_4_method_10_code 22 = .ok (.if_icmp .gt 23, 3) := by decide +kernel
theorem d_P_find_25 : decode prog_4_method_10_code 25 = .ok (.aload_n 0, 1) := by decide +kernel
theorem d_P_find_26 : decode prog_4_method_10_code 26 = .ok (.invokevirtual 48, 3) := by decide +kernel
theorem d_P_find_29 : decode prog_4_method_10_code 29 = .ok (.ifCond .eq 14, 3) := by decide +kernel
theorem d_P_find_32 : decode prog_4_method_10_code 32 = .ok (.aload_n 0, 1) := by decide +kernel
theorem d_P_find_33 : decode prog_4_method_10_code 33 = .ok (.getfield 22, 3) := by decide +kernel
theorem d_P_find_36 : decode prog_4_method_10_code 36 = .ok (.iload_n 1, 1) := by decide +kernel
theorem d_P_find_37 : decode prog_4_method_10_code 37 = .ok (.invokevirtual 44, 3) := by decide +kernel
theorem d_P_find_40 : decode prog_4_method_10_code 40 = .ok (.goto 4, 3) := by decide +kernel
theorem d_P_find_43 : decode prog_4_method_10_code 43 = .ok (.iconst (-1), 1) := by decide +kernel
theorem d_P_find_44 : decode prog_4_method_10_code 44 = .ok (.ireturn, 1) := by decide +kernel
theorem d_P_find_45 : decode prog_4_method_10_code 45 = .ok (.aload_n 0, 1) := by decide +kernel
theorem d_P_find_46 : decode prog_4_method_10_code 46 = .ok (.getfield 26, 3) := by decide +kernel
theorem d_P_find_49 : decode prog_4_method_10_code 49 = .ok (.iload_n 1, 1) := by decide +kernel
theorem d_P_find_50 : decode prog_4_method_10_code 50 = .ok (.invokevirtual 41, 3) := by decide +kernel
theorem d_P_find_53 : decode prog_4_method_10_code 53 = .ok (.ifCond .ne 10, 3) := by decide +kernel
theorem d_P_find_56 : decode prog_4_method_10_code 56 = .ok (.aload_n 0, 1) := by decide +kernel
theorem d_P_find_57 : decode prog_4_method_10_code 57 = .ok (.invokevirtual 52, 3) := by decide +kernel
theorem d_P_find_60 : decode prog_4_method_10_code 60 = .ok (.ifCond .eq 12, 3) := by decide +kernel
theorem d_P_find_63 : decode prog_4_method_10_code 63 = .ok (.aload_n 0, 1) := by decide +kernel
theorem d_P_find_64 : decode prog_4_method_10_code 64 = .ok (.getfield 26, 3) := by decide +kernel
theorem d_P_find_67 : decode prog_4_method_10_code 67 = .ok (.iload_n 1, 1) := by decide +kernel
theorem d_P_find_68 : decode prog_4_method_10_code 68 = .ok (.invokevirtual 44, 3) := by decide +kernel
theorem d_P_find_71 : decode prog_4_method_10_code 71 = .ok (.ireturn, 1) := by decide +kernel
theorem d_P_find_72 : decode prog_4_method_10_code 72 = .ok (.iconst (-1), 1) := by decide +kernel
theorem d_P_find_73 : decode prog_4_method_10_code 73 = .ok (.ireturn, 1) := by decide +kernel
theorem d_P_occupy_0 : decode prog_4_method_4_code 0 = .ok (.iload_n 1, 1) := by decide +kernel
theorem d_P_occupy_1 : decode prog_4_method_4_code 1 = .ok (.istore_n 3, 1) := by decide +kernel
theorem d_P_occupy_2 : decode prog_4_method_4_code 2 = .ok (.iload_n 3, 1) := by decide +kernel
theorem d_P_occupy_3 : decode prog_4_method_4_code 3 = .ok (.iload_n 1, 1) := by decide +kernel
theorem d_P_occupy_4 : decode prog_4_method_4_code 4 = .ok (.iload_n 2, 1) := by decide +kernel
theorem d_P_occupy_5 : decode prog_4_method_4_code 5 = .ok (.iadd, 1) := by decide +kernel
theorem d_P_occupy_6 : decode prog_4_method_4_code 6 = .ok (.if_icmp .ge 21, 3) := by decide +kernel
theorem d_P_occupy_9 : decode prog_4_method_4_code 9 = .ok (.aload_n 0, 1) := by decide +kernel
theorem d_P_occupy_10 : decode prog_4_method_4_code 10 = .ok (.getfield 9, 3) := by decide +kernel
theorem d_P_occupy_13 : decode prog_4_method_4_code 13 = .ok (.iload_n 3, 1) := by decide +kernel
theorem d_P_occupy_14 : decode prog_4_method_4_code 14 = .ok (.iconst 4, 1) := by decide +kernel
theorem d_P_occupy_15 : decode prog_4_method_4_code 15 = .ok (.idiv, 1) := by decide +kernel
theorem d_P_occupy_16 : decode prog_4_method_4_code 16 = .ok (.dup2, 1) := by decide +kernel
theorem d_P_occupy_17 : decode prog_4_method_4_code 17 = .ok (.iaload, 1) := by decide +kernel
theorem d_P_occupy_18 : decode prog_4_method_4_code 18 = .ok (.iconst 1, 1) := by decide +kernel
theorem d_P_occupy_19 : decode prog_4_method_4_code 19 = .ok (.iadd, 1) := by decide +kernel
theorem d_P_occupy_20 : decode prog_4_method_4_code 20 = .ok (.iastore, 1) := by decide +kernel
theorem d_P_occupy_21 : decode prog_4_method_4_code 21 = .ok (.iinc 3 1, 3) := by decide +kernel
theorem d_P_occupy_24 : decode prog_4_method_4_code 24 = .ok (.goto (-22), 3) := by decide +kernel
theorem d_P_occupy_27 : decode prog_4_method_4_code 27 = .ok (.return_, 1) := by decide +kernel
theorem d_C_settle_0 : decode prog_1_method_22_code 0 = .ok (.aload_n 1, 1) := by decide +kernel
theorem d_C_settle_1 : decode prog_1_method_22_code 1 = .ok (.iload_n 2, 1) := by decide +kernel
theorem d_C_settle_2 : decode prog_1_method_22_code 2 = .ok (.putfield 191, 3) := by decide +kernel
theorem d_C_settle_5 : decode prog_1_method_22_code 5 = .ok (.aload_n 0, 1) := by decide +kernel
theorem d_C_settle_6 : decode prog_1_method_22_code 6 = .ok (.getfield 18, 3) := by decide +kernel
theorem d_C_settle_9 : decode prog_1_method_22_code 9 = .ok (.iload_n 2, 1) := by decide +kernel
theorem d_C_settle_10 : decode prog_1_method_22_code 10 = .ok (.aload_n 1, 1) := by decide +kernel
theorem d_C_settle_11 : decode prog_1_method_22_code 11 = .ok (.aastore, 1) := by decide +kernel
theorem d_C_settle_12 : decode prog_1_method_22_code 12 = .ok (.aload_n 0, 1) := by decide +kernel
theorem d_C_settle_13 : decode prog_1_method_22_code 13 = .ok (.getfield 24, 3) := by decide +kernel
theorem d_C_settle_16 : decode prog_1_method_22_code 16 = .ok (.iload_n 2, 1) := by decide +kernel
theorem d_C_settle_17 : decode prog_1_method_22_code 17 = .ok (.aload_n 1, 1) := by decide +kernel
theorem d_C_settle_18 : decode prog_1_method_22_code 18 = .ok (.getfield 160, 3) := by decide +kernel
theorem d_C_settle_21 : decode prog_1_method_22_code 21 = .ok (.invokevirtual 194, 3) := by decide +kernel
theorem d_C_settle_24 : decode prog_1_method_22_code 24 = .ok (.return_, 1) := by decide +kernel
theorem d_W_takeFirst_0 : decode prog_5_method_4_code 0 = .ok (.aload_n 0, 1) := by decide +kernel
theorem d_W_takeFirst_1 : decode prog_5_method_4_code 1 = .ok (.getfield 17, 3) := by decide +kernel
theorem d_W_takeFirst_4 : decode prog_5_method_4_code 4 = .ok (.ifCond .ne 5, 3) := by decide +kernel
theorem d_W_takeFirst_7 : decode prog_5_method_4_code 7 = .ok (.aconst_null, 1) := by decide +kernel
theorem d_W_takeFirst_8 : decode prog_5_method_4_code 8 = .ok (.areturn, 1) := by decide +kernel
theorem d_W_takeFirst_9 : decode prog_5_method_4_code 9 = .ok (.aload_n 0, 1) := by decide +kernel
theorem d_W_takeFirst_10 : decode prog_5_method_4_code 10 = .ok (.getfield 11, 3) := by decide +kernel
theorem d_W_takeFirst_13 : decode prog_5_method_4_code 13 = .ok (.aload_n 0, 1) := by decide +kernel
theorem d_W_takeFirst_14 : decode prog_5_method_4_code 14 = .ok (.getfield 21, 3) := by decide +kernel
theorem d_W_takeFirst_17 : decode prog_5_method_4_code 17 = .ok (.aaload, 1) := by decide +kernel
theorem d_W_takeFirst_18 : decode prog_5_method_4_code 18 = .ok (.astore_n 1, 1) := by decide +kernel
theorem d_W_takeFirst_19 : decode prog_5_method_4_code 19 = .ok (.aload_n 0, 1) := by decide +kernel
theorem d_W_takeFirst_20 : decode prog_5_method_4_code 20 = .ok (.aload_n 0, 1) := by decide +kernel
theorem d_W_takeFirst_21 : decode prog_5_method_4_code 21 = .ok (.getfield 21, 3) := by decide +kernel
theorem d_W_takeFirst_24 : decode prog_5_method_4_code 24 = .ok (.iconst 1, 1) := by decide +kernel
theorem d_W_takeFirst_25 : decode prog_5_method_4_code 25 = .ok (.iadd, 1) := by decide +kernel
theorem d_W_takeFirst_26 : decode prog_5_method_4_code 26 = .ok (.sipush 262, 3) := by decide +kernel
theorem d_W_takeFirst_29 : decode prog_5_method_4_code 29 = .ok (.irem, 1) := by decide +kernel
theorem d_W_takeFirst_30 : decode prog_5_method_4_code 30 = .ok (.putfield 21, 3) := by decide +kernel
theorem d_W_takeFirst_33 : decode prog_5_method_4_code 33 = .ok (.aload_n 0, 1) := by decide +kernel
theorem d_W_takeFirst_34 : decode prog_5_method_4_code 34 = .ok (.dup, 1) := by decide +kernel
theorem d_W_takeFirst_35 : decode prog_5_method_4_code 35 = .ok (.getfield 17, 3) := by decide +kernel
theorem d_W_takeFirst_38 : decode prog_5_method_4_code 38 = .ok (.iconst 1, 1) := by decide +kernel
theorem d_W_takeFirst_39 : decode prog_5_method_4_code 39 = .ok (.isub, 1) := by decide +kernel
theorem d_W_takeFirst_40 : decode prog_5_method_4_code 40 = .ok (.putfield 17, 3) := by decide +kernel
theorem d_W_takeFirst_43 : decode prog_5_method_4_code 43 = .ok (.aload_n 1, 1) := by decide +kernel
theorem d_W_takeFirst_44 : decode prog_5_method_4_code 44 = .ok (.areturn, 1) := by decide +kernel
theorem d_P_vacate_0 : decode prog_4_method_5_code 0 = .ok (.iload_n 1, 1) := by decide +kernel
theorem d_P_vacate_1 : decode prog_4_method_5_code 1 = .ok (.istore_n 3, 1) := by decide +kernel
theorem d_P_vacate_2 : decode prog_4_method_5_code 2 = .ok (.iload_n 3, 1) := by decide +kernel
theorem d_P_vacate_3 : decode prog_4_method_5_code 3 = .ok (.iload_n 1, 1) := by decide +kernel
theorem d_P_vacate_4 : decode prog_4_method_5_code 4 = .ok (.iload_n 2, 1) := by decide +kernel
theorem d_P_vacate_5 : decode prog_4_method_5_code 5 = .ok (.iadd, 1) := by decide +kernel
theorem d_P_vacate_6 : decode prog_4_method_5_code 6 = .ok (.if_icmp .ge 21, 3) := by decide +kernel
theorem d_P_vacate_9 : decode prog_4_method_5_code 9 = .ok (.aload_n 0, 1) := by decide +kernel
theorem d_P_vacate_10 : decode prog_4_method_5_code 10 = .ok (.getfield 9, 3) := by decide +kernel
theorem d_P_vacate_13 : decode prog_4_method_5_code 13 = .ok (.iload_n 3, 1) := by decide +kernel
theorem d_P_vacate_14 : decode prog_4_method_5_code 14 = .ok (.iconst 4, 1) := by decide +kernel
theorem d_P_vacate_15 : decode prog_4_method_5_code 15 = .ok (.idiv, 1) := by decide +kernel
theorem d_P_vacate_16 : decode prog_4_method_5_code 16 = .ok (.dup2, 1) := by decide +kernel
theorem d_P_vacate_17 : decode prog_4_method_5_code 17 = .ok (.iaload, 1) := by decide +kernel
theorem d_P_vacate_18 : decode prog_4_method_5_code 18 = .ok (.iconst 1, 1) := by decide +kernel
theorem d_P_vacate_19 : decode prog_4_method_5_code 19 = .ok (.isub, 1) := by decide +kernel
theorem d_P_vacate_20 : decode prog_4_method_5_code 20 = .ok (.iastore, 1) := by decide +kernel
theorem d_P_vacate_21 : decode prog_4_method_5_code 21 = .ok (.iinc 3 1, 3) := by decide +kernel
theorem d_P_vacate_24 : decode prog_4_method_5_code 24 = .ok (.goto (-22), 3) := by decide +kernel
theorem d_P_vacate_27 : decode prog_4_method_5_code 27 = .ok (.return_, 1) := by decide +kernel
theorem d_C_remove_0 : decode prog_1_method_24_code 0 = .ok (.aload_n 0, 1) := by decide +kernel
theorem d_C_remove_1 : decode prog_1_method_24_code 1 = .ok (.getfield 18, 3) := by decide +kernel
theorem d_C_remove_4 : decode prog_1_method_24_code 4 = .ok (.aload_n 1, 1) := by decide +kernel
theorem d_C_remove_5 : decode prog_1_method_24_code 5 = .ok (.getfield 191, 3) := by decide +kernel
theorem d_C_remove_8 : decode prog_1_method_24_code 8 = .ok (.aconst_null, 1) := by decide +kernel
theorem d_C_remove_9 : decode prog_1_method_24_code 9 = .ok (.aastore, 1) := by decide +kernel
theorem d_C_remove_10 : decode prog_1_method_24_code 10 = .ok (.aload_n 0, 1) := by decide +kernel
theorem d_C_remove_11 : decode prog_1_method_24_code 11 = .ok (.getfield 24, 3) := by decide +kernel
theorem d_C_remove_14 : decode prog_1_method_24_code 14 = .ok (.aload_n 1, 1) := by decide +kernel
theorem d_C_remove_15 : decode prog_1_method_24_code 15 = .ok (.getfield 191, 3) := by decide +kernel
theorem d_C_remove_18 : decode prog_1_method_24_code 18 = .ok (.aload_n 1, 1) := by decide +kernel
theorem d_C_remove_19 : decode prog_1_method_24_code 19 = .ok (.getfield 160, 3) := by decide +kernel
theorem d_C_remove_22 : decode prog_1_method_24_code 22 = .ok (.invokevirtual 200, 3) := by decide +kernel
theorem d_C_remove_25 : decode prog_1_method_24_code 25 = .ok (.return_, 1) := by decide +kernel
theorem d_W_add_0 : decode prog_5_method_2_code 0 = .ok (.aload_n 0, 1) := by decide +kernel
theorem d_W_add_1 : decode prog_5_method_2_code 1 = .ok (.getfield 17, 3) := by decide +kernel
theorem d_W_add_4 : decode prog_5_method_2_code 4 = .ok (.sipush 262, 3) := by decide +kernel
theorem d_W_add_7 : decode prog_5_method_2_code 7 = .ok (.if_icmp .ge 32, 3) := by decide +kernel
theorem d_W_add_10 : decode prog_5_method_2_code 10 = .ok (.aload_n 0, 1) := by decide +kernel
theorem d_W_add_11 : decode prog_5_method_2_code 11 = .ok (.getfield 11, 3) := by decide +kernel
theorem d_W_add_14 : decode prog_5_method_2_code 14 = .ok (.aload_n 0, 1) := by decide +kernel
theorem d_W_add_15 : decode prog_5_method_2_code 15 = .ok (.getfield 21, 3) := by decide +kernel
theorem d_W_add_18 : decode prog_5_method_2_code 18 = .ok (.aload_n 0, 1) := by decide +kernel
theorem d_W_add_19 : decode prog_5_method_2_code 19 = .ok (.getfield 17, 3) := by decide +kernel
theorem d_W_add_22 : decode prog_5_method_2_code 22 = .ok (.iadd, 1) := by decide +kernel
theorem d_W_add_23 : decode prog_5_method_2_code 23 = .ok (.sipush 262, 3) := by decide +kernel
theorem d_W_add_26 : decode prog_5_method_2_code 26 = .ok (.irem, 1) := by decide +kernel
theorem d_W_add_27 : decode prog_5_method_2_code 27 = .ok (.aload_n 1, 1) := by decide +kernel
theorem d_W_add_28 : decode prog_5_method_2_code 28 = .ok (.aastore, 1) := by decide +kernel
theorem d_W_add_29 : decode prog_5_method_2_code 29 = .ok (.aload_n 0, 1) := by decide +kernel
theorem d_W_add_30 : decode prog_5_method_2_code 30 = .ok (.dup, 1) := by decide +kernel
theorem d_W_add_31 : decode prog_5_method_2_code 31 = .ok (.getfield 17, 3) := by decide +kernel
theorem d_W_add_34 : decode prog_5_method_2_code 34 = .ok (.iconst 1, 1) := by decide +kernel
theorem d_W_add_35 : decode prog_5_method_2_code 35 = .ok (.iadd, 1) := by decide +kernel
theorem d_W_add_36 : decode prog_5_method_2_code 36 = .ok (.putfield 17, 3) := by decide +kernel
theorem d_W_add_39 : decode prog_5_method_2_code 39 = .ok (.return_, 1) := by decide +kernel
theorem d_I_isOld_0 : decode prog_2_method_3_code 0 = .ok (.aload_n 0, 1) := by decide +kernel
theorem d_I_isOld_1 : decode prog_2_method_3_code 1 = .ok (.getfield 26, 3) := by decide +kernel
theorem d_I_isOld_4 : decode prog_2_method_3_code 4 = .ok (.ifCond .le 7, 3) := by decide +kernel
theorem d_I_isOld_7 : decode prog_2_method_3_code 7 = .ok (.iconst 1, 1) := by decide +kernel
theorem d_I_isOld_8 : decode prog_2_method_3_code 8 = .ok (.goto 4, 3) := by decide +kernel
theorem d_I_isOld_11 : decode prog_2_method_3_code 11 = .ok (.iconst 0, 1) := by decide +kernel
theorem d_I_isOld_12 : decode prog_2_method_3_code 12 = .ok (.ireturn, 1) := by decide +kernel
theorem d_I_isWhite_0 : decode prog_2_method_4_code 0 = .ok (.aload_n 0, 1) := by decide +kernel
theorem d_I_isWhite_1 : decode prog_2_method_4_code 1 = .ok (.invokevirtual 29, 3) := by decide +kernel
theorem d_I_isWhite_4 : decode prog_2_method_4_code 4 = .ok (.ifCond .eq 14, 3) := by decide +kernel
theorem d_I_isWhite_7 : decode prog_2_method_4_code 7 = .ok (.aload_n 0, 1) := by decide +kernel
theorem d_I_isWhite_8 : decode prog_2_method_4_code 8 = .ok (.getfield 33, 3) := by decide +kernel
theorem d_I_isWhite_11 : decode prog_2_method_4_code 11 = .ok (.ifCond .ne 7, 3) := by decide +kernel
theorem d_I_isWhite_14 : decode prog_2_method_4_code 14 = .ok (.iconst 1, 1) := by decide +kernel
theorem d_I_isWhite_15 : decode prog_2_method_4_code 15 = .ok (.goto 4, 3) := by decide +kernel
theorem d_I_isWhite_18 : decode prog_2_method_4_code 18 = .ok (.iconst 0, 1) := by decide +kernel
theorem d_I_isWhite_19 : decode prog_2_method_4_code 19 = .ok (.ireturn, 1) := by decide +kernel
theorem d_I_turnGreyIfWhite_0 : decode prog_2_method_6_code 0 = .ok (.aload_n 0, 1) := by decide +kernel
theorem d_I_turnGreyIfWhite_1 : decode prog_2_method_6_code 1 = .ok (.invokevirtual 36, 3) := by decide +kernel
theorem d_I_turnGreyIfWhite_4 : decode prog_2_method_6_code 4 = .ok (.ifCond .eq 8, 3) := by decide +kernel
theorem d_I_turnGreyIfWhite_7 : decode prog_2_method_6_code 7 = .ok (.aload_n 0, 1) := by decide +kernel
theorem d_I_turnGreyIfWhite_8 : decode prog_2_method_6_code 8 = .ok (.iconst 1, 1) := by decide +kernel
theorem d_I_turnGreyIfWhite_9 : decode prog_2_method_6_code 9 = .ok (.putfield 33, 3) := by decide +kernel
theorem d_I_turnGreyIfWhite_12 : decode prog_2_method_6_code 12 = .ok (.return_, 1) := by decide +kernel
theorem d_C_letGo_0 : decode prog_1_method_27_code 0 = .ok (.aload_n 0, 1) := by decide +kernel
theorem d_C_letGo_1 : decode prog_1_method_27_code 1 = .ok (.aload_n 1, 1) := by decide +kernel
theorem d_C_letGo_2 : decode prog_1_method_27_code 2 = .ok (.invokevirtual 215, 3) := by decide +kernel
theorem d_C_letGo_5 : decode prog_1_method_27_code 5 = .ok (.aload_n 1, 1) := by decide +kernel
theorem d_C_letGo_6 : decode prog_1_method_27_code 6 = .ok (.getfield 73, 3) := by decide +kernel
theorem d_C_letGo_9 : decode prog_1_method_27_code 9 = .ok (.astore_n 2, 1) := by decide +kernel
theorem d_C_letGo_10 : decode prog_1_method_27_code 10 = .ok (.aload_n 2, 1) := by decide +kernel
theorem d_C_letGo_11 : decode prog_1_method_27_code 11 = .ok (.arraylength, 1) := by decide +kernel
theorem d_C_letGo_12 : decode prog_1_method_27_code 12 = .ok (.istore_n 3, 1) := by decide +kernel
theorem d_C_letGo_13 : decode prog_1_method_27_code 13 = .ok (.iconst 0, 1) := by decide +kernel
theorem d_C_letGo_14 : decode prog_1_method_27_code 14 = .ok (.istore 4, 2) := by decide +kernel
theorem d_C_letGo_16 : decode prog_1_method_27_code 16 = .ok (.iload 4, 2) := by decide +kernel
theorem d_C_letGo_18 : decode prog_1_method_27_code 18 = .ok (.iload_n 3, 1) := by decide +kernel
theorem d_C_letGo_19 : decode prog_1_method_27_code 19 = .ok (.if_icmp .ge 45, 3) := by decide +kernel
theorem d_C_letGo_22 : decode prog_1_method_27_code 22 = .ok (.aload_n 2, 1) := by decide +kernel
theorem d_C_letGo_23 : decode prog_1_method_27_code 23 = .ok (.iload 4, 2) := by decide +kernel
theorem d_C_letGo_25 : decode prog_1_method_27_code 25 = .ok (.aaload, 1) := by decide +kernel
theorem d_C_letGo_26 : decode prog_1_method_27_code 26 = .ok (.astore 5, 2) := by decide +kernel
theorem d_C_letGo_28 : decode prog_1_method_27_code 28 = .ok (.aload 5, 2) := by decide +kernel
theorem d_C_letGo_30 : decode prog_1_method_27_code 30 = .ok (.ifnonnull 6, 3) := by decide +kernel
theorem d_C_letGo_33 : decode prog_1_method_27_code 33 = .ok (.goto 25, 3) := by decide +kernel
theorem d_C_letGo_36 : decode prog_1_method_27_code 36 = .ok (.aload_n 0, 1) := by decide +kernel
theorem d_C_letGo_37 : decode prog_1_method_27_code 37 = .ok (.getfield 38, 3) := by decide +kernel
theorem d_C_letGo_40 : decode prog_1_method_27_code 40 = .ok (.aload 5, 2) := by decide +kernel
theorem d_C_letGo_42 : decode prog_1_method_27_code 42 = .ok (.invokevirtual 218, 3) := by decide +kernel
theorem d_C_letGo_45 : decode prog_1_method_27_code 45 = .ok (.aload_n 1, 1) := by decide +kernel
theorem d_C_letGo_46 : decode prog_1_method_27_code 46 = .ok (.getfield 169, 3) := by decide +kernel
theorem d_C_letGo_49 : decode prog_1_method_27_code 49 = .ok (.iconst 1, 1) := by decide +kernel
theorem d_C_letGo_50 : decode prog_1_method_27_code 50 = .ok (.if_icmp .ne 8, 3) := by decide +kernel
theorem d_C_letGo_53 : decode prog_1_method_27_code 53 = .ok (.aload 5, 2) := by decide +kernel
theorem d_C_letGo_55 : decode prog_1_method_27_code 55 = .ok (.invokevirtual 220, 3) := by decide +kernel
theorem d_C_letGo_58 : decode prog_1_method_27_code 58 = .ok (.iinc 4 1, 3) := by decide +kernel
theorem d_C_letGo_61 : decode prog_1_method_27_code 61 = .ok (.goto (-45), 3) := by decide +kernel
theorem d_C_letGo_64 : decode prog_1_method_27_code 64 = .ok (.return_, 1) := by decide +kernel
theorem d_C_drainUpTo_0 : decode prog_1_method_26_code 0 = .ok (.iconst 0, 1) := by decide +kernel
theorem d_C_drainUpTo_1 : decode prog_1_method_26_code 1 = .ok (.istore_n 2, 1) := by decide +kernel
theorem d_C_drainUpTo_2 : decode prog_1_method_26_code 2 = .ok (.iload_n 2, 1) := by decide +kernel
theorem d_C_drainUpTo_3 : decode prog_1_method_26_code 3 = .ok (.iload_n 1, 1) := by decide +kernel
theorem d_C_drainUpTo_4 : decode prog_1_method_26_code 4 = .ok (.if_icmp .ge 64, 3) := by decide +kernel
theorem d_C_drainUpTo_7 : decode prog_1_method_26_code 7 = .ok (.aload_n 0, 1) := by decide +kernel
theorem d_C_drainUpTo_8 : decode prog_1_method_26_code 8 = .ok (.getfield 38, 3) := by decide +kernel
theorem d_C_drainUpTo_11 : decode prog_1_method_26_code 11 = .ok (.getfield 95, 3) := by decide +kernel
theorem d_C_drainUpTo_14 : decode prog_1_method_26_code 14 = .ok (.ifCond .le 54, 3) := by decide +kernel
theorem d_C_drainUpTo_17 : decode prog_1_method_26_code 17 = .ok (.aload_n 0, 1) := by decide +kernel
theorem d_C_drainUpTo_18 : decode prog_1_method_26_code 18 = .ok (.getfield 38, 3) := by decide +kernel
theorem d_C_drainUpTo_21 : decode prog_1_method_26_code 21 = .ok (.invokevirtual 207, 3) := by decide +kernel
theorem d_C_drainUpTo_24 : decode prog_1_method_26_code 24 = .ok (.astore_n 3, 1) := by decide +kernel
theorem d_C_drainUpTo_25 : decode prog_1_method_26_code 25 = .ok (.aload_n 3, 1) := by decide +kernel
theorem d_C_drainUpTo_26 : decode prog_1_method_26_code 26 = .ok (.ifnull 36, 3) := by decide +kernel
theorem d_C_drainUpTo_29 : decode prog_1_method_26_code 29 = .ok (.aload_n 3, 1) := by decide +kernel
theorem d_C_drainUpTo_30 : decode prog_1_method_26_code 30 = .ok (.getfield 166, 3) := by decide +kernel
theorem d_C_drainUpTo_33 : decode prog_1_method_26_code 33 = .ok (.iconst 3, 1) := by decide +kernel
theorem d_C_drainUpTo_34 : decode prog_1_method_26_code 34 = .ok (.if_icmp .ne 6, 3) := by decide +kernel
theorem d_C_drainUpTo_37 : decode prog_1_method_26_code 37 = .ok (.goto 25, 3) := by decide +kernel
theorem d_C_drainUpTo_40 : decode prog_1_method_26_code 40 = .ok (.aload_n 3, 1) := by decide +kernel
theorem d_C_drainUpTo_41 : decode prog_1_method_26_code 41 = .ok (.dup, 1) := by decide +kernel
theorem d_C_drainUpTo_42 : decode prog_1_method_26_code 42 = .ok (.getfield 166, 3) := by decide +kernel
theorem d_C_drainUpTo_45 : decode prog_1_method_26_code 45 = .ok (.iconst 1, 1) := by decide +kernel
theorem d_C_drainUpTo_46 : decode prog_1_method_26_code 46 = .ok (.isub, 1) := by decide +kernel
theorem d_C_drainUpTo_47 : decode prog_1_method_26_code 47 = .ok (.putfield 166, 3) := by decide +kernel
theorem d_C_drainUpTo_50 : decode prog_1_method_26_code 50 = .ok (.aload_n 3, 1) := by decide +kernel
theorem d_C_drainUpTo_51 : decode prog_1_method_26_code 51 = .ok (.getfield 166, 3) := by decide +kernel
theorem d_C_drainUpTo_54 : decode prog_1_method_26_code 54 = .ok (.ifCond .ne 8, 3) := by decide +kernel
theorem d_C_drainUpTo_57 : decode prog_1_method_26_code 57 = .ok (.aload_n 0, 1) := by decide +kernel
theorem d_C_drainUpTo_58 : decode prog_1_method_26_code 58 = .ok (.aload_n 3, 1) := by decide +kernel
theorem d_C_drainUpTo_59 : decode prog_1_method_26_code 59 = .ok (.invokevirtual 211, 3) := by decide +kernel
theorem d_C_drainUpTo_62 : decode prog_1_method_26_code 62 = .ok (.iinc 2 1, 3) := by decide +kernel
theorem d_C_drainUpTo_65 : decode prog_1_method_26_code 65 = .ok (.goto (-63), 3) := by decide +kernel
theorem d_C_drainUpTo_68 : decode prog_1_method_26_code 68 = .ok (.return_, 1) := by decide +kernel
theorem d_P_close_0 : decode prog_4_method_8_code 0 = .ok (.aload_n 0, 1) := by decide +kernel
theorem d_P_close_1 : decode prog_4_method_8_code 1 = .ok (.getfield 22, 3) := by decide +kernel
theorem d_P_close_4 : decode prog_4_method_8_code 4 = .ok (.iconst 0, 1) := by decide +kernel
theorem d_P_close_5 : decode prog_4_method_8_code 5 = .ok (.iconst 0, 1) := by decide +kernel
theorem d_P_close_6 : decode prog_4_method_8_code 6 = .ok (.invokevirtual 37, 3) := by decide +kernel
theorem d_P_close_9 : decode prog_4_method_8_code 9 = .ok (.aload_n 0, 1) := by decide +kernel
theorem d_P_close_10 : decode prog_4_method_8_code 10 = .ok (.getfield 26, 3) := by decide +kernel
theorem d_P_close_13 : decode prog_4_method_8_code 13 = .ok (.iconst 0, 1) := by decide +kernel
theorem d_P_close_14 : decode prog_4_method_8_code 14 = .ok (.iconst 0, 1) := by decide +kernel
theorem d_P_close_15 : decode prog_4_method_8_code 15 = .ok (.invokevirtual 37, 3) := by decide +kernel
theorem d_P_close_18 : decode prog_4_method_8_code 18 = .ok (.return_, 1) := by decide +kernel
theorem d_W_clear_0 : decode prog_5_method_6_code 0 = .ok (.aload_n 0, 1) := by decide +kernel
theorem d_W_clear_1 : decode prog_5_method_6_code 1 = .ok (.iconst 0, 1) := by decide +kernel
theorem d_W_clear_2 : decode prog_5_method_6_code 2 = .ok (.putfield 21, 3) := by decide +kernel
theorem d_W_clear_5 : decode prog_5_method_6_code 5 = .ok (.aload_n 0, 1) := by decide +kernel
theorem d_W_clear_6 : decode prog_5_method_6_code 6 = .ok (.iconst 0, 1) := by decide +kernel
theorem d_W_clear_7 : decode prog_5_method_6_code 7 = .ok (.putfield 17, 3) := by decide +kernel
theorem d_W_clear_10 : decode prog_5_method_6_code 10 = .ok (.return_, 1) := by decide +kernel
theorem d_G_heldNow_0 : decode prog_3_method_3_code 0 = .ok (.aload_n 0, 1) := by decide +kernel
theorem d_G_heldNow_1 : decode prog_3_method_3_code 1 = .ok (.getfield 11, 3) := by decide +kernel
theorem d_G_heldNow_4 : decode prog_3_method_3_code 4 = .ok (.iload_n 1, 1) := by decide +kernel
theorem d_G_heldNow_5 : decode prog_3_method_3_code 5 = .ok (.aaload, 1) := by decide +kernel
theorem d_G_heldNow_6 : decode prog_3_method_3_code 6 = .ok (.getfield 28, 3) := by decide +kernel
theorem d_G_heldNow_9 : decode prog_3_method_3_code 9 = .ok (.aload_n 0, 1) := by decide +kernel
theorem d_G_heldNow_10 : decode prog_3_method_3_code 10 = .ok (.getfield 17, 3) := by decide +kernel
theorem d_G_heldNow_13 : decode prog_3_method_3_code 13 = .ok (.iload_n 1, 1) := by decide +kernel
theorem d_G_heldNow_14 : decode prog_3_method_3_code 14 = .ok (.iaload, 1) := by decide +kernel
theorem d_G_heldNow_15 : decode prog_3_method_3_code 15 = .ok (.aaload, 1) := by decide +kernel
theorem d_G_heldNow_16 : decode prog_3_method_3_code 16 = .ok (.areturn, 1) := by decide +kernel
theorem d_C_gatherSlots_0 : decode prog_1_method_34_code 0 = .ok (.aload_n 0, 1) := by decide +kernel
theorem d_C_gatherSlots_1 : decode prog_1_method_34_code 1 = .ok (.getfield 42, 3) := by decide +kernel
theorem d_C_gatherSlots_4 : decode prog_1_method_34_code 4 = .ok (.invokevirtual 253, 3) := by decide +kernel
theorem d_C_gatherSlots_7 : decode prog_1_method_34_code 7 = .ok (.aload_n 0, 1) := by decide +kernel
theorem d_C_gatherSlots_8 : decode prog_1_method_34_code 8 = .ok (.getfield 11, 3) := by decide +kernel
theorem d_C_gatherSlots_11 : decode prog_1_method_34_code 11 = .ok (.astore_n 1, 1) := by decide +kernel
theorem d_C_gatherSlots_12 : decode prog_1_method_34_code 12 = .ok (.aload_n 1, 1) := by decide +kernel
theorem d_C_gatherSlots_13 : decode prog_1_method_34_code 13 = .ok (.arraylength, 1) := by decide +kernel
theorem d_C_gatherSlots_14 : decode prog_1_method_34_code 14 = .ok (.istore_n 2, 1) := by decide +kernel
theorem d_C_gatherSlots_15 : decode prog_1_method_34_code 15 = .ok (.iconst 0, 1) := by decide +kernel
theorem d_C_gatherSlots_16 : decode prog_1_method_34_code 16 = .ok (.istore_n 3, 1) := by decide +kernel
theorem d_C_gatherSlots_17 : decode prog_1_method_34_code 17 = .ok (.iload_n 3, 1) := by decide +kernel
theorem d_C_gatherSlots_18 : decode prog_1_method_34_code 18 = .ok (.iload_n 2, 1) := by decide +kernel
theorem d_C_gatherSlots_19 : decode prog_1_method_34_code 19 = .ok (.if_icmp .ge 23, 3) := by decide +kernel
theorem d_C_gatherSlots_22 : decode prog_1_method_34_code 22 = .ok (.aload_n 1, 1) := by decide +kernel
theorem d_C_gatherSlots_23 : decode prog_1_method_34_code 23 = .ok (.iload_n 3, 1) := by decide +kernel
theorem d_C_gatherSlots_24 : decode prog_1_method_34_code 24 = .ok (.aaload, 1) := by decide +kernel
theorem d_C_gatherSlots_25 : decode prog_1_method_34_code 25 = .ok (.astore 4, 2) := by decide +kernel
theorem d_C_gatherSlots_27 : decode prog_1_method_34_code 27 = .ok (.aload_n 0, 1) := by decide +kernel
theorem d_C_gatherSlots_28 : decode prog_1_method_34_code 28 = .ok (.getfield 42, 3) := by decide +kernel
theorem d_C_gatherSlots_31 : decode prog_1_method_34_code 31 = .ok (.aload 4, 2) := by decide +kernel
theorem d_C_gatherSlots_33 : decode prog_1_method_34_code 33 = .ok (.invokevirtual 218, 3) := by decide +kernel
theorem d_C_gatherSlots_36 : decode prog_1_method_34_code 36 = .ok (.iinc 3 1, 3) := by decide +kernel
theorem d_C_gatherSlots_39 : decode prog_1_method_34_code 39 = .ok (.goto (-22), 3) := by decide +kernel
theorem d_C_gatherSlots_42 : decode prog_1_method_34_code 42 = .ok (.iconst 0, 1) := by decide +kernel
theorem d_C_gatherSlots_43 : decode prog_1_method_34_code 43 = .ok (.istore_n 1, 1) := by decide +kernel
theorem d_C_gatherSlots_44 : decode prog_1_method_34_code 44 = .ok (.iload_n 1, 1) := by decide +kernel
theorem d_C_gatherSlots_45 : decode prog_1_method_34_code 45 = .ok (.aload_n 0, 1) := by decide +kernel
theorem d_C_gatherSlots_46 : decode prog_1_method_34_code 46 = .ok (.getfield 31, 3) := by decide +kernel
theorem d_C_gatherSlots_49 : decode prog_1_method_34_code 49 = .ok (.getfield 184, 3) := by decide +kernel
theorem d_C_gatherSlots_52 : decode prog_1_method_34_code 52 = .ok (.if_icmp .ge 24, 3) := by decide +kernel
theorem d_C_gatherSlots_55 : decode prog_1_method_34_code 55 = .ok (.aload_n 0, 1) := by decide +kernel
theorem d_C_gatherSlots_56 : decode prog_1_method_34_code 56 = .ok (.getfield 42, 3) := by decide +kernel
theorem d_C_gatherSlots_59 : decode prog_1_method_34_code 59 = .ok (.aload_n 0, 1) := by decide +kernel
theorem d_C_gatherSlots_60 : decode prog_1_method_34_code 60 = .ok (.getfield 31, 3) := by decide +kernel
theorem d_C_gatherSlots_63 : decode prog_1_method_34_code 63 = .ok (.iload_n 1, 1) := by decide +kernel
theorem d_C_gatherSlots_64 : decode prog_1_method_34_code 64 = .ok (.invokevirtual 256, 3) := by decide +kernel
theorem d_C_gatherSlots_67 : decode prog_1_method_34_code 67 = .ok (.invokevirtual 218, 3) := by decide +kernel
theorem d_C_gatherSlots_70 : decode prog_1_method_34_code 70 = .ok (.iinc 1 1, 3) := by decide +kernel
theorem d_C_gatherSlots_73 : decode prog_1_method_34_code 73 = .ok (.goto (-29), 3) := by decide +kernel
theorem d_C_gatherSlots_76 : decode prog_1_method_34_code 76 = .ok (.return_, 1) := by decide +kernel
theorem d_W_get_0 : decode prog_5_method_3_code 0 = .ok (.iload_n 1, 1) := by decide +kernel
theorem d_W_get_1 : decode prog_5_method_3_code 1 = .ok (.ifCond .lt 29, 3) := by decide +kernel
theorem d_W_get_4 : decode prog_5_method_3_code 4 = .ok (.iload_n 1, 1) := by decide +kernel
theorem d_W_get_5 : decode prog_5_method_3_code 5 = .ok (.aload_n 0, 1) := by decide +kernel
theorem d_W_get_6 : decode prog_5_method_3_code 6 = .ok (.getfield 17, 3) := by decide +kernel
theorem d_W_get_9 : decode prog_5_method_3_code 9 = .ok (.if_icmp .ge 21, 3) := by decide +kernel
theorem d_W_get_12 : decode prog_5_method_3_code 12 = .ok (.aload_n 0, 1) := by decide +kernel
theorem d_W_get_13 : decode prog_5_method_3_code 13 = .ok (.getfield 11, 3) := by decide +kernel
theorem d_W_get_16 : decode prog_5_method_3_code 16 = .ok (.aload_n 0, 1) := by decide +kernel
theorem d_W_get_17 : decode prog_5_method_3_code 17 = .ok (.getfield 21, 3) := by decide +kernel
theorem d_W_get_20 : decode prog_5_method_3_code 20 = .ok (.iload_n 1, 1) := by decide +kernel
theorem d_W_get_21 : decode prog_5_method_3_code 21 = .ok (.iadd, 1) := by decide +kernel
theorem d_W_get_22 : decode prog_5_method_3_code 22 = .ok (.sipush 262, 3) := by decide +kernel
theorem d_W_get_25 : decode prog_5_method_3_code 25 = .ok (.irem, 1) := by decide +kernel
theorem d_W_get_26 : decode prog_5_method_3_code 26 = .ok (.aaload, 1) := by decide +kernel
theorem d_W_get_27 : decode prog_5_method_3_code 27 = .ok (.goto 4, 3) := by decide +kernel
theorem d_W_get_30 : decode prog_5_method_3_code 30 = .ok (.aconst_null, 1) := by decide +kernel
theorem d_W_get_31 : decode prog_5_method_3_code 31 = .ok (.areturn, 1) := by decide +kernel
theorem d_I_growOld_0 : decode prog_2_method_5_code 0 = .ok (.aload_n 0, 1) := by decide +kernel
theorem d_I_growOld_1 : decode prog_2_method_5_code 1 = .ok (.iconst 1, 1) := by decide +kernel
theorem d_I_growOld_2 : decode prog_2_method_5_code 2 = .ok (.putfield 26, 3) := by decide +kernel
theorem d_I_growOld_5 : decode prog_2_method_5_code 5 = .ok (.aload_n 0, 1) := by decide +kernel
theorem d_I_growOld_6 : decode prog_2_method_5_code 6 = .ok (.iload_n 1, 1) := by decide +kernel
theorem d_I_growOld_7 : decode prog_2_method_5_code 7 = .ok (.putfield 33, 3) := by decide +kernel
theorem d_I_growOld_10 : decode prog_2_method_5_code 10 = .ok (.return_, 1) := by decide +kernel
theorem d_P_moveOut_0 : decode prog_4_method_6_code 0 = .ok (.iload_n 1, 1) := by decide +kernel
theorem d_P_moveOut_1 : decode prog_4_method_6_code 1 = .ok (.istore_n 3, 1) := by decide +kernel
theorem d_P_moveOut_2 : decode prog_4_method_6_code 2 = .ok (.iload_n 3, 1) := by decide +kernel
theorem d_P_moveOut_3 : decode prog_4_method_6_code 3 = .ok (.iload_n 1, 1) := by decide +kernel
theorem d_P_moveOut_4 : decode prog_4_method_6_code 4 = .ok (.iload_n 2, 1) := by decide +kernel
theorem d_P_moveOut_5 : decode prog_4_method_6_code 5 = .ok (.iadd, 1) := by decide +kernel
theorem d_P_moveOut_6 : decode prog_4_method_6_code 6 = .ok (.if_icmp .ge 30, 3) := by decide +kernel
theorem d_P_moveOut_9 : decode prog_4_method_6_code 9 = .ok (.aload_n 0, 1) := by decide +kernel
theorem d_P_moveOut_10 : decode prog_4_method_6_code 10 = .ok (.getfield 9, 3) := by decide +kernel
theorem d_P_moveOut_13 : decode prog_4_method_6_code 13 = .ok (.iload_n 3, 1) := by decide +kernel
theorem d_P_moveOut_14 : decode prog_4_method_6_code 14 = .ok (.iconst 4, 1) := by decide +kernel
theorem d_P_moveOut_15 : decode prog_4_method_6_code 15 = .ok (.idiv, 1) := by decide +kernel
theorem d_P_moveOut_16 : decode prog_4_method_6_code 16 = .ok (.dup2, 1) := by decide +kernel
theorem d_P_moveOut_17 : decode prog_4_method_6_code 17 = .ok (.iaload, 1) := by decide +kernel
theorem d_P_moveOut_18 : decode prog_4_method_6_code 18 = .ok (.iconst 1, 1) := by decide +kernel
theorem d_P_moveOut_19 : decode prog_4_method_6_code 19 = .ok (.isub, 1) := by decide +kernel
theorem d_P_moveOut_20 : decode prog_4_method_6_code 20 = .ok (.iastore, 1) := by decide +kernel
theorem d_P_moveOut_21 : decode prog_4_method_6_code 21 = .ok (.aload_n 0, 1) := by decide +kernel
theorem d_P_moveOut_22 : decode prog_4_method_6_code 22 = .ok (.getfield 15, 3) := by decide +kernel
theorem d_P_moveOut_25 : decode prog_4_method_6_code 25 = .ok (.iload_n 3, 1) := by decide +kernel
theorem d_P_moveOut_26 : decode prog_4_method_6_code 26 = .ok (.iconst 4, 1) := by decide +kernel
theorem d_P_moveOut_27 : decode prog_4_method_6_code 27 = .ok (.idiv, 1) := by decide +kernel
theorem d_P_moveOut_28 : decode prog_4_method_6_code 28 = .ok (.iconst 1, 1) := by decide +kernel
theorem d_P_moveOut_29 : decode prog_4_method_6_code 29 = .ok (.bastore, 1) := by decide +kernel
theorem d_P_moveOut_30 : decode prog_4_method_6_code 30 = .ok (.iinc 3 1, 3) := by decide +kernel
theorem d_P_moveOut_33 : decode prog_4_method_6_code 33 = .ok (.goto (-31), 3) := by decide +kernel
theorem d_P_moveOut_36 : decode prog_4_method_6_code 36 = .ok (.return_, 1) := by decide +kernel
theorem d_C_moveTo_0 : decode prog_1_method_23_code 0 = .ok (.iload_n 2, 1) := by decide +kernel
theorem d_C_moveTo_1 : decode prog_1_method_23_code 1 = .ok (.iconst (-1), 1) := by decide +kernel
theorem d_C_moveTo_2 : decode prog_1_method_23_code 2 = .ok (.if_icmp .ne 4, 3) := by decide +kernel
theorem d_C_moveTo_5 : decode prog_1_method_23_code 5 = .ok (.return_, 1) := by decide +kernel
theorem d_C_moveTo_6 : decode prog_1_method_23_code 6 = .ok (.aload_n 0, 1) := by decide +kernel
theorem d_C_moveTo_7 : decode prog_1_method_23_code 7 = .ok (.getfield 18, 3) := by decide +kernel
theorem d_C_moveTo_10 : decode prog_1_method_23_code 10 = .ok (.aload_n 1, 1) := by decide +kernel
theorem d_C_moveTo_11 : decode prog_1_method_23_code 11 = .ok (.getfield 191, 3) := by decide +kernel
theorem d_C_moveTo_14 : decode prog_1_method_23_code 14 = .ok (.aconst_null, 1) := by decide +kernel
theorem d_C_moveTo_15 : decode prog_1_method_23_code 15 = .ok (.aastore, 1) := by decide +kernel
theorem d_C_moveTo_16 : decode prog_1_method_23_code 16 = .ok (.aload_n 0, 1) := by decide +kernel
theorem d_C_moveTo_17 : decode prog_1_method_23_code 17 = .ok (.getfield 24, 3) := by decide +kernel
theorem d_C_moveTo_20 : decode prog_1_method_23_code 20 = .ok (.aload_n 1, 1) := by decide +kernel
theorem d_C_moveTo_21 : decode prog_1_method_23_code 21 = .ok (.getfield 191, 3) := by decide +kernel
theorem d_C_moveTo_24 : decode prog_1_method_23_code 24 = .ok (.aload_n 1, 1) := by decide +kernel
theorem d_C_moveTo_25 : decode prog_1_method_23_code 25 = .ok (.getfield 160, 3) := by decide +kernel
theorem d_C_moveTo_28 : decode prog_1_method_23_code 28 = .ok (.invokevirtual 197, 3) := by decide +kernel
theorem d_C_moveTo_31 : decode prog_1_method_23_code 31 = .ok (.aload_n 0, 1) := by decide +kernel
theorem d_C_moveTo_32 : decode prog_1_method_23_code 32 = .ok (.aload_n 1, 1) := by decide +kernel
theorem d_C_moveTo_33 : decode prog_1_method_23_code 33 = .ok (.iload_n 2, 1) := by decide +kernel
theorem d_C_moveTo_34 : decode prog_1_method_23_code 34 = .ok (.invokevirtual 65, 3) := by decide +kernel
theorem d_C_moveTo_37 : decode prog_1_method_23_code 37 = .ok (.aload_n 0, 1) := by decide +kernel
theorem d_C_moveTo_38 : decode prog_1_method_23_code 38 = .ok (.dup, 1) := by decide +kernel
theorem d_C_moveTo_39 : decode prog_1_method_23_code 39 = .ok (.getfield 185, 3) := by decide +kernel
theorem d_C_moveTo_42 : decode prog_1_method_23_code 42 = .ok (.iconst 1, 1) := by decide +kernel
theorem d_C_moveTo_43 : decode prog_1_method_23_code 43 = .ok (.iadd, 1) := by decide +kernel
theorem d_C_moveTo_44 : decode prog_1_method_23_code 44 = .ok (.putfield 185, 3) := by decide +kernel
theorem d_C_moveTo_47 : decode prog_1_method_23_code 47 = .ok (.return_, 1) := by decide +kernel
theorem d_C_addFieldsToSlots_0 : decode prog_1_method_35_code 0 = .ok (.aload_n 1, 1) := by decide +kernel
theorem d_C_addFieldsToSlots_1 : decode prog_1_method_35_code 1 = .ok (.getfield 73, 3) := by decide +kernel
theorem d_C_addFieldsToSlots_4 : decode prog_1_method_35_code 4 = .ok (.astore_n 2, 1) := by decide +kernel
theorem d_C_addFieldsToSlots_5 : decode prog_1_method_35_code 5 = .ok (.aload_n 2, 1) := by decide +kernel
theorem d_C_addFieldsToSlots_6 : decode prog_1_method_35_code 6 = .ok (.arraylength, 1) := by decide +kernel
theorem d_C_addFieldsToSlots_7 : decode prog_1_method_35_code 7 = .ok (.istore_n 3, 1) := by decide +kernel
theorem d_C_addFieldsToSlots_8 : decode prog_1_method_35_code 8 = .ok (.iconst 0, 1) := by decide +kernel
theorem d_C_addFieldsToSlots_9 : decode prog_1_method_35_code 9 = .ok (.istore 4, 2) := by decide +kernel
theorem d_C_addFieldsToSlots_11 : decode prog_1_method_35_code 11 = .ok (.iload 4, 2) := by decide +kernel
theorem d_C_addFieldsToSlots_13 : decode prog_1_method_35_code 13 = .ok (.iload_n 3, 1) := by decide +kernel
theorem d_C_addFieldsToSlots_14 : decode prog_1_method_35_code 14 = .ok (.if_icmp .ge 24, 3) := by decide +kernel
theorem d_C_addFieldsToSlots_17 : decode prog_1_method_35_code 17 = .ok (.aload_n 2, 1) := by decide +kernel
theorem d_C_addFieldsToSlots_18 : decode prog_1_method_35_code 18 = .ok (.iload 4, 2) := by decide +kernel
theorem d_C_addFieldsToSlots_20 : decode prog_1_method_35_code 20 = .ok (.aaload, 1) := by decide +kernel
theorem d_C_addFieldsToSlots_21 : decode prog_1_method_35_code 21 = .ok (.astore 5, 2) := by decide +kernel
theorem d_C_addFieldsToSlots_23 : decode prog_1_method_35_code 23 = .ok (.aload_n 0, 1) := by decide +kernel
theorem d_C_addFieldsToSlots_24 : decode prog_1_method_35_code 24 = .ok (.getfield 42, 3) := by decide +kernel
theorem d_C_addFieldsToSlots_27 : decode prog_1_method_35_code 27 = .ok (.aload 5, 2) := by decide +kernel
theorem d_C_addFieldsToSlots_29 : decode prog_1_method_35_code 29 = .ok (.invokevirtual 218, 3) := by decide +kernel
theorem d_C_addFieldsToSlots_32 : decode prog_1_method_35_code 32 = .ok (.iinc 4 1, 3) := by decide +kernel
theorem d_C_addFieldsToSlots_35 : decode prog_1_method_35_code 35 = .ok (.goto (-24), 3) := by decide +kernel
theorem d_C_addFieldsToSlots_38 : decode prog_1_method_35_code 38 = .ok (.return_, 1) := by decide +kernel
theorem d_P_forgetMovedOut_0 : decode prog_4_method_7_code 0 = .ok (.iconst 0, 1) := by decide +kernel
theorem d_P_forgetMovedOut_1 : decode prog_4_method_7_code 1 = .ok (.istore_n 1, 1) := by decide +kernel
theorem d_P_forgetMovedOut_2 : decode prog_4_method_7_code 2 = .ok (.iload_n 1, 1) := by decide +kernel
theorem d_P_forgetMovedOut_3 : decode prog_4_method_7_code 3 = .ok (.bipush 32, 2) := by decide +kernel
theorem d_P_forgetMovedOut_5 : decode prog_4_method_7_code 5 = .ok (.if_icmp .ge 16, 3) := by decide +kernel
theorem d_P_forgetMovedOut_8 : decode prog_4_method_7_code 8 = .ok (.aload_n 0, 1) := by decide +kernel
theorem d_P_forgetMovedOut_9 : decode prog_4_method_7_code 9 = .ok (.getfield 15, 3) := by decide +kernel
theorem d_P_forgetMovedOut_12 : decode prog_4_method_7_code 12 = .ok (.iload_n 1, 1) := by decide +kernel
theorem d_P_forgetMovedOut_13 : decode prog_4_method_7_code 13 = .ok (.iconst 0, 1) := by decide +kernel
theorem d_P_forgetMovedOut_14 : decode prog_4_method_7_code 14 = .ok (.bastore, 1) := by decide +kernel
theorem d_P_forgetMovedOut_15 : decode prog_4_method_7_code 15 = .ok (.iinc 1 1, 3) := by decide +kernel
theorem d_P_forgetMovedOut_18 : decode prog_4_method_7_code 18 = .ok (.goto (-16), 3) := by decide +kernel
theorem d_P_forgetMovedOut_21 : decode prog_4_method_7_code 21 = .ok (.return_, 1) := by decide +kernel
theorem d_C_countSlots_0 : decode prog_1_method_33_code 0 = .ok (.aload_n 0, 1) := by decide +kernel
theorem d_C_countSlots_1 : decode prog_1_method_33_code 1 = .ok (.invokevirtual 229, 3) := by decide +kernel
theorem d_C_countSlots_4 : decode prog_1_method_33_code 4 = .ok (.iconst 0, 1) := by decide +kernel
theorem d_C_countSlots_5 : decode prog_1_method_33_code 5 = .ok (.istore_n 1, 1) := by decide +kernel
theorem d_C_countSlots_6 : decode prog_1_method_33_code 6 = .ok (.iconst 0, 1) := by decide +kernel
theorem d_C_countSlots_7 : decode prog_1_method_33_code 7 = .ok (.istore_n 2, 1) := by decide +kernel
theorem d_C_countSlots_8 : decode prog_1_method_33_code 8 = .ok (.iload_n 2, 1) := by decide +kernel
theorem d_C_countSlots_9 : decode prog_1_method_33_code 9 = .ok (.sipush 262, 3) := by decide +kernel
theorem d_C_countSlots_12 : decode prog_1_method_33_code 12 = .ok (.if_icmp .ge 100, 3) := by decide +kernel
theorem d_C_countSlots_15 : decode prog_1_method_33_code 15 = .ok (.iload_n 2, 1) := by decide +kernel
theorem d_C_countSlots_16 : decode prog_1_method_33_code 16 = .ok (.aload_n 0, 1) := by decide +kernel
theorem d_C_countSlots_17 : decode prog_1_method_33_code 17 = .ok (.getfield 42, 3) := by decide +kernel
theorem d_C_countSlots_20 : decode prog_1_method_33_code 20 = .ok (.getfield 95, 3) := by decide +kernel
theorem d_C_countSlots_23 : decode prog_1_method_33_code 23 = .ok (.if_icmp .ge 89, 3) := by decide +kernel
theorem d_C_countSlots_26 : decode prog_1_method_33_code 26 = .ok (.aload_n 0, 1) := by decide +kernel
theorem d_C_countSlots_27 : decode prog_1_method_33_code 27 = .ok (.getfield 42, 3) := by decide +kernel
theorem d_C_countSlots_30 : decode prog_1_method_33_code 30 = .ok (.iload_n 2, 1) := by decide +kernel
theorem d_C_countSlots_31 : decode prog_1_method_33_code 31 = .ok (.invokevirtual 232, 3) := by decide +kernel
theorem d_C_countSlots_34 : decode prog_1_method_33_code 34 = .ok (.astore_n 3, 1) := by decide +kernel
theorem d_C_countSlots_35 : decode prog_1_method_33_code 35 = .ok (.aload_n 3, 1) := by decide +kernel
theorem d_C_countSlots_36 : decode prog_1_method_33_code 36 = .ok (.ifnonnull 6, 3) := by decide +kernel
theorem d_C_countSlots_39 : decode prog_1_method_33_code 39 = .ok (.goto 67, 3) := by decide +kernel
theorem d_C_countSlots_42 : decode prog_1_method_33_code 42 = .ok (.aload_n 3, 1) := by decide +kernel
end
section
/-! Instructions (written by a program) -/
theorem d_C_countSlots_43 : decode prog_1_method_33_code 43 = .ok (.invokevirtual 80, 3) := by decide +kernel
theorem d_C_countSlots_46 : decode prog_1_method_33_code 46 = .ok (.ifCond .eq 20, 3) := by decide +kernel
theorem d_C_countSlots_49 : decode prog_1_method_33_code 49 = .ok (.aload_n 3, 1) := by decide +kernel
theorem d_C_countSlots_50 : decode prog_1_method_33_code 50 = .ok (.aload_n 3, 1) := by decide +kernel
theorem d_C_countSlots_51 : decode prog_1_method_33_code 51 = .ok (.getfield 166, 3) := by decide +kernel
theorem d_C_countSlots_54 : decode prog_1_method_33_code 54 = .ok (.iconst 1, 1) := by decide +kernel
theorem d_C_countSlots_55 : decode prog_1_method_33_code 55 = .ok (.iadd, 1) := by decide +kernel
theorem d_C_countSlots_56 : decode prog_1_method_33_code 56 = .ok (.iconst 3, 1) := by decide +kernel
theorem d_C_countSlots_57 : decode prog_1_method_33_code 57 = .ok (.invokestatic 235, 3) := by decide +kernel
theorem d_C_countSlots_60 : decode prog_1_method_33_code 60 = .ok (.putfield 166, 3) := by decide +kernel
theorem d_C_countSlots_63 : decode prog_1_method_33_code 63 = .ok (.goto 43, 3) := by decide +kernel
theorem d_C_countSlots_66 : decode prog_1_method_33_code 66 = .ok (.iinc 1 1, 3) := by decide +kernel
theorem d_C_countSlots_69 : decode prog_1_method_33_code 69 = .ok (.aload_n 3, 1) := by decide +kernel
theorem d_C_countSlots_70 : decode prog_1_method_33_code 70 = .ok (.aload_n 0, 1) := by decide +kernel
theorem d_C_countSlots_71 : decode prog_1_method_33_code 71 = .ok (.getfield 99, 3) := by decide +kernel
theorem d_C_countSlots_74 : decode prog_1_method_33_code 74 = .ok (.ifCond .eq 7, 3) := by decide +kernel
theorem d_C_countSlots_77 : decode prog_1_method_33_code 77 = .ok (.iconst 2, 1) := by decide +kernel
theorem d_C_countSlots_78 : decode prog_1_method_33_code 78 = .ok (.goto 4, 3) := by decide +kernel
theorem d_C_countSlots_81 : decode prog_1_method_33_code 81 = .ok (.iconst 0, 1) := by decide +kernel
theorem d_C_countSlots_82 : decode prog_1_method_33_code 82 = .ok (.invokevirtual 241, 3) := by decide +kernel
theorem d_C_countSlots_85 : decode prog_1_method_33_code 85 = .ok (.aload_n 0, 1) := by decide +kernel
theorem d_C_countSlots_86 : decode prog_1_method_33_code 86 = .ok (.aload_n 3, 1) := by decide +kernel
theorem d_C_countSlots_87 : decode prog_1_method_33_code 87 = .ok (.aload_n 0, 1) := by decide +kernel
theorem d_C_countSlots_88 : decode prog_1_method_33_code 88 = .ok (.getfield 24, 3) := by decide +kernel
theorem d_C_countSlots_91 : decode prog_1_method_33_code 91 = .ok (.aload_n 3, 1) := by decide +kernel
theorem d_C_countSlots_92 : decode prog_1_method_33_code 92 = .ok (.getfield 160, 3) := by decide +kernel
theorem d_C_countSlots_95 : decode prog_1_method_33_code 95 = .ok (.invokevirtual 52, 3) := by decide +kernel
theorem d_C_countSlots_98 : decode prog_1_method_33_code 98 = .ok (.invokevirtual 244, 3) := by decide +kernel
theorem d_C_countSlots_101 : decode prog_1_method_33_code 101 = .ok (.aload_n 0, 1) := by decide +kernel
theorem d_C_countSlots_102 : decode prog_1_method_33_code 102 = .ok (.aload_n 3, 1) := by decide +kernel
theorem d_C_countSlots_103 : decode prog_1_method_33_code 103 = .ok (.invokevirtual 247, 3) := by decide +kernel
theorem d_C_countSlots_106 : decode prog_1_method_33_code 106 = .ok (.iinc 2 1, 3) := by decide +kernel
theorem d_C_countSlots_109 : decode prog_1_method_33_code 109 = .ok (.goto (-101), 3) := by decide +kernel
theorem d_C_countSlots_112 : decode prog_1_method_33_code 112 = .ok (.aload_n 0, 1) := by decide +kernel
theorem d_C_countSlots_113 : decode prog_1_method_33_code 113 = .ok (.getfield 24, 3) := by decide +kernel
theorem d_C_countSlots_116 : decode prog_1_method_33_code 116 = .ok (.invokevirtual 250, 3) := by decide +kernel
theorem d_C_countSlots_119 : decode prog_1_method_33_code 119 = .ok (.iload_n 1, 1) := by decide +kernel
theorem d_C_countSlots_120 : decode prog_1_method_33_code 120 = .ok (.ireturn, 1) := by decide +kernel
theorem d_C_loseYoung_0 : decode prog_1_method_36_code 0 = .ok (.aload_n 0, 1) := by decide +kernel
theorem d_C_loseYoung_1 : decode prog_1_method_36_code 1 = .ok (.getfield 18, 3) := by decide +kernel
theorem d_C_loseYoung_4 : decode prog_1_method_36_code 4 = .ok (.astore_n 1, 1) := by decide +kernel
theorem d_C_loseYoung_5 : decode prog_1_method_36_code 5 = .ok (.aload_n 1, 1) := by decide +kernel
theorem d_C_loseYoung_6 : decode prog_1_method_36_code 6 = .ok (.arraylength, 1) := by decide +kernel
theorem d_C_loseYoung_7 : decode prog_1_method_36_code 7 = .ok (.istore_n 2, 1) := by decide +kernel
theorem d_C_loseYoung_8 : decode prog_1_method_36_code 8 = .ok (.iconst 0, 1) := by decide +kernel
theorem d_C_loseYoung_9 : decode prog_1_method_36_code 9 = .ok (.istore_n 3, 1) := by decide +kernel
theorem d_C_loseYoung_10 : decode prog_1_method_36_code 10 = .ok (.iload_n 3, 1) := by decide +kernel
theorem d_C_loseYoung_11 : decode prog_1_method_36_code 11 = .ok (.iload_n 2, 1) := by decide +kernel
theorem d_C_loseYoung_12 : decode prog_1_method_36_code 12 = .ok (.if_icmp .ge 33, 3) := by decide +kernel
theorem d_C_loseYoung_15 : decode prog_1_method_36_code 15 = .ok (.aload_n 1, 1) := by decide +kernel
theorem d_C_loseYoung_16 : decode prog_1_method_36_code 16 = .ok (.iload_n 3, 1) := by decide +kernel
theorem d_C_loseYoung_17 : decode prog_1_method_36_code 17 = .ok (.aaload, 1) := by decide +kernel
theorem d_C_loseYoung_18 : decode prog_1_method_36_code 18 = .ok (.astore 4, 2) := by decide +kernel
theorem d_C_loseYoung_20 : decode prog_1_method_36_code 20 = .ok (.aload 4, 2) := by decide +kernel
theorem d_C_loseYoung_22 : decode prog_1_method_36_code 22 = .ok (.ifnull 17, 3) := by decide +kernel
theorem d_C_loseYoung_25 : decode prog_1_method_36_code 25 = .ok (.aload 4, 2) := by decide +kernel
theorem d_C_loseYoung_27 : decode prog_1_method_36_code 27 = .ok (.invokevirtual 80, 3) := by decide +kernel
theorem d_C_loseYoung_30 : decode prog_1_method_36_code 30 = .ok (.ifCond .ne 9, 3) := by decide +kernel
theorem d_C_loseYoung_33 : decode prog_1_method_36_code 33 = .ok (.aload_n 0, 1) := by decide +kernel
theorem d_C_loseYoung_34 : decode prog_1_method_36_code 34 = .ok (.aload 4, 2) := by decide +kernel
theorem d_C_loseYoung_36 : decode prog_1_method_36_code 36 = .ok (.invokevirtual 215, 3) := by decide +kernel
theorem d_C_loseYoung_39 : decode prog_1_method_36_code 39 = .ok (.iinc 3 1, 3) := by decide +kernel
theorem d_C_loseYoung_42 : decode prog_1_method_36_code 42 = .ok (.goto (-32), 3) := by decide +kernel
theorem d_C_loseYoung_45 : decode prog_1_method_36_code 45 = .ok (.return_, 1) := by decide +kernel
theorem d_G_heldBefore_0 : decode prog_3_method_4_code 0 = .ok (.aload_n 0, 1) := by decide +kernel
theorem d_G_heldBefore_1 : decode prog_3_method_4_code 1 = .ok (.getfield 21, 3) := by decide +kernel
theorem d_G_heldBefore_4 : decode prog_3_method_4_code 4 = .ok (.iload_n 1, 1) := by decide +kernel
theorem d_G_heldBefore_5 : decode prog_3_method_4_code 5 = .ok (.aaload, 1) := by decide +kernel
theorem d_G_heldBefore_6 : decode prog_3_method_4_code 6 = .ok (.areturn, 1) := by decide +kernel
theorem d_G_clear_0 : decode prog_3_method_5_code 0 = .ok (.iconst 0, 1) := by decide +kernel
theorem d_G_clear_1 : decode prog_3_method_5_code 1 = .ok (.istore_n 1, 1) := by decide +kernel
theorem d_G_clear_2 : decode prog_3_method_5_code 2 = .ok (.iload_n 1, 1) := by decide +kernel
theorem d_G_clear_3 : decode prog_3_method_5_code 3 = .ok (.aload_n 0, 1) := by decide +kernel
theorem d_G_clear_4 : decode prog_3_method_5_code 4 = .ok (.getfield 24, 3) := by decide +kernel
theorem d_G_clear_7 : decode prog_3_method_5_code 7 = .ok (.if_icmp .ge 26, 3) := by decide +kernel
theorem d_G_clear_10 : decode prog_3_method_5_code 10 = .ok (.aload_n 0, 1) := by decide +kernel
theorem d_G_clear_11 : decode prog_3_method_5_code 11 = .ok (.getfield 11, 3) := by decide +kernel
theorem d_G_clear_14 : decode prog_3_method_5_code 14 = .ok (.iload_n 1, 1) := by decide +kernel
theorem d_G_clear_15 : decode prog_3_method_5_code 15 = .ok (.aaload, 1) := by decide +kernel
theorem d_G_clear_16 : decode prog_3_method_5_code 16 = .ok (.getfield 31, 3) := by decide +kernel
theorem d_G_clear_19 : decode prog_3_method_5_code 19 = .ok (.aload_n 0, 1) := by decide +kernel
theorem d_G_clear_20 : decode prog_3_method_5_code 20 = .ok (.getfield 17, 3) := by decide +kernel
theorem d_G_clear_23 : decode prog_3_method_5_code 23 = .ok (.iload_n 1, 1) := by decide +kernel
theorem d_G_clear_24 : decode prog_3_method_5_code 24 = .ok (.iaload, 1) := by decide +kernel
theorem d_G_clear_25 : decode prog_3_method_5_code 25 = .ok (.iconst 0, 1) := by decide +kernel
theorem d_G_clear_26 : decode prog_3_method_5_code 26 = .ok (.bastore, 1) := by decide +kernel
theorem d_G_clear_27 : decode prog_3_method_5_code 27 = .ok (.iinc 1 1, 3) := by decide +kernel
theorem d_G_clear_30 : decode prog_3_method_5_code 30 = .ok (.goto (-28), 3) := by decide +kernel
theorem d_G_clear_33 : decode prog_3_method_5_code 33 = .ok (.aload_n 0, 1) := by decide +kernel
theorem d_G_clear_34 : decode prog_3_method_5_code 34 = .ok (.iconst 0, 1) := by decide +kernel
theorem d_G_clear_35 : decode prog_3_method_5_code 35 = .ok (.putfield 24, 3) := by decide +kernel
theorem d_G_clear_38 : decode prog_3_method_5_code 38 = .ok (.return_, 1) := by decide +kernel
theorem d_C_queueRootsAndLog_0 : decode prog_1_method_37_code 0 = .ok (.aload_n 0, 1) := by decide +kernel
theorem d_C_queueRootsAndLog_1 : decode prog_1_method_37_code 1 = .ok (.getfield 15, 3) := by decide +kernel
theorem d_C_queueRootsAndLog_4 : decode prog_1_method_37_code 4 = .ok (.astore_n 1, 1) := by decide +kernel
theorem d_C_queueRootsAndLog_5 : decode prog_1_method_37_code 5 = .ok (.aload_n 1, 1) := by decide +kernel
theorem d_C_queueRootsAndLog_6 : decode prog_1_method_37_code 6 = .ok (.arraylength, 1) := by decide +kernel
theorem d_C_queueRootsAndLog_7 : decode prog_1_method_37_code 7 = .ok (.istore_n 2, 1) := by decide +kernel
theorem d_C_queueRootsAndLog_8 : decode prog_1_method_37_code 8 = .ok (.iconst 0, 1) := by decide +kernel
theorem d_C_queueRootsAndLog_9 : decode prog_1_method_37_code 9 = .ok (.istore_n 3, 1) := by decide +kernel
theorem d_C_queueRootsAndLog_10 : decode prog_1_method_37_code 10 = .ok (.iload_n 3, 1) := by decide +kernel
theorem d_C_queueRootsAndLog_11 : decode prog_1_method_37_code 11 = .ok (.iload_n 2, 1) := by decide +kernel
theorem d_C_queueRootsAndLog_12 : decode prog_1_method_37_code 12 = .ok (.if_icmp .ge 28, 3) := by decide +kernel
theorem d_C_queueRootsAndLog_15 : decode prog_1_method_37_code 15 = .ok (.aload_n 1, 1) := by decide +kernel
theorem d_C_queueRootsAndLog_16 : decode prog_1_method_37_code 16 = .ok (.iload_n 3, 1) := by decide +kernel
theorem d_C_queueRootsAndLog_17 : decode prog_1_method_37_code 17 = .ok (.aaload, 1) := by decide +kernel
theorem d_C_queueRootsAndLog_18 : decode prog_1_method_37_code 18 = .ok (.astore 4, 2) := by decide +kernel
theorem d_C_queueRootsAndLog_20 : decode prog_1_method_37_code 20 = .ok (.aload 4, 2) := by decide +kernel
theorem d_C_queueRootsAndLog_22 : decode prog_1_method_37_code 22 = .ok (.ifnull 12, 3) := by decide +kernel
theorem d_C_queueRootsAndLog_25 : decode prog_1_method_37_code 25 = .ok (.aload_n 0, 1) := by decide +kernel
theorem d_C_queueRootsAndLog_26 : decode prog_1_method_37_code 26 = .ok (.getfield 38, 3) := by decide +kernel
theorem d_C_queueRootsAndLog_29 : decode prog_1_method_37_code 29 = .ok (.aload 4, 2) := by decide +kernel
theorem d_C_queueRootsAndLog_31 : decode prog_1_method_37_code 31 = .ok (.invokevirtual 218, 3) := by decide +kernel
theorem d_C_queueRootsAndLog_34 : decode prog_1_method_37_code 34 = .ok (.iinc 3 1, 3) := by decide +kernel
theorem d_C_queueRootsAndLog_37 : decode prog_1_method_37_code 37 = .ok (.goto (-27), 3) := by decide +kernel
theorem d_C_queueRootsAndLog_40 : decode prog_1_method_37_code 40 = .ok (.iconst 0, 1) := by decide +kernel
theorem d_C_queueRootsAndLog_41 : decode prog_1_method_37_code 41 = .ok (.istore_n 1, 1) := by decide +kernel
theorem d_C_queueRootsAndLog_42 : decode prog_1_method_37_code 42 = .ok (.iload_n 1, 1) := by decide +kernel
theorem d_C_queueRootsAndLog_43 : decode prog_1_method_37_code 43 = .ok (.aload_n 0, 1) := by decide +kernel
theorem d_C_queueRootsAndLog_44 : decode prog_1_method_37_code 44 = .ok (.getfield 31, 3) := by decide +kernel
theorem d_C_queueRootsAndLog_47 : decode prog_1_method_37_code 47 = .ok (.getfield 184, 3) := by decide +kernel
theorem d_C_queueRootsAndLog_50 : decode prog_1_method_37_code 50 = .ok (.if_icmp .ge 44, 3) := by decide +kernel
theorem d_C_queueRootsAndLog_53 : decode prog_1_method_37_code 53 = .ok (.aload_n 0, 1) := by decide +kernel
theorem d_C_queueRootsAndLog_54 : decode prog_1_method_37_code 54 = .ok (.getfield 31, 3) := by decide +kernel
theorem d_C_queueRootsAndLog_57 : decode prog_1_method_37_code 57 = .ok (.iload_n 1, 1) := by decide +kernel
theorem d_C_queueRootsAndLog_58 : decode prog_1_method_37_code 58 = .ok (.invokevirtual 259, 3) := by decide +kernel
theorem d_C_queueRootsAndLog_61 : decode prog_1_method_37_code 61 = .ok (.astore_n 2, 1) := by decide +kernel
theorem d_C_queueRootsAndLog_62 : decode prog_1_method_37_code 62 = .ok (.aload_n 2, 1) := by decide +kernel
theorem d_C_queueRootsAndLog_63 : decode prog_1_method_37_code 63 = .ok (.ifnonnull 6, 3) := by decide +kernel
theorem d_C_queueRootsAndLog_66 : decode prog_1_method_37_code 66 = .ok (.goto 22, 3) := by decide +kernel
theorem d_C_queueRootsAndLog_69 : decode prog_1_method_37_code 69 = .ok (.aload_n 0, 1) := by decide +kernel
theorem d_C_queueRootsAndLog_70 : decode prog_1_method_37_code 70 = .ok (.getfield 38, 3) := by decide +kernel
theorem d_C_queueRootsAndLog_73 : decode prog_1_method_37_code 73 = .ok (.aload_n 2, 1) := by decide +kernel
theorem d_C_queueRootsAndLog_74 : decode prog_1_method_37_code 74 = .ok (.invokevirtual 218, 3) := by decide +kernel
theorem d_C_queueRootsAndLog_77 : decode prog_1_method_37_code 77 = .ok (.aload_n 0, 1) := by decide +kernel
theorem d_C_queueRootsAndLog_78 : decode prog_1_method_37_code 78 = .ok (.getfield 99, 3) := by decide +kernel
theorem d_C_queueRootsAndLog_81 : decode prog_1_method_37_code 81 = .ok (.ifCond .eq 7, 3) := by decide +kernel
theorem d_C_queueRootsAndLog_84 : decode prog_1_method_37_code 84 = .ok (.aload_n 2, 1) := by decide +kernel
theorem d_C_queueRootsAndLog_85 : decode prog_1_method_37_code 85 = .ok (.invokevirtual 220, 3) := by decide +kernel
theorem d_C_queueRootsAndLog_88 : decode prog_1_method_37_code 88 = .ok (.iinc 1 1, 3) := by decide +kernel
theorem d_C_queueRootsAndLog_91 : decode prog_1_method_37_code 91 = .ok (.goto (-49), 3) := by decide +kernel
theorem d_C_queueRootsAndLog_94 : decode prog_1_method_37_code 94 = .ok (.aload_n 0, 1) := by decide +kernel
theorem d_C_queueRootsAndLog_95 : decode prog_1_method_37_code 95 = .ok (.getfield 31, 3) := by decide +kernel
theorem d_C_queueRootsAndLog_98 : decode prog_1_method_37_code 98 = .ok (.invokevirtual 262, 3) := by decide +kernel
theorem d_C_queueRootsAndLog_101 : decode prog_1_method_37_code 101 = .ok (.return_, 1) := by decide +kernel
theorem d_C_rememberRoots_0 : decode prog_1_method_31_code 0 = .ok (.iconst 0, 1) := by decide +kernel
theorem d_C_rememberRoots_1 : decode prog_1_method_31_code 1 = .ok (.istore_n 1, 1) := by decide +kernel
theorem d_C_rememberRoots_2 : decode prog_1_method_31_code 2 = .ok (.iload_n 1, 1) := by decide +kernel
theorem d_C_rememberRoots_3 : decode prog_1_method_31_code 3 = .ok (.bipush 6, 2) := by decide +kernel
theorem d_C_rememberRoots_5 : decode prog_1_method_31_code 5 = .ok (.if_icmp .ge 21, 3) := by decide +kernel
theorem d_C_rememberRoots_8 : decode prog_1_method_31_code 8 = .ok (.aload_n 0, 1) := by decide +kernel
theorem d_C_rememberRoots_9 : decode prog_1_method_31_code 9 = .ok (.getfield 15, 3) := by decide +kernel
theorem d_C_rememberRoots_12 : decode prog_1_method_31_code 12 = .ok (.iload_n 1, 1) := by decide +kernel
theorem d_C_rememberRoots_13 : decode prog_1_method_31_code 13 = .ok (.aload_n 0, 1) := by decide +kernel
theorem d_C_rememberRoots_14 : decode prog_1_method_31_code 14 = .ok (.getfield 11, 3) := by decide +kernel
theorem d_C_rememberRoots_17 : decode prog_1_method_31_code 17 = .ok (.iload_n 1, 1) := by decide +kernel
theorem d_C_rememberRoots_18 : decode prog_1_method_31_code 18 = .ok (.aaload, 1) := by decide +kernel
theorem d_C_rememberRoots_19 : decode prog_1_method_31_code 19 = .ok (.aastore, 1) := by decide +kernel
theorem d_C_rememberRoots_20 : decode prog_1_method_31_code 20 = .ok (.iinc 1 1, 3) := by decide +kernel
theorem d_C_rememberRoots_23 : decode prog_1_method_31_code 23 = .ok (.goto (-21), 3) := by decide +kernel
theorem d_C_rememberRoots_26 : decode prog_1_method_31_code 26 = .ok (.return_, 1) := by decide +kernel
theorem d_C_beginTrace_0 : decode prog_1_method_32_code 0 = .ok (.aload_n 0, 1) := by decide +kernel
theorem d_C_beginTrace_1 : decode prog_1_method_32_code 1 = .ok (.iconst 1, 1) := by decide +kernel
theorem d_C_beginTrace_2 : decode prog_1_method_32_code 2 = .ok (.putfield 99, 3) := by decide +kernel
theorem d_C_beginTrace_5 : decode prog_1_method_32_code 5 = .ok (.aload_n 0, 1) := by decide +kernel
theorem d_C_beginTrace_6 : decode prog_1_method_32_code 6 = .ok (.getfield 11, 3) := by decide +kernel
theorem d_C_beginTrace_9 : decode prog_1_method_32_code 9 = .ok (.astore_n 1, 1) := by decide +kernel
theorem d_C_beginTrace_10 : decode prog_1_method_32_code 10 = .ok (.aload_n 1, 1) := by decide +kernel
theorem d_C_beginTrace_11 : decode prog_1_method_32_code 11 = .ok (.arraylength, 1) := by decide +kernel
theorem d_C_beginTrace_12 : decode prog_1_method_32_code 12 = .ok (.istore_n 2, 1) := by decide +kernel
theorem d_C_beginTrace_13 : decode prog_1_method_32_code 13 = .ok (.iconst 0, 1) := by decide +kernel
theorem d_C_beginTrace_14 : decode prog_1_method_32_code 14 = .ok (.istore_n 3, 1) := by decide +kernel
theorem d_C_beginTrace_15 : decode prog_1_method_32_code 15 = .ok (.iload_n 3, 1) := by decide +kernel
theorem d_C_beginTrace_16 : decode prog_1_method_32_code 16 = .ok (.iload_n 2, 1) := by decide +kernel
theorem d_C_beginTrace_17 : decode prog_1_method_32_code 17 = .ok (.if_icmp .ge 24, 3) := by decide +kernel
theorem d_C_beginTrace_20 : decode prog_1_method_32_code 20 = .ok (.aload_n 1, 1) := by decide +kernel
theorem d_C_beginTrace_21 : decode prog_1_method_32_code 21 = .ok (.iload_n 3, 1) := by decide +kernel
theorem d_C_beginTrace_22 : decode prog_1_method_32_code 22 = .ok (.aaload, 1) := by decide +kernel
theorem d_C_beginTrace_23 : decode prog_1_method_32_code 23 = .ok (.astore 4, 2) := by decide +kernel
theorem d_C_beginTrace_25 : decode prog_1_method_32_code 25 = .ok (.aload 4, 2) := by decide +kernel
theorem d_C_beginTrace_27 : decode prog_1_method_32_code 27 = .ok (.ifnull 8, 3) := by decide +kernel
theorem d_C_beginTrace_30 : decode prog_1_method_32_code 30 = .ok (.aload 4, 2) := by decide +kernel
theorem d_C_beginTrace_32 : decode prog_1_method_32_code 32 = .ok (.invokevirtual 220, 3) := by decide +kernel
theorem d_C_beginTrace_35 : decode prog_1_method_32_code 35 = .ok (.iinc 3 1, 3) := by decide +kernel
theorem d_C_beginTrace_38 : decode prog_1_method_32_code 38 = .ok (.goto (-23), 3) := by decide +kernel
theorem d_C_beginTrace_41 : decode prog_1_method_32_code 41 = .ok (.return_, 1) := by decide +kernel
theorem d_C_countGrey_0 : decode prog_1_method_21_code 0 = .ok (.iconst 0, 1) := by decide +kernel
theorem d_C_countGrey_1 : decode prog_1_method_21_code 1 = .ok (.istore_n 1, 1) := by decide +kernel
theorem d_C_countGrey_2 : decode prog_1_method_21_code 2 = .ok (.aload_n 0, 1) := by decide +kernel
theorem d_C_countGrey_3 : decode prog_1_method_21_code 3 = .ok (.getfield 18, 3) := by decide +kernel
theorem d_C_countGrey_6 : decode prog_1_method_21_code 6 = .ok (.astore_n 2, 1) := by decide +kernel
theorem d_C_countGrey_7 : decode prog_1_method_21_code 7 = .ok (.aload_n 2, 1) := by decide +kernel
theorem d_C_countGrey_8 : decode prog_1_method_21_code 8 = .ok (.arraylength, 1) := by decide +kernel
theorem d_C_countGrey_9 : decode prog_1_method_21_code 9 = .ok (.istore_n 3, 1) := by decide +kernel
theorem d_C_countGrey_10 : decode prog_1_method_21_code 10 = .ok (.iconst 0, 1) := by decide +kernel
theorem d_C_countGrey_11 : decode prog_1_method_21_code 11 = .ok (.istore 4, 2) := by decide +kernel
theorem d_C_countGrey_13 : decode prog_1_method_21_code 13 = .ok (.iload 4, 2) := by decide +kernel
theorem d_C_countGrey_15 : decode prog_1_method_21_code 15 = .ok (.iload_n 3, 1) := by decide +kernel
theorem d_C_countGrey_16 : decode prog_1_method_21_code 16 = .ok (.if_icmp .ge 32, 3) := by decide +kernel
theorem d_C_countGrey_19 : decode prog_1_method_21_code 19 = .ok (.aload_n 2, 1) := by decide +kernel
theorem d_C_countGrey_20 : decode prog_1_method_21_code 20 = .ok (.iload 4, 2) := by decide +kernel
theorem d_C_countGrey_22 : decode prog_1_method_21_code 22 = .ok (.aaload, 1) := by decide +kernel
theorem d_C_countGrey_23 : decode prog_1_method_21_code 23 = .ok (.astore 5, 2) := by decide +kernel
theorem d_C_countGrey_25 : decode prog_1_method_21_code 25 = .ok (.aload 5, 2) := by decide +kernel
theorem d_C_countGrey_27 : decode prog_1_method_21_code 27 = .ok (.ifnull 15, 3) := by decide +kernel
theorem d_C_countGrey_30 : decode prog_1_method_21_code 30 = .ok (.aload 5, 2) := by decide +kernel
theorem d_C_countGrey_32 : decode prog_1_method_21_code 32 = .ok (.getfield 169, 3) := by decide +kernel
theorem d_C_countGrey_35 : decode prog_1_method_21_code 35 = .ok (.iconst 1, 1) := by decide +kernel
theorem d_C_countGrey_36 : decode prog_1_method_21_code 36 = .ok (.if_icmp .ne 6, 3) := by decide +kernel
theorem d_C_countGrey_39 : decode prog_1_method_21_code 39 = .ok (.iinc 1 1, 3) := by decide +kernel
theorem d_C_countGrey_42 : decode prog_1_method_21_code 42 = .ok (.iinc 4 1, 3) := by decide +kernel
theorem d_C_countGrey_45 : decode prog_1_method_21_code 45 = .ok (.goto (-32), 3) := by decide +kernel
theorem d_C_countGrey_48 : decode prog_1_method_21_code 48 = .ok (.iload_n 1, 1) := by decide +kernel
theorem d_C_countGrey_49 : decode prog_1_method_21_code 49 = .ok (.ireturn, 1) := by decide +kernel
theorem d_C_loseWhite_0 : decode prog_1_method_38_code 0 = .ok (.aload_n 0, 1) := by decide +kernel
theorem d_C_loseWhite_1 : decode prog_1_method_38_code 1 = .ok (.getfield 18, 3) := by decide +kernel
theorem d_C_loseWhite_4 : decode prog_1_method_38_code 4 = .ok (.astore_n 1, 1) := by decide +kernel
theorem d_C_loseWhite_5 : decode prog_1_method_38_code 5 = .ok (.aload_n 1, 1) := by decide +kernel
theorem d_C_loseWhite_6 : decode prog_1_method_38_code 6 = .ok (.arraylength, 1) := by decide +kernel
theorem d_C_loseWhite_7 : decode prog_1_method_38_code 7 = .ok (.istore_n 2, 1) := by decide +kernel
theorem d_C_loseWhite_8 : decode prog_1_method_38_code 8 = .ok (.iconst 0, 1) := by decide +kernel
theorem d_C_loseWhite_9 : decode prog_1_method_38_code 9 = .ok (.istore_n 3, 1) := by decide +kernel
theorem d_C_loseWhite_10 : decode prog_1_method_38_code 10 = .ok (.iload_n 3, 1) := by decide +kernel
theorem d_C_loseWhite_11 : decode prog_1_method_38_code 11 = .ok (.iload_n 2, 1) := by decide +kernel
theorem d_C_loseWhite_12 : decode prog_1_method_38_code 12 = .ok (.if_icmp .ge 103, 3) := by decide +kernel
theorem d_C_loseWhite_15 : decode prog_1_method_38_code 15 = .ok (.aload_n 1, 1) := by decide +kernel
theorem d_C_loseWhite_16 : decode prog_1_method_38_code 16 = .ok (.iload_n 3, 1) := by decide +kernel
theorem d_C_loseWhite_17 : decode prog_1_method_38_code 17 = .ok (.aaload, 1) := by decide +kernel
theorem d_C_loseWhite_18 : decode prog_1_method_38_code 18 = .ok (.astore 4, 2) := by decide +kernel
theorem d_C_loseWhite_20 : decode prog_1_method_38_code 20 = .ok (.aload 4, 2) := by decide +kernel
theorem d_C_loseWhite_22 : decode prog_1_method_38_code 22 = .ok (.ifnull 87, 3) := by decide +kernel
theorem d_C_loseWhite_25 : decode prog_1_method_38_code 25 = .ok (.aload 4, 2) := by decide +kernel
theorem d_C_loseWhite_27 : decode prog_1_method_38_code 27 = .ok (.invokevirtual 263, 3) := by decide +kernel
theorem d_C_loseWhite_30 : decode prog_1_method_38_code 30 = .ok (.ifCond .ne 6, 3) := by decide +kernel
theorem d_C_loseWhite_33 : decode prog_1_method_38_code 33 = .ok (.goto 76, 3) := by decide +kernel
theorem d_C_loseWhite_36 : decode prog_1_method_38_code 36 = .ok (.aload_n 0, 1) := by decide +kernel
theorem d_C_loseWhite_37 : decode prog_1_method_38_code 37 = .ok (.aload 4, 2) := by decide +kernel
theorem d_C_loseWhite_39 : decode prog_1_method_38_code 39 = .ok (.invokevirtual 215, 3) := by decide +kernel
theorem d_C_loseWhite_42 : decode prog_1_method_38_code 42 = .ok (.aload_n 0, 1) := by decide +kernel
theorem d_C_loseWhite_43 : decode prog_1_method_38_code 43 = .ok (.dup, 1) := by decide +kernel
theorem d_C_loseWhite_44 : decode prog_1_method_38_code 44 = .ok (.getfield 188, 3) := by decide +kernel
theorem d_C_loseWhite_47 : decode prog_1_method_38_code 47 = .ok (.iconst 1, 1) := by decide +kernel
theorem d_C_loseWhite_48 : decode prog_1_method_38_code 48 = .ok (.iadd, 1) := by decide +kernel
theorem d_C_loseWhite_49 : decode prog_1_method_38_code 49 = .ok (.putfield 188, 3) := by decide +kernel
theorem d_C_loseWhite_52 : decode prog_1_method_38_code 52 = .ok (.aload 4, 2) := by decide +kernel
theorem d_C_loseWhite_54 : decode prog_1_method_38_code 54 = .ok (.getfield 73, 3) := by decide +kernel
theorem d_C_loseWhite_57 : decode prog_1_method_38_code 57 = .ok (.astore 5, 2) := by decide +kernel
theorem d_C_loseWhite_59 : decode prog_1_method_38_code 59 = .ok (.aload 5, 2) := by decide +kernel
theorem d_C_loseWhite_61 : decode prog_1_method_38_code 61 = .ok (.arraylength, 1) := by decide +kernel
theorem d_C_loseWhite_62 : decode prog_1_method_38_code 62 = .ok (.istore 6, 2) := by decide +kernel
theorem d_C_loseWhite_64 : decode prog_1_method_38_code 64 = .ok (.iconst 0, 1) := by decide +kernel
theorem d_C_loseWhite_65 : decode prog_1_method_38_code 65 = .ok (.istore 7, 2) := by decide +kernel
theorem d_C_loseWhite_67 : decode prog_1_method_38_code 67 = .ok (.iload 7, 2) := by decide +kernel
theorem d_C_loseWhite_69 : decode prog_1_method_38_code 69 = .ok (.iload 6, 2) := by decide +kernel
theorem d_C_loseWhite_71 : decode prog_1_method_38_code 71 = .ok (.if_icmp .ge 38, 3) := by decide +kernel
theorem d_C_loseWhite_74 : decode prog_1_method_38_code 74 = .ok (.aload 5, 2) := by decide +kernel
theorem d_C_loseWhite_76 : decode prog_1_method_38_code 76 = .ok (.iload 7, 2) := by decide +kernel
theorem d_C_loseWhite_78 : decode prog_1_method_38_code 78 = .ok (.aaload, 1) := by decide +kernel
theorem d_C_loseWhite_79 : decode prog_1_method_38_code 79 = .ok (.astore 8, 2) := by decide +kernel
theorem d_C_loseWhite_81 : decode prog_1_method_38_code 81 = .ok (.aload 8, 2) := by decide +kernel
theorem d_C_loseWhite_83 : decode prog_1_method_38_code 83 = .ok (.ifnull 20, 3) := by decide +kernel
theorem d_C_loseWhite_86 : decode prog_1_method_38_code 86 = .ok (.aload 8, 2) := by decide +kernel
theorem d_C_loseWhite_88 : decode prog_1_method_38_code 88 = .ok (.invokevirtual 263, 3) := by decide +kernel
theorem d_C_loseWhite_91 : decode prog_1_method_38_code 91 = .ok (.ifCond .ne 12, 3) := by decide +kernel
theorem d_C_loseWhite_94 : decode prog_1_method_38_code 94 = .ok (.aload_n 0, 1) := by decide +kernel
theorem d_C_loseWhite_95 : decode prog_1_method_38_code 95 = .ok (.getfield 38, 3) := by decide +kernel
theorem d_C_loseWhite_98 : decode prog_1_method_38_code 98 = .ok (.aload 8, 2) := by decide +kernel
theorem d_C_loseWhite_100 : decode prog_1_method_38_code 100 = .ok (.invokevirtual 218, 3) := by decide +kernel
theorem d_C_loseWhite_103 : decode prog_1_method_38_code 103 = .ok (.iinc 7 1, 3) := by decide +kernel
theorem d_C_loseWhite_106 : decode prog_1_method_38_code 106 = .ok (.goto (-39), 3) := by decide +kernel
theorem d_C_loseWhite_109 : decode prog_1_method_38_code 109 = .ok (.iinc 3 1, 3) := by decide +kernel
theorem d_C_loseWhite_112 : decode prog_1_method_38_code 112 = .ok (.goto (-102), 3) := by decide +kernel
theorem d_C_loseWhite_115 : decode prog_1_method_38_code 115 = .ok (.return_, 1) := by decide +kernel
theorem d_W_countOf_0 : decode prog_5_method_5_code 0 = .ok (.iconst 0, 1) := by decide +kernel
theorem d_W_countOf_1 : decode prog_5_method_5_code 1 = .ok (.istore_n 2, 1) := by decide +kernel
theorem d_W_countOf_2 : decode prog_5_method_5_code 2 = .ok (.iconst 0, 1) := by decide +kernel
theorem d_W_countOf_3 : decode prog_5_method_5_code 3 = .ok (.istore_n 3, 1) := by decide +kernel
theorem d_W_countOf_4 : decode prog_5_method_5_code 4 = .ok (.iload_n 3, 1) := by decide +kernel
theorem d_W_countOf_5 : decode prog_5_method_5_code 5 = .ok (.aload_n 0, 1) := by decide +kernel
theorem d_W_countOf_6 : decode prog_5_method_5_code 6 = .ok (.getfield 17, 3) := by decide +kernel
theorem d_W_countOf_9 : decode prog_5_method_5_code 9 = .ok (.if_icmp .ge 31, 3) := by decide +kernel
theorem d_W_countOf_12 : decode prog_5_method_5_code 12 = .ok (.aload_n 0, 1) := by decide +kernel
theorem d_W_countOf_13 : decode prog_5_method_5_code 13 = .ok (.getfield 11, 3) := by decide +kernel
theorem d_W_countOf_16 : decode prog_5_method_5_code 16 = .ok (.aload_n 0, 1) := by decide +kernel
theorem d_W_countOf_17 : decode prog_5_method_5_code 17 = .ok (.getfield 21, 3) := by decide +kernel
theorem d_W_countOf_20 : decode prog_5_method_5_code 20 = .ok (.iload_n 3, 1) := by decide +kernel
theorem d_W_countOf_21 : decode prog_5_method_5_code 21 = .ok (.iadd, 1) := by decide +kernel
theorem d_W_countOf_22 : decode prog_5_method_5_code 22 = .ok (.sipush 262, 3) := by decide +kernel
theorem d_W_countOf_25 : decode prog_5_method_5_code 25 = .ok (.irem, 1) := by decide +kernel
theorem d_W_countOf_26 : decode prog_5_method_5_code 26 = .ok (.aaload, 1) := by decide +kernel
theorem d_W_countOf_27 : decode prog_5_method_5_code 27 = .ok (.aload_n 1, 1) := by decide +kernel
theorem d_W_countOf_28 : decode prog_5_method_5_code 28 = .ok (.if_acmp .ne 6, 3) := by decide +kernel
theorem d_W_countOf_31 : decode prog_5_method_5_code 31 = .ok (.iinc 2 1, 3) := by decide +kernel
theorem d_W_countOf_34 : decode prog_5_method_5_code 34 = .ok (.iinc 3 1, 3) := by decide +kernel
theorem d_W_countOf_37 : decode prog_5_method_5_code 37 = .ok (.goto (-33), 3) := by decide +kernel
theorem d_W_countOf_40 : decode prog_5_method_5_code 40 = .ok (.iload_n 2, 1) := by decide +kernel
theorem d_W_countOf_41 : decode prog_5_method_5_code 41 = .ok (.ireturn, 1) := by decide +kernel
theorem d_I_countFieldsHolding_0 : decode prog_2_method_7_code 0 = .ok (.iconst 0, 1) := by decide +kernel
theorem d_I_countFieldsHolding_1 : decode prog_2_method_7_code 1 = .ok (.istore_n 2, 1) := by decide +kernel
theorem d_I_countFieldsHolding_2 : decode prog_2_method_7_code 2 = .ok (.aload_n 0, 1) := by decide +kernel
theorem d_I_countFieldsHolding_3 : decode prog_2_method_7_code 3 = .ok (.getfield 18, 3) := by decide +kernel
theorem d_I_countFieldsHolding_6 : decode prog_2_method_7_code 6 = .ok (.astore_n 3, 1) := by decide +kernel
theorem d_I_countFieldsHolding_7 : decode prog_2_method_7_code 7 = .ok (.aload_n 3, 1) := by decide +kernel
theorem d_I_countFieldsHolding_8 : decode prog_2_method_7_code 8 = .ok (.arraylength, 1) := by decide +kernel
theorem d_I_countFieldsHolding_9 : decode prog_2_method_7_code 9 = .ok (.istore 4, 2) := by decide +kernel
theorem d_I_countFieldsHolding_11 : decode prog_2_method_7_code 11 = .ok (.iconst 0, 1) := by decide +kernel
theorem d_I_countFieldsHolding_12 : decode prog_2_method_7_code 12 = .ok (.istore 5, 2) := by decide +kernel
theorem d_I_countFieldsHolding_14 : decode prog_2_method_7_code 14 = .ok (.iload 5, 2) := by decide +kernel
theorem d_I_countFieldsHolding_16 : decode prog_2_method_7_code 16 = .ok (.iload 4, 2) := by decide +kernel
theorem d_I_countFieldsHolding_18 : decode prog_2_method_7_code 18 = .ok (.if_icmp .ge 24, 3) := by decide +kernel
theorem d_I_countFieldsHolding_21 : decode prog_2_method_7_code 21 = .ok (.aload_n 3, 1) := by decide +kernel
theorem d_I_countFieldsHolding_22 : decode prog_2_method_7_code 22 = .ok (.iload 5, 2) := by decide +kernel
theorem d_I_countFieldsHolding_24 : decode prog_2_method_7_code 24 = .ok (.aaload, 1) := by decide +kernel
theorem d_I_countFieldsHolding_25 : decode prog_2_method_7_code 25 = .ok (.astore 6, 2) := by decide +kernel
theorem d_I_countFieldsHolding_27 : decode prog_2_method_7_code 27 = .ok (.aload 6, 2) := by decide +kernel
theorem d_I_countFieldsHolding_29 : decode prog_2_method_7_code 29 = .ok (.aload_n 1, 1) := by decide +kernel
theorem d_I_countFieldsHolding_30 : decode prog_2_method_7_code 30 = .ok (.if_acmp .ne 6, 3) := by decide +kernel
theorem d_I_countFieldsHolding_33 : decode prog_2_method_7_code 33 = .ok (.iinc 2 1, 3) := by decide +kernel
theorem d_I_countFieldsHolding_36 : decode prog_2_method_7_code 36 = .ok (.iinc 5 1, 3) := by decide +kernel
theorem d_I_countFieldsHolding_39 : decode prog_2_method_7_code 39 = .ok (.goto (-25), 3) := by decide +kernel
theorem d_I_countFieldsHolding_42 : decode prog_2_method_7_code 42 = .ok (.iload_n 2, 1) := by decide +kernel
theorem d_I_countFieldsHolding_43 : decode prog_2_method_7_code 43 = .ok (.ireturn, 1) := by decide +kernel
theorem d_C_countHolders_0 : decode prog_1_method_40_code 0 = .ok (.aload_n 0, 1) := by decide +kernel
theorem d_C_countHolders_1 : decode prog_1_method_40_code 1 = .ok (.getfield 38, 3) := by decide +kernel
theorem d_C_countHolders_4 : decode prog_1_method_40_code 4 = .ok (.aload_n 1, 1) := by decide +kernel
theorem d_C_countHolders_5 : decode prog_1_method_40_code 5 = .ok (.invokevirtual 269, 3) := by decide +kernel
theorem d_C_countHolders_8 : decode prog_1_method_40_code 8 = .ok (.istore_n 2, 1) := by decide +kernel
theorem d_C_countHolders_9 : decode prog_1_method_40_code 9 = .ok (.aload_n 0, 1) := by decide +kernel
theorem d_C_countHolders_10 : decode prog_1_method_40_code 10 = .ok (.getfield 11, 3) := by decide +kernel
theorem d_C_countHolders_13 : decode prog_1_method_40_code 13 = .ok (.astore_n 3, 1) := by decide +kernel
theorem d_C_countHolders_14 : decode prog_1_method_40_code 14 = .ok (.aload_n 3, 1) := by decide +kernel
theorem d_C_countHolders_15 : decode prog_1_method_40_code 15 = .ok (.arraylength, 1) := by decide +kernel
theorem d_C_countHolders_16 : decode prog_1_method_40_code 16 = .ok (.istore 4, 2) := by decide +kernel
theorem d_C_countHolders_18 : decode prog_1_method_40_code 18 = .ok (.iconst 0, 1) := by decide +kernel
theorem d_C_countHolders_19 : decode prog_1_method_40_code 19 = .ok (.istore 5, 2) := by decide +kernel
theorem d_C_countHolders_21 : decode prog_1_method_40_code 21 = .ok (.iload 5, 2) := by decide +kernel
theorem d_C_countHolders_23 : decode prog_1_method_40_code 23 = .ok (.iload 4, 2) := by decide +kernel
theorem d_C_countHolders_25 : decode prog_1_method_40_code 25 = .ok (.if_icmp .ge 24, 3) := by decide +kernel
theorem d_C_countHolders_28 : decode prog_1_method_40_code 28 = .ok (.aload_n 3, 1) := by decide +kernel
theorem d_C_countHolders_29 : decode prog_1_method_40_code 29 = .ok (.iload 5, 2) := by decide +kernel
theorem d_C_countHolders_31 : decode prog_1_method_40_code 31 = .ok (.aaload, 1) := by decide +kernel
theorem d_C_countHolders_32 : decode prog_1_method_40_code 32 = .ok (.astore 6, 2) := by decide +kernel
theorem d_C_countHolders_34 : decode prog_1_method_40_code 34 = .ok (.aload 6, 2) := by decide +kernel
theorem d_C_countHolders_36 : decode prog_1_method_40_code 36 = .ok (.aload_n 1, 1) := by decide +kernel
theorem d_C_countHolders_37 : decode prog_1_method_40_code 37 = .ok (.if_acmp .ne 6, 3) := by decide +kernel
theorem d_C_countHolders_40 : decode prog_1_method_40_code 40 = .ok (.iinc 2 1, 3) := by decide +kernel
theorem d_C_countHolders_43 : decode prog_1_method_40_code 43 = .ok (.iinc 5 1, 3) := by decide +kernel
theorem d_C_countHolders_46 : decode prog_1_method_40_code 46 = .ok (.goto (-25), 3) := by decide +kernel
theorem d_C_countHolders_49 : decode prog_1_method_40_code 49 = .ok (.aload_n 0, 1) := by decide +kernel
theorem d_C_countHolders_50 : decode prog_1_method_40_code 50 = .ok (.getfield 18, 3) := by decide +kernel
theorem d_C_countHolders_53 : decode prog_1_method_40_code 53 = .ok (.astore_n 3, 1) := by decide +kernel
theorem d_C_countHolders_54 : decode prog_1_method_40_code 54 = .ok (.aload_n 3, 1) := by decide +kernel
theorem d_C_countHolders_55 : decode prog_1_method_40_code 55 = .ok (.arraylength, 1) := by decide +kernel
theorem d_C_countHolders_56 : decode prog_1_method_40_code 56 = .ok (.istore 4, 2) := by decide +kernel
theorem d_C_countHolders_58 : decode prog_1_method_40_code 58 = .ok (.iconst 0, 1) := by decide +kernel
theorem d_C_countHolders_59 : decode prog_1_method_40_code 59 = .ok (.istore 5, 2) := by decide +kernel
theorem d_C_countHolders_61 : decode prog_1_method_40_code 61 = .ok (.iload 5, 2) := by decide +kernel
theorem d_C_countHolders_63 : decode prog_1_method_40_code 63 = .ok (.iload 4, 2) := by decide +kernel
theorem d_C_countHolders_65 : decode prog_1_method_40_code 65 = .ok (.if_icmp .ge 29, 3) := by decide +kernel
theorem d_C_countHolders_68 : decode prog_1_method_40_code 68 = .ok (.aload_n 3, 1) := by decide +kernel
theorem d_C_countHolders_69 : decode prog_1_method_40_code 69 = .ok (.iload 5, 2) := by decide +kernel
theorem d_C_countHolders_71 : decode prog_1_method_40_code 71 = .ok (.aaload, 1) := by decide +kernel
theorem d_C_countHolders_72 : decode prog_1_method_40_code 72 = .ok (.astore 6, 2) := by decide +kernel
theorem d_C_countHolders_74 : decode prog_1_method_40_code 74 = .ok (.aload 6, 2) := by decide +kernel
theorem d_C_countHolders_76 : decode prog_1_method_40_code 76 = .ok (.ifnull 12, 3) := by decide +kernel
theorem d_C_countHolders_79 : decode prog_1_method_40_code 79 = .ok (.iload_n 2, 1) := by decide +kernel
theorem d_C_countHolders_80 : decode prog_1_method_40_code 80 = .ok (.aload 6, 2) := by decide +kernel
theorem d_C_countHolders_82 : decode prog_1_method_40_code 82 = .ok (.aload_n 1, 1) := by decide +kernel
theorem d_C_countHolders_83 : decode prog_1_method_40_code 83 = .ok (.invokevirtual 272, 3) := by decide +kernel
theorem d_C_countHolders_86 : decode prog_1_method_40_code 86 = .ok (.iadd, 1) := by decide +kernel
theorem d_C_countHolders_87 : decode prog_1_method_40_code 87 = .ok (.istore_n 2, 1) := by decide +kernel
theorem d_C_countHolders_88 : decode prog_1_method_40_code 88 = .ok (.iinc 5 1, 3) := by decide +kernel
theorem d_C_countHolders_91 : decode prog_1_method_40_code 91 = .ok (.goto (-30), 3) := by decide +kernel
theorem d_C_countHolders_94 : decode prog_1_method_40_code 94 = .ok (.iload_n 2, 1) := by decide +kernel
theorem d_C_countHolders_95 : decode prog_1_method_40_code 95 = .ok (.ireturn, 1) := by decide +kernel
theorem d_C_recountStuck_0 : decode prog_1_method_39_code 0 = .ok (.aload_n 0, 1) := by decide +kernel
theorem d_C_recountStuck_1 : decode prog_1_method_39_code 1 = .ok (.getfield 18, 3) := by decide +kernel
theorem d_C_recountStuck_4 : decode prog_1_method_39_code 4 = .ok (.astore_n 1, 1) := by decide +kernel
theorem d_C_recountStuck_5 : decode prog_1_method_39_code 5 = .ok (.aload_n 1, 1) := by decide +kernel
theorem d_C_recountStuck_6 : decode prog_1_method_39_code 6 = .ok (.arraylength, 1) := by decide +kernel
theorem d_C_recountStuck_7 : decode prog_1_method_39_code 7 = .ok (.istore_n 2, 1) := by decide +kernel
theorem d_C_recountStuck_8 : decode prog_1_method_39_code 8 = .ok (.iconst 0, 1) := by decide +kernel
theorem d_C_recountStuck_9 : decode prog_1_method_39_code 9 = .ok (.istore_n 3, 1) := by decide +kernel
theorem d_C_recountStuck_10 : decode prog_1_method_39_code 10 = .ok (.iload_n 3, 1) := by decide +kernel
theorem d_C_recountStuck_11 : decode prog_1_method_39_code 11 = .ok (.iload_n 2, 1) := by decide +kernel
theorem d_C_recountStuck_12 : decode prog_1_method_39_code 12 = .ok (.if_icmp .ge 60, 3) := by decide +kernel
theorem d_C_recountStuck_15 : decode prog_1_method_39_code 15 = .ok (.aload_n 1, 1) := by decide +kernel
theorem d_C_recountStuck_16 : decode prog_1_method_39_code 16 = .ok (.iload_n 3, 1) := by decide +kernel
theorem d_C_recountStuck_17 : decode prog_1_method_39_code 17 = .ok (.aaload, 1) := by decide +kernel
theorem d_C_recountStuck_18 : decode prog_1_method_39_code 18 = .ok (.astore 4, 2) := by decide +kernel
theorem d_C_recountStuck_20 : decode prog_1_method_39_code 20 = .ok (.aload 4, 2) := by decide +kernel
theorem d_C_recountStuck_22 : decode prog_1_method_39_code 22 = .ok (.ifnull 44, 3) := by decide +kernel
theorem d_C_recountStuck_25 : decode prog_1_method_39_code 25 = .ok (.aload 4, 2) := by decide +kernel
theorem d_C_recountStuck_27 : decode prog_1_method_39_code 27 = .ok (.getfield 166, 3) := by decide +kernel
theorem d_C_recountStuck_30 : decode prog_1_method_39_code 30 = .ok (.iconst 3, 1) := by decide +kernel
theorem d_C_recountStuck_31 : decode prog_1_method_39_code 31 = .ok (.if_icmp .eq 6, 3) := by decide +kernel
theorem d_C_recountStuck_34 : decode prog_1_method_39_code 34 = .ok (.goto 32, 3) := by decide +kernel
theorem d_C_recountStuck_37 : decode prog_1_method_39_code 37 = .ok (.aload 4, 2) := by decide +kernel
theorem d_C_recountStuck_39 : decode prog_1_method_39_code 39 = .ok (.aload_n 0, 1) := by decide +kernel
theorem d_C_recountStuck_40 : decode prog_1_method_39_code 40 = .ok (.aload 4, 2) := by decide +kernel
theorem d_C_recountStuck_42 : decode prog_1_method_39_code 42 = .ok (.invokevirtual 266, 3) := by decide +kernel
theorem d_C_recountStuck_45 : decode prog_1_method_39_code 45 = .ok (.iconst 3, 1) := by decide +kernel
theorem d_C_recountStuck_46 : decode prog_1_method_39_code 46 = .ok (.invokestatic 235, 3) := by decide +kernel
theorem d_C_recountStuck_49 : decode prog_1_method_39_code 49 = .ok (.putfield 166, 3) := by decide +kernel
theorem d_C_recountStuck_52 : decode prog_1_method_39_code 52 = .ok (.aload 4, 2) := by decide +kernel
theorem d_C_recountStuck_54 : decode prog_1_method_39_code 54 = .ok (.getfield 166, 3) := by decide +kernel
theorem d_C_recountStuck_57 : decode prog_1_method_39_code 57 = .ok (.ifCond .ne 9, 3) := by decide +kernel
theorem d_C_recountStuck_60 : decode prog_1_method_39_code 60 = .ok (.aload_n 0, 1) := by decide +kernel
theorem d_C_recountStuck_61 : decode prog_1_method_39_code 61 = .ok (.aload 4, 2) := by decide +kernel
theorem d_C_recountStuck_63 : decode prog_1_method_39_code 63 = .ok (.invokevirtual 211, 3) := by decide +kernel
theorem d_C_recountStuck_66 : decode prog_1_method_39_code 66 = .ok (.iinc 3 1, 3) := by decide +kernel
theorem d_C_recountStuck_69 : decode prog_1_method_39_code 69 = .ok (.goto (-59), 3) := by decide +kernel
theorem d_C_recountStuck_72 : decode prog_1_method_39_code 72 = .ok (.return_, 1) := by decide +kernel
theorem d_C_whitenAll_0 : decode prog_1_method_41_code 0 = .ok (.aload_n 0, 1) := by decide +kernel
theorem d_C_whitenAll_1 : decode prog_1_method_41_code 1 = .ok (.getfield 18, 3) := by decide +kernel
theorem d_C_whitenAll_4 : decode prog_1_method_41_code 4 = .ok (.astore_n 1, 1) := by decide +kernel
theorem d_C_whitenAll_5 : decode prog_1_method_41_code 5 = .ok (.aload_n 1, 1) := by decide +kernel
theorem d_C_whitenAll_6 : decode prog_1_method_41_code 6 = .ok (.arraylength, 1) := by decide +kernel
theorem d_C_whitenAll_7 : decode prog_1_method_41_code 7 = .ok (.istore_n 2, 1) := by decide +kernel
theorem d_C_whitenAll_8 : decode prog_1_method_41_code 8 = .ok (.iconst 0, 1) := by decide +kernel
theorem d_C_whitenAll_9 : decode prog_1_method_41_code 9 = .ok (.istore_n 3, 1) := by decide +kernel
theorem d_C_whitenAll_10 : decode prog_1_method_41_code 10 = .ok (.iload_n 3, 1) := by decide +kernel
theorem d_C_whitenAll_11 : decode prog_1_method_41_code 11 = .ok (.iload_n 2, 1) := by decide +kernel
theorem d_C_whitenAll_12 : decode prog_1_method_41_code 12 = .ok (.if_icmp .ge 25, 3) := by decide +kernel
theorem d_C_whitenAll_15 : decode prog_1_method_41_code 15 = .ok (.aload_n 1, 1) := by decide +kernel
theorem d_C_whitenAll_16 : decode prog_1_method_41_code 16 = .ok (.iload_n 3, 1) := by decide +kernel
theorem d_C_whitenAll_17 : decode prog_1_method_41_code 17 = .ok (.aaload, 1) := by decide +kernel
theorem d_C_whitenAll_18 : decode prog_1_method_41_code 18 = .ok (.astore 4, 2) := by decide +kernel
theorem d_C_whitenAll_20 : decode prog_1_method_41_code 20 = .ok (.aload 4, 2) := by decide +kernel
theorem d_C_whitenAll_22 : decode prog_1_method_41_code 22 = .ok (.ifnull 9, 3) := by decide +kernel
theorem d_C_whitenAll_25 : decode prog_1_method_41_code 25 = .ok (.aload 4, 2) := by decide +kernel
theorem d_C_whitenAll_27 : decode prog_1_method_41_code 27 = .ok (.iconst 0, 1) := by decide +kernel
theorem d_C_whitenAll_28 : decode prog_1_method_41_code 28 = .ok (.putfield 169, 3) := by decide +kernel
theorem d_C_whitenAll_31 : decode prog_1_method_41_code 31 = .ok (.iinc 3 1, 3) := by decide +kernel
theorem d_C_whitenAll_34 : decode prog_1_method_41_code 34 = .ok (.goto (-24), 3) := by decide +kernel
theorem d_C_whitenAll_37 : decode prog_1_method_41_code 37 = .ok (.return_, 1) := by decide +kernel
theorem d_P_isUsed_0 : decode prog_4_method_2_code 0 = .ok (.aload_n 0, 1) := by decide +kernel
theorem d_P_isUsed_1 : decode prog_4_method_2_code 1 = .ok (.getfield 9, 3) := by decide +kernel
theorem d_P_isUsed_4 : decode prog_4_method_2_code 4 = .ok (.iload_n 1, 1) := by decide +kernel
theorem d_P_isUsed_5 : decode prog_4_method_2_code 5 = .ok (.iaload, 1) := by decide +kernel
theorem d_P_isUsed_6 : decode prog_4_method_2_code 6 = .ok (.ifCond .gt 12, 3) := by decide +kernel
theorem d_P_isUsed_9 : decode prog_4_method_2_code 9 = .ok (.aload_n 0, 1) := by decide +kernel
theorem d_P_isUsed_10 : decode prog_4_method_2_code 10 = .ok (.getfield 15, 3) := by decide +kernel
theorem d_P_isUsed_13 : decode prog_4_method_2_code 13 = .ok (.iload_n 1, 1) := by decide +kernel
theorem d_P_isUsed_14 : decode prog_4_method_2_code 14 = .ok (.baload, 1) := by decide +kernel
theorem d_P_isUsed_15 : decode prog_4_method_2_code 15 = .ok (.ifCond .eq 7, 3) := by decide +kernel
theorem d_P_isUsed_18 : decode prog_4_method_2_code 18 = .ok (.iconst 1, 1) := by decide +kernel
theorem d_P_isUsed_19 : decode prog_4_method_2_code 19 = .ok (.goto 4, 3) := by decide +kernel
theorem d_P_isUsed_22 : decode prog_4_method_2_code 22 = .ok (.iconst 0, 1) := by decide +kernel
theorem d_P_isUsed_23 : decode prog_4_method_2_code 23 = .ok (.ireturn, 1) := by decide +kernel
theorem d_P_usedLines_0 : decode prog_4_method_14_code 0 = .ok (.iconst 0, 1) := by decide +kernel
theorem d_P_usedLines_1 : decode prog_4_method_14_code 1 = .ok (.istore_n 2, 1) := by decide +kernel
theorem d_P_usedLines_2 : decode prog_4_method_14_code 2 = .ok (.iload_n 1, 1) := by decide +kernel
theorem d_P_usedLines_3 : decode prog_4_method_14_code 3 = .ok (.bipush 8, 2) := by decide +kernel
theorem d_P_usedLines_5 : decode prog_4_method_14_code 5 = .ok (.imul, 1) := by decide +kernel
theorem d_P_usedLines_6 : decode prog_4_method_14_code 6 = .ok (.istore_n 3, 1) := by decide +kernel
theorem d_P_usedLines_7 : decode prog_4_method_14_code 7 = .ok (.iload_n 3, 1) := by decide +kernel
theorem d_P_usedLines_8 : decode prog_4_method_14_code 8 = .ok (.iload_n 1, 1) := by decide +kernel
theorem d_P_usedLines_9 : decode prog_4_method_14_code 9 = .ok (.iconst 1, 1) := by decide +kernel
theorem d_P_usedLines_10 : decode prog_4_method_14_code 10 = .ok (.iadd, 1) := by decide +kernel
theorem d_P_usedLines_11 : decode prog_4_method_14_code 11 = .ok (.bipush 8, 2) := by decide +kernel
theorem d_P_usedLines_13 : decode prog_4_method_14_code 13 = .ok (.imul, 1) := by decide +kernel
theorem d_P_usedLines_14 : decode prog_4_method_14_code 14 = .ok (.if_icmp .ge 20, 3) := by decide +kernel
theorem d_P_usedLines_17 : decode prog_4_method_14_code 17 = .ok (.aload_n 0, 1) := by decide +kernel
theorem d_P_usedLines_18 : decode prog_4_method_14_code 18 = .ok (.iload_n 3, 1) := by decide +kernel
theorem d_P_usedLines_19 : decode prog_4_method_14_code 19 = .ok (.invokevirtual 65, 3) := by decide +kernel
theorem d_P_usedLines_22 : decode prog_4_method_14_code 22 = .ok (.ifCond .eq 6, 3) := by decide +kernel
theorem d_P_usedLines_25 : decode prog_4_method_14_code 25 = .ok (.iinc 2 1, 3) := by decide +kernel
theorem d_P_usedLines_28 : decode prog_4_method_14_code 28 = .ok (.iinc 3 1, 3) := by decide +kernel
theorem d_P_usedLines_31 : decode prog_4_method_14_code 31 = .ok (.goto (-24), 3) := by decide +kernel
theorem d_P_usedLines_34 : decode prog_4_method_14_code 34 = .ok (.iload_n 2, 1) := by decide +kernel
theorem d_P_usedLines_35 : decode prog_4_method_14_code 35 = .ok (.ireturn, 1) := by decide +kernel
theorem d_P_sparsestBlock_0 : decode prog_4_method_13_code 0 = .ok (.iconst (-1), 1) := by decide +kernel
theorem d_P_sparsestBlock_1 : decode prog_4_method_13_code 1 = .ok (.istore_n 1, 1) := by decide +kernel
theorem d_P_sparsestBlock_2 : decode prog_4_method_13_code 2 = .ok (.iconst 4, 1) := by decide +kernel
theorem d_P_sparsestBlock_3 : decode prog_4_method_13_code 3 = .ok (.istore_n 2, 1) := by decide +kernel
theorem d_P_sparsestBlock_4 : decode prog_4_method_13_code 4 = .ok (.iconst 0, 1) := by decide +kernel
theorem d_P_sparsestBlock_5 : decode prog_4_method_13_code 5 = .ok (.istore_n 3, 1) := by decide +kernel
theorem d_P_sparsestBlock_6 : decode prog_4_method_13_code 6 = .ok (.iload_n 3, 1) := by decide +kernel
theorem d_P_sparsestBlock_7 : decode prog_4_method_13_code 7 = .ok (.iconst 4, 1) := by decide +kernel
theorem d_P_sparsestBlock_8 : decode prog_4_method_13_code 8 = .ok (.if_icmp .ge 32, 3) := by decide +kernel
theorem d_P_sparsestBlock_11 : decode prog_4_method_13_code 11 = .ok (.aload_n 0, 1) := by decide +kernel
theorem d_P_sparsestBlock_12 : decode prog_4_method_13_code 12 = .ok (.iload_n 3, 1) := by decide +kernel
theorem d_P_sparsestBlock_13 : decode prog_4_method_13_code 13 = .ok (.invokevirtual 62, 3) := by decide +kernel
theorem d_P_sparsestBlock_16 : decode prog_4_method_13_code 16 = .ok (.istore 4, 2) := by decide +kernel
theorem d_P_sparsestBlock_18 : decode prog_4_method_13_code 18 = .ok (.iload 4, 2) := by decide +kernel
theorem d_P_sparsestBlock_20 : decode prog_4_method_13_code 20 = .ok (.ifCond .le 14, 3) := by decide +kernel
theorem d_P_sparsestBlock_23 : decode prog_4_method_13_code 23 = .ok (.iload 4, 2) := by decide +kernel
theorem d_P_sparsestBlock_25 : decode prog_4_method_13_code 25 = .ok (.iload_n 2, 1) := by decide +kernel
theorem d_P_sparsestBlock_26 : decode prog_4_method_13_code 26 = .ok (.if_icmp .ge 8, 3) := by decide +kernel
theorem d_P_sparsestBlock_29 : decode prog_4_method_13_code 29 = .ok (.iload_n 3, 1) := by decide +kernel
theorem d_P_sparsestBlock_30 : decode prog_4_method_13_code 30 = .ok (.istore_n 1, 1) := by decide +kernel
theorem d_P_sparsestBlock_31 : decode prog_4_method_13_code 31 = .ok (.iload 4, 2) := by decide +kernel
theorem d_P_sparsestBlock_33 : decode prog_4_method_13_code 33 = .ok (.istore_n 2, 1) := by decide +kernel
theorem d_P_sparsestBlock_34 : decode prog_4_method_13_code 34 = .ok (.iinc 3 1, 3) := by decide +kernel
theorem d_P_sparsestBlock_37 : decode prog_4_method_13_code 37 = .ok (.goto (-31), 3) := by decide +kernel
theorem d_P_sparsestBlock_40 : decode prog_4_method_13_code 40 = .ok (.iload_n 1, 1) := by decide +kernel
theorem d_P_sparsestBlock_41 : decode prog_4_method_13_code 41 = .ok (.ireturn, 1) := by decide +kernel
theorem d_P_shut_0 : decode prog_4_method_9_code 0 = .ok (.aload_n 0, 1) := by decide +kernel
theorem d_P_shut_1 : decode prog_4_method_9_code 1 = .ok (.iload_n 1, 1) := by decide +kernel
theorem d_P_shut_2 : decode prog_4_method_9_code 2 = .ok (.putfield 29, 3) := by decide +kernel
theorem d_P_shut_5 : decode prog_4_method_9_code 5 = .ok (.return_, 1) := by decide +kernel
theorem d_C_clearSparsestBlock_0 : decode prog_1_method_42_code 0 = .ok (.aload_n 0, 1) := by decide +kernel
theorem d_C_clearSparsestBlock_1 : decode prog_1_method_42_code 1 = .ok (.getfield 24, 3) := by decide +kernel
theorem d_C_clearSparsestBlock_4 : decode prog_1_method_42_code 4 = .ok (.invokevirtual 275, 3) := by decide +kernel
theorem d_C_clearSparsestBlock_7 : decode prog_1_method_42_code 7 = .ok (.istore_n 1, 1) := by decide +kernel
theorem d_C_clearSparsestBlock_8 : decode prog_1_method_42_code 8 = .ok (.iload_n 1, 1) := by decide +kernel
theorem d_C_clearSparsestBlock_9 : decode prog_1_method_42_code 9 = .ok (.iconst (-1), 1) := by decide +kernel
theorem d_C_clearSparsestBlock_10 : decode prog_1_method_42_code 10 = .ok (.if_icmp .ne 4, 3) := by decide +kernel
theorem d_C_clearSparsestBlock_13 : decode prog_1_method_42_code 13 = .ok (.return_, 1) := by decide +kernel
theorem d_C_clearSparsestBlock_14 : decode prog_1_method_42_code 14 = .ok (.aload_n 0, 1) := by decide +kernel
theorem d_C_clearSparsestBlock_15 : decode prog_1_method_42_code 15 = .ok (.getfield 24, 3) := by decide +kernel
theorem d_C_clearSparsestBlock_18 : decode prog_1_method_42_code 18 = .ok (.invokevirtual 117, 3) := by decide +kernel
theorem d_C_clearSparsestBlock_21 : decode prog_1_method_42_code 21 = .ok (.aload_n 0, 1) := by decide +kernel
theorem d_C_clearSparsestBlock_22 : decode prog_1_method_42_code 22 = .ok (.getfield 24, 3) := by decide +kernel
theorem d_C_clearSparsestBlock_25 : decode prog_1_method_42_code 25 = .ok (.iload_n 1, 1) := by decide +kernel
theorem d_C_clearSparsestBlock_26 : decode prog_1_method_42_code 26 = .ok (.invokevirtual 278, 3) := by decide +kernel
theorem d_C_clearSparsestBlock_29 : decode prog_1_method_42_code 29 = .ok (.iconst 0, 1) := by decide +kernel
theorem d_C_clearSparsestBlock_30 : decode prog_1_method_42_code 30 = .ok (.istore_n 2, 1) := by decide +kernel
theorem d_C_clearSparsestBlock_31 : decode prog_1_method_42_code 31 = .ok (.iload_n 2, 1) := by decide +kernel
theorem d_C_clearSparsestBlock_32 : decode prog_1_method_42_code 32 = .ok (.bipush 32, 2) := by decide +kernel
theorem d_C_clearSparsestBlock_34 : decode prog_1_method_42_code 34 = .ok (.if_icmp .ge 41, 3) := by decide +kernel
theorem d_C_clearSparsestBlock_37 : decode prog_1_method_42_code 37 = .ok (.aload_n 0, 1) := by decide +kernel
theorem d_C_clearSparsestBlock_38 : decode prog_1_method_42_code 38 = .ok (.getfield 18, 3) := by decide +kernel
theorem d_C_clearSparsestBlock_41 : decode prog_1_method_42_code 41 = .ok (.iload_n 1, 1) := by decide +kernel
theorem d_C_clearSparsestBlock_42 : decode prog_1_method_42_code 42 = .ok (.bipush 32, 2) := by decide +kernel
theorem d_C_clearSparsestBlock_44 : decode prog_1_method_42_code 44 = .ok (.imul, 1) := by decide +kernel
theorem d_C_clearSparsestBlock_45 : decode prog_1_method_42_code 45 = .ok (.iload_n 2, 1) := by decide +kernel
theorem d_C_clearSparsestBlock_46 : decode prog_1_method_42_code 46 = .ok (.iadd, 1) := by decide +kernel
theorem d_C_clearSparsestBlock_47 : decode prog_1_method_42_code 47 = .ok (.aaload, 1) := by decide +kernel
theorem d_C_clearSparsestBlock_48 : decode prog_1_method_42_code 48 = .ok (.astore_n 3, 1) := by decide +kernel
theorem d_C_clearSparsestBlock_49 : decode prog_1_method_42_code 49 = .ok (.aload_n 3, 1) := by decide +kernel
theorem d_C_clearSparsestBlock_50 : decode prog_1_method_42_code 50 = .ok (.ifnull 19, 3) := by decide +kernel
theorem d_C_clearSparsestBlock_53 : decode prog_1_method_42_code 53 = .ok (.aload_n 0, 1) := by decide +kernel
theorem d_C_clearSparsestBlock_54 : decode prog_1_method_42_code 54 = .ok (.aload_n 3, 1) := by decide +kernel
theorem d_C_clearSparsestBlock_55 : decode prog_1_method_42_code 55 = .ok (.aload_n 0, 1) := by decide +kernel
theorem d_C_clearSparsestBlock_56 : decode prog_1_method_42_code 56 = .ok (.getfield 24, 3) := by decide +kernel
theorem d_C_clearSparsestBlock_59 : decode prog_1_method_42_code 59 = .ok (.aload_n 3, 1) := by decide +kernel
theorem d_C_clearSparsestBlock_60 : decode prog_1_method_42_code 60 = .ok (.getfield 160, 3) := by decide +kernel
theorem d_C_clearSparsestBlock_63 : decode prog_1_method_42_code 63 = .ok (.invokevirtual 52, 3) := by decide +kernel
theorem d_C_clearSparsestBlock_66 : decode prog_1_method_42_code 66 = .ok (.invokevirtual 244, 3) := by decide +kernel
theorem d_C_clearSparsestBlock_69 : decode prog_1_method_42_code 69 = .ok (.iinc 2 1, 3) := by decide +kernel
theorem d_C_clearSparsestBlock_72 : decode prog_1_method_42_code 72 = .ok (.goto (-41), 3) := by decide +kernel
theorem d_C_clearSparsestBlock_75 : decode prog_1_method_42_code 75 = .ok (.aload_n 0, 1) := by decide +kernel
theorem d_C_clearSparsestBlock_76 : decode prog_1_method_42_code 76 = .ok (.getfield 24, 3) := by decide +kernel
theorem d_C_clearSparsestBlock_79 : decode prog_1_method_42_code 79 = .ok (.iconst (-1), 1) := by decide +kernel
theorem d_C_clearSparsestBlock_80 : decode prog_1_method_42_code 80 = .ok (.invokevirtual 278, 3) := by decide +kernel
theorem d_C_clearSparsestBlock_83 : decode prog_1_method_42_code 83 = .ok (.aload_n 0, 1) := by decide +kernel
theorem d_C_clearSparsestBlock_84 : decode prog_1_method_42_code 84 = .ok (.getfield 24, 3) := by decide +kernel
theorem d_C_clearSparsestBlock_87 : decode prog_1_method_42_code 87 = .ok (.invokevirtual 250, 3) := by decide +kernel
theorem d_C_clearSparsestBlock_90 : decode prog_1_method_42_code 90 = .ok (.return_, 1) := by decide +kernel
theorem d_C_pause_0 : decode prog_1_method_9_code 0 = .ok (.aload_n 0, 1) := by decide +kernel
theorem d_C_pause_1 : decode prog_1_method_9_code 1 = .ok (.dup, 1) := by decide +kernel
theorem d_C_pause_2 : decode prog_1_method_9_code 2 = .ok (.getfield 113, 3) := by decide +kernel
theorem d_C_pause_5 : decode prog_1_method_9_code 5 = .ok (.iconst 1, 1) := by decide +kernel
theorem d_C_pause_6 : decode prog_1_method_9_code 6 = .ok (.iadd, 1) := by decide +kernel
theorem d_C_pause_7 : decode prog_1_method_9_code 7 = .ok (.putfield 113, 3) := by decide +kernel
theorem d_C_pause_10 : decode prog_1_method_9_code 10 = .ok (.aload_n 0, 1) := by decide +kernel
theorem d_C_pause_11 : decode prog_1_method_9_code 11 = .ok (.ldc 116, 2) := by decide +kernel
theorem d_C_pause_13 : decode prog_1_method_9_code 13 = .ok (.invokevirtual 91, 3) := by decide +kernel
theorem d_C_pause_16 : decode prog_1_method_9_code 16 = .ok (.aload_n 0, 1) := by decide +kernel
theorem d_C_pause_17 : decode prog_1_method_9_code 17 = .ok (.getfield 24, 3) := by decide +kernel
theorem d_C_pause_20 : decode prog_1_method_9_code 20 = .ok (.invokevirtual 117, 3) := by decide +kernel
theorem d_C_pause_23 : decode prog_1_method_9_code 23 = .ok (.aload_n 0, 1) := by decide +kernel
theorem d_C_pause_24 : decode prog_1_method_9_code 24 = .ok (.invokevirtual 120, 3) := by decide +kernel
theorem d_C_pause_27 : decode prog_1_method_9_code 27 = .ok (.istore_n 2, 1) := by decide +kernel
theorem d_C_pause_28 : decode prog_1_method_9_code 28 = .ok (.aload_n 0, 1) := by decide +kernel
theorem d_C_pause_29 : decode prog_1_method_9_code 29 = .ok (.invokevirtual 123, 3) := by decide +kernel
theorem d_C_pause_32 : decode prog_1_method_9_code 32 = .ok (.aload_n 0, 1) := by decide +kernel
theorem d_C_pause_33 : decode prog_1_method_9_code 33 = .ok (.invokevirtual 126, 3) := by decide +kernel
theorem d_C_pause_36 : decode prog_1_method_9_code 36 = .ok (.aload_n 0, 1) := by decide +kernel
theorem d_C_pause_37 : decode prog_1_method_9_code 37 = .ok (.getfield 99, 3) := by decide +kernel
theorem d_C_pause_40 : decode prog_1_method_9_code 40 = .ok (.ifCond .eq 31, 3) := by decide +kernel
theorem d_C_pause_43 : decode prog_1_method_9_code 43 = .ok (.aload_n 0, 1) := by decide +kernel
theorem d_C_pause_44 : decode prog_1_method_9_code 44 = .ok (.invokevirtual 109, 3) := by decide +kernel
theorem d_C_pause_47 : decode prog_1_method_9_code 47 = .ok (.ifCond .ne 24, 3) := by decide +kernel
theorem d_C_pause_50 : decode prog_1_method_9_code 50 = .ok (.aload_n 0, 1) := by decide +kernel
theorem d_C_pause_51 : decode prog_1_method_9_code 51 = .ok (.invokevirtual 129, 3) := by decide +kernel
theorem d_C_pause_54 : decode prog_1_method_9_code 54 = .ok (.aload_n 0, 1) := by decide +kernel
theorem d_C_pause_55 : decode prog_1_method_9_code 55 = .ok (.invokevirtual 132, 3) := by decide +kernel
theorem d_C_pause_58 : decode prog_1_method_9_code 58 = .ok (.aload_n 0, 1) := by decide +kernel
theorem d_C_pause_59 : decode prog_1_method_9_code 59 = .ok (.invokevirtual 135, 3) := by decide +kernel
theorem d_C_pause_62 : decode prog_1_method_9_code 62 = .ok (.aload_n 0, 1) := by decide +kernel
theorem d_C_pause_63 : decode prog_1_method_9_code 63 = .ok (.invokevirtual 138, 3) := by decide +kernel
theorem d_C_pause_66 : decode prog_1_method_9_code 66 = .ok (.aload_n 0, 1) := by decide +kernel
theorem d_C_pause_67 : decode prog_1_method_9_code 67 = .ok (.iconst 0, 1) := by decide +kernel
theorem d_C_pause_68 : decode prog_1_method_9_code 68 = .ok (.putfield 99, 3) := by decide +kernel
theorem d_C_pause_71 : decode prog_1_method_9_code 71 = .ok (.iload_n 1, 1) := by decide +kernel
theorem d_C_pause_72 : decode prog_1_method_9_code 72 = .ok (.ifCond .eq 14, 3) := by decide +kernel
theorem d_C_pause_75 : decode prog_1_method_9_code 75 = .ok (.aload_n 0, 1) := by decide +kernel
theorem d_C_pause_76 : decode prog_1_method_9_code 76 = .ok (.getfield 99, 3) := by decide +kernel
theorem d_C_pause_79 : decode prog_1_method_9_code 79 = .ok (.ifCond .ne 7, 3) := by decide +kernel
theorem d_C_pause_82 : decode prog_1_method_9_code 82 = .ok (.aload_n 0, 1) := by decide +kernel
theorem d_C_pause_83 : decode prog_1_method_9_code 83 = .ok (.invokevirtual 141, 3) := by decide +kernel
theorem d_C_pause_86 : decode prog_1_method_9_code 86 = .ok (.aload_n 0, 1) := by decide +kernel
theorem d_C_pause_87 : decode prog_1_method_9_code 87 = .ok (.getfield 24, 3) := by decide +kernel
theorem d_C_pause_90 : decode prog_1_method_9_code 90 = .ok (.invokevirtual 117, 3) := by decide +kernel
theorem d_C_pause_93 : decode prog_1_method_9_code 93 = .ok (.aload_n 0, 1) := by decide +kernel
theorem d_C_pause_94 : decode prog_1_method_9_code 94 = .ok (.invokevirtual 144, 3) := by decide +kernel
theorem d_C_pause_97 : decode prog_1_method_9_code 97 = .ok (.iload_n 2, 1) := by decide +kernel
theorem d_C_pause_98 : decode prog_1_method_9_code 98 = .ok (.ireturn, 1) := by decide +kernel
theorem d_C_blacken_0 : decode prog_1_method_30_code 0 = .ok (.aload_n 0, 1) := by decide +kernel
theorem d_C_blacken_1 : decode prog_1_method_30_code 1 = .ok (.iconst 2, 1) := by decide +kernel
theorem d_C_blacken_2 : decode prog_1_method_30_code 2 = .ok (.putfield 169, 3) := by decide +kernel
theorem d_C_blacken_5 : decode prog_1_method_30_code 5 = .ok (.aload_n 0, 1) := by decide +kernel
theorem d_C_blacken_6 : decode prog_1_method_30_code 6 = .ok (.getfield 73, 3) := by decide +kernel
theorem d_C_blacken_9 : decode prog_1_method_30_code 9 = .ok (.astore_n 1, 1) := by decide +kernel
theorem d_C_blacken_10 : decode prog_1_method_30_code 10 = .ok (.aload_n 1, 1) := by decide +kernel
theorem d_C_blacken_11 : decode prog_1_method_30_code 11 = .ok (.arraylength, 1) := by decide +kernel
theorem d_C_blacken_12 : decode prog_1_method_30_code 12 = .ok (.istore_n 2, 1) := by decide +kernel
theorem d_C_blacken_13 : decode prog_1_method_30_code 13 = .ok (.iconst 0, 1) := by decide +kernel
theorem d_C_blacken_14 : decode prog_1_method_30_code 14 = .ok (.istore_n 3, 1) := by decide +kernel
theorem d_C_blacken_15 : decode prog_1_method_30_code 15 = .ok (.iload_n 3, 1) := by decide +kernel
theorem d_C_blacken_16 : decode prog_1_method_30_code 16 = .ok (.iload_n 2, 1) := by decide +kernel
theorem d_C_blacken_17 : decode prog_1_method_30_code 17 = .ok (.if_icmp .ge 24, 3) := by decide +kernel
theorem d_C_blacken_20 : decode prog_1_method_30_code 20 = .ok (.aload_n 1, 1) := by decide +kernel
theorem d_C_blacken_21 : decode prog_1_method_30_code 21 = .ok (.iload_n 3, 1) := by decide +kernel
theorem d_C_blacken_22 : decode prog_1_method_30_code 22 = .ok (.aaload, 1) := by decide +kernel
theorem d_C_blacken_23 : decode prog_1_method_30_code 23 = .ok (.astore 4, 2) := by decide +kernel
theorem d_C_blacken_25 : decode prog_1_method_30_code 25 = .ok (.aload 4, 2) := by decide +kernel
theorem d_C_blacken_27 : decode prog_1_method_30_code 27 = .ok (.ifnull 8, 3) := by decide +kernel
theorem d_C_blacken_30 : decode prog_1_method_30_code 30 = .ok (.aload 4, 2) := by decide +kernel
theorem d_C_blacken_32 : decode prog_1_method_30_code 32 = .ok (.invokevirtual 220, 3) := by decide +kernel
theorem d_C_blacken_35 : decode prog_1_method_30_code 35 = .ok (.iinc 3 1, 3) := by decide +kernel
theorem d_C_blacken_38 : decode prog_1_method_30_code 38 = .ok (.goto (-23), 3) := by decide +kernel
theorem d_C_blacken_41 : decode prog_1_method_30_code 41 = .ok (.return_, 1) := by decide +kernel
theorem d_C_blackenFirstGrey_0 : decode prog_1_method_29_code 0 = .ok (.aload_n 0, 1) := by decide +kernel
theorem d_C_blackenFirstGrey_1 : decode prog_1_method_29_code 1 = .ok (.getfield 18, 3) := by decide +kernel
theorem d_C_blackenFirstGrey_4 : decode prog_1_method_29_code 4 = .ok (.astore_n 1, 1) := by decide +kernel
theorem d_C_blackenFirstGrey_5 : decode prog_1_method_29_code 5 = .ok (.aload_n 1, 1) := by decide +kernel
theorem d_C_blackenFirstGrey_6 : decode prog_1_method_29_code 6 = .ok (.arraylength, 1) := by decide +kernel
theorem d_C_blackenFirstGrey_7 : decode prog_1_method_29_code 7 = .ok (.istore_n 2, 1) := by decide +kernel
theorem d_C_blackenFirstGrey_8 : decode prog_1_method_29_code 8 = .ok (.iconst 0, 1) := by decide +kernel
theorem d_C_blackenFirstGrey_9 : decode prog_1_method_29_code 9 = .ok (.istore_n 3, 1) := by decide +kernel
theorem d_C_blackenFirstGrey_10 : decode prog_1_method_29_code 10 = .ok (.iload_n 3, 1) := by decide +kernel
theorem d_C_blackenFirstGrey_11 : decode prog_1_method_29_code 11 = .ok (.iload_n 2, 1) := by decide +kernel
theorem d_C_blackenFirstGrey_12 : decode prog_1_method_29_code 12 = .ok (.if_icmp .ge 35, 3) := by decide +kernel
theorem d_C_blackenFirstGrey_15 : decode prog_1_method_29_code 15 = .ok (.aload_n 1, 1) := by decide +kernel
theorem d_C_blackenFirstGrey_16 : decode prog_1_method_29_code 16 = .ok (.iload_n 3, 1) := by decide +kernel
theorem d_C_blackenFirstGrey_17 : decode prog_1_method_29_code 17 = .ok (.aaload, 1) := by decide +kernel
theorem d_C_blackenFirstGrey_18 : decode prog_1_method_29_code 18 = .ok (.astore 4, 2) := by decide +kernel
theorem d_C_blackenFirstGrey_20 : decode prog_1_method_29_code 20 = .ok (.aload 4, 2) := by decide +kernel
theorem d_C_blackenFirstGrey_22 : decode prog_1_method_29_code 22 = .ok (.ifnull 19, 3) := by decide +kernel
theorem d_C_blackenFirstGrey_25 : decode prog_1_method_29_code 25 = .ok (.aload 4, 2) := by decide +kernel
theorem d_C_blackenFirstGrey_27 : decode prog_1_method_29_code 27 = .ok (.getfield 169, 3) := by decide +kernel
theorem d_C_blackenFirstGrey_30 : decode prog_1_method_29_code 30 = .ok (.iconst 1, 1) := by decide +kernel
theorem d_C_blackenFirstGrey_31 : decode prog_1_method_29_code 31 = .ok (.if_icmp .ne 10, 3) := by decide +kernel
theorem d_C_blackenFirstGrey_34 : decode prog_1_method_29_code 34 = .ok (.aload 4, 2) := by decide +kernel
theorem d_C_blackenFirstGrey_36 : decode prog_1_method_29_code 36 = .ok (.invokestatic 226, 3) := by decide +kernel
theorem d_C_blackenFirstGrey_39 : decode prog_1_method_29_code 39 = .ok (.iconst 1, 1) := by decide +kernel
end
section
/-! Instructions (written by a program) -/
theorem d_C_blackenFirstGrey_40 : decode prog_1_method_29_code 40 = .ok (.ireturn, 1) := by decide +kernel
theorem d_C_blackenFirstGrey_41 : decode prog_1_method_29_code 41 = .ok (.iinc 3 1, 3) := by decide +kernel
theorem d_C_blackenFirstGrey_44 : decode prog_1_method_29_code 44 = .ok (.goto (-34), 3) := by decide +kernel
theorem d_C_blackenFirstGrey_47 : decode prog_1_method_29_code 47 = .ok (.iconst 0, 1) := by decide +kernel
theorem d_C_blackenFirstGrey_48 : decode prog_1_method_29_code 48 = .ok (.ireturn, 1) := by decide +kernel
theorem d_C_stepUpTo_0 : decode prog_1_method_28_code 0 = .ok (.iconst 1, 1) := by decide +kernel
theorem d_C_stepUpTo_1 : decode prog_1_method_28_code 1 = .ok (.istore_n 2, 1) := by decide +kernel
theorem d_C_stepUpTo_2 : decode prog_1_method_28_code 2 = .ok (.iconst 0, 1) := by decide +kernel
theorem d_C_stepUpTo_3 : decode prog_1_method_28_code 3 = .ok (.istore_n 3, 1) := by decide +kernel
theorem d_C_stepUpTo_4 : decode prog_1_method_28_code 4 = .ok (.iload_n 3, 1) := by decide +kernel
theorem d_C_stepUpTo_5 : decode prog_1_method_28_code 5 = .ok (.iload_n 1, 1) := by decide +kernel
theorem d_C_stepUpTo_6 : decode prog_1_method_28_code 6 = .ok (.if_icmp .ge 18, 3) := by decide +kernel
theorem d_C_stepUpTo_9 : decode prog_1_method_28_code 9 = .ok (.iload_n 2, 1) := by decide +kernel
theorem d_C_stepUpTo_10 : decode prog_1_method_28_code 10 = .ok (.ifCond .eq 14, 3) := by decide +kernel
theorem d_C_stepUpTo_13 : decode prog_1_method_28_code 13 = .ok (.aload_n 0, 1) := by decide +kernel
theorem d_C_stepUpTo_14 : decode prog_1_method_28_code 14 = .ok (.invokevirtual 223, 3) := by decide +kernel
theorem d_C_stepUpTo_17 : decode prog_1_method_28_code 17 = .ok (.istore_n 2, 1) := by decide +kernel
theorem d_C_stepUpTo_18 : decode prog_1_method_28_code 18 = .ok (.iinc 3 1, 3) := by decide +kernel
theorem d_C_stepUpTo_21 : decode prog_1_method_28_code 21 = .ok (.goto (-17), 3) := by decide +kernel
theorem d_C_stepUpTo_24 : decode prog_1_method_28_code 24 = .ok (.return_, 1) := by decide +kernel
theorem d_C_collect_0 : decode prog_1_method_25_code 0 = .ok (.aload_n 0, 1) := by decide +kernel
theorem d_C_collect_1 : decode prog_1_method_25_code 1 = .ok (.iconst 1, 1) := by decide +kernel
theorem d_C_collect_2 : decode prog_1_method_25_code 2 = .ok (.invokevirtual 203, 3) := by decide +kernel
theorem d_C_collect_5 : decode prog_1_method_25_code 5 = .ok (.pop, 1) := by decide +kernel
theorem d_C_collect_6 : decode prog_1_method_25_code 6 = .ok (.aload_n 0, 1) := by decide +kernel
theorem d_C_collect_7 : decode prog_1_method_25_code 7 = .ok (.ldc 116, 2) := by decide +kernel
theorem d_C_collect_9 : decode prog_1_method_25_code 9 = .ok (.invokevirtual 106, 3) := by decide +kernel
theorem d_C_collect_12 : decode prog_1_method_25_code 12 = .ok (.aload_n 0, 1) := by decide +kernel
theorem d_C_collect_13 : decode prog_1_method_25_code 13 = .ok (.iconst 0, 1) := by decide +kernel
theorem d_C_collect_14 : decode prog_1_method_25_code 14 = .ok (.invokevirtual 203, 3) := by decide +kernel
theorem d_C_collect_17 : decode prog_1_method_25_code 17 = .ok (.pop, 1) := by decide +kernel
theorem d_C_collect_18 : decode prog_1_method_25_code 18 = .ok (.aload_n 0, 1) := by decide +kernel
theorem d_C_collect_19 : decode prog_1_method_25_code 19 = .ok (.ldc 116, 2) := by decide +kernel
theorem d_C_collect_21 : decode prog_1_method_25_code 21 = .ok (.invokevirtual 91, 3) := by decide +kernel
theorem d_C_collect_24 : decode prog_1_method_25_code 24 = .ok (.return_, 1) := by decide +kernel
theorem d_C_allocate_0 : decode prog_1_method_2_code 0 = .ok (.iload_n 1, 1) := by decide +kernel
theorem d_C_allocate_1 : decode prog_1_method_2_code 1 = .ok (.invokestatic 45, 3) := by decide +kernel
theorem d_C_allocate_4 : decode prog_1_method_2_code 4 = .ok (.ifCond .eq 14, 3) := by decide +kernel
theorem d_C_allocate_7 : decode prog_1_method_2_code 7 = .ok (.iload_n 2, 1) := by decide +kernel
theorem d_C_allocate_8 : decode prog_1_method_2_code 8 = .ok (.iconst 1, 1) := by decide +kernel
theorem d_C_allocate_9 : decode prog_1_method_2_code 9 = .ok (.if_icmp .lt 9, 3) := by decide +kernel
theorem d_C_allocate_12 : decode prog_1_method_2_code 12 = .ok (.iload_n 2, 1) := by decide +kernel
theorem d_C_allocate_13 : decode prog_1_method_2_code 13 = .ok (.bipush 12, 2) := by decide +kernel
theorem d_C_allocate_15 : decode prog_1_method_2_code 15 = .ok (.if_icmp .le 11, 3) := by decide +kernel
theorem d_C_allocate_18 : decode prog_1_method_2_code 18 = .ok (.new 49, 3) := by decide +kernel
theorem d_C_allocate_21 : decode prog_1_method_2_code 21 = .ok (.dup, 1) := by decide +kernel
theorem d_C_allocate_22 : decode prog_1_method_2_code 22 = .ok (.invokespecial 51, 3) := by decide +kernel
theorem d_C_allocate_25 : decode prog_1_method_2_code 25 = .ok (.athrow, 1) := by decide +kernel
theorem d_C_allocate_26 : decode prog_1_method_2_code 26 = .ok (.aload_n 0, 1) := by decide +kernel
theorem d_C_allocate_27 : decode prog_1_method_2_code 27 = .ok (.getfield 24, 3) := by decide +kernel
theorem d_C_allocate_30 : decode prog_1_method_2_code 30 = .ok (.iload_n 2, 1) := by decide +kernel
theorem d_C_allocate_31 : decode prog_1_method_2_code 31 = .ok (.invokevirtual 52, 3) := by decide +kernel
theorem d_C_allocate_34 : decode prog_1_method_2_code 34 = .ok (.istore 4, 2) := by decide +kernel
theorem d_C_allocate_36 : decode prog_1_method_2_code 36 = .ok (.iload 4, 2) := by decide +kernel
theorem d_C_allocate_38 : decode prog_1_method_2_code 38 = .ok (.iconst (-1), 1) := by decide +kernel
theorem d_C_allocate_39 : decode prog_1_method_2_code 39 = .ok (.if_icmp .ne 17, 3) := by decide +kernel
theorem d_C_allocate_42 : decode prog_1_method_2_code 42 = .ok (.aload_n 0, 1) := by decide +kernel
theorem d_C_allocate_43 : decode prog_1_method_2_code 43 = .ok (.invokevirtual 56, 3) := by decide +kernel
theorem d_C_allocate_46 : decode prog_1_method_2_code 46 = .ok (.aload_n 0, 1) := by decide +kernel
theorem d_C_allocate_47 : decode prog_1_method_2_code 47 = .ok (.getfield 24, 3) := by decide +kernel
theorem d_C_allocate_50 : decode prog_1_method_2_code 50 = .ok (.iload_n 2, 1) := by decide +kernel
theorem d_C_allocate_51 : decode prog_1_method_2_code 51 = .ok (.invokevirtual 52, 3) := by decide +kernel
theorem d_C_allocate_54 : decode prog_1_method_2_code 54 = .ok (.istore 4, 2) := by decide +kernel
theorem d_C_allocate_56 : decode prog_1_method_2_code 56 = .ok (.iload 4, 2) := by decide +kernel
theorem d_C_allocate_58 : decode prog_1_method_2_code 58 = .ok (.iconst (-1), 1) := by decide +kernel
theorem d_C_allocate_59 : decode prog_1_method_2_code 59 = .ok (.if_icmp .ne 11, 3) := by decide +kernel
theorem d_C_allocate_62 : decode prog_1_method_2_code 62 = .ok (.new 59, 3) := by decide +kernel
theorem d_C_allocate_65 : decode prog_1_method_2_code 65 = .ok (.dup, 1) := by decide +kernel
theorem d_C_allocate_66 : decode prog_1_method_2_code 66 = .ok (.invokespecial 61, 3) := by decide +kernel
theorem d_C_allocate_69 : decode prog_1_method_2_code 69 = .ok (.athrow, 1) := by decide +kernel
theorem d_C_allocate_70 : decode prog_1_method_2_code 70 = .ok (.new 9, 3) := by decide +kernel
theorem d_C_allocate_73 : decode prog_1_method_2_code 73 = .ok (.dup, 1) := by decide +kernel
theorem d_C_allocate_74 : decode prog_1_method_2_code 74 = .ok (.iload_n 2, 1) := by decide +kernel
theorem d_C_allocate_75 : decode prog_1_method_2_code 75 = .ok (.iload_n 3, 1) := by decide +kernel
theorem d_C_allocate_76 : decode prog_1_method_2_code 76 = .ok (.invokespecial 62, 3) := by decide +kernel
theorem d_C_allocate_79 : decode prog_1_method_2_code 79 = .ok (.astore 5, 2) := by decide +kernel
theorem d_C_allocate_81 : decode prog_1_method_2_code 81 = .ok (.aload_n 0, 1) := by decide +kernel
theorem d_C_allocate_82 : decode prog_1_method_2_code 82 = .ok (.aload 5, 2) := by decide +kernel
theorem d_C_allocate_84 : decode prog_1_method_2_code 84 = .ok (.iload 4, 2) := by decide +kernel
theorem d_C_allocate_86 : decode prog_1_method_2_code 86 = .ok (.invokevirtual 65, 3) := by decide +kernel
theorem d_C_allocate_89 : decode prog_1_method_2_code 89 = .ok (.aload_n 0, 1) := by decide +kernel
theorem d_C_allocate_90 : decode prog_1_method_2_code 90 = .ok (.getfield 11, 3) := by decide +kernel
theorem d_C_allocate_93 : decode prog_1_method_2_code 93 = .ok (.iload_n 1, 1) := by decide +kernel
theorem d_C_allocate_94 : decode prog_1_method_2_code 94 = .ok (.aload 5, 2) := by decide +kernel
theorem d_C_allocate_96 : decode prog_1_method_2_code 96 = .ok (.aastore, 1) := by decide +kernel
theorem d_C_allocate_97 : decode prog_1_method_2_code 97 = .ok (.iload 4, 2) := by decide +kernel
theorem d_C_allocate_99 : decode prog_1_method_2_code 99 = .ok (.ireturn, 1) := by decide +kernel
theorem d_C_drop_0 : decode prog_1_method_3_code 0 = .ok (.iload_n 1, 1) := by decide +kernel
theorem d_C_drop_1 : decode prog_1_method_3_code 1 = .ok (.invokestatic 45, 3) := by decide +kernel
theorem d_C_drop_4 : decode prog_1_method_3_code 4 = .ok (.ifCond .ne 11, 3) := by decide +kernel
theorem d_C_drop_7 : decode prog_1_method_3_code 7 = .ok (.new 49, 3) := by decide +kernel
theorem d_C_drop_10 : decode prog_1_method_3_code 10 = .ok (.dup, 1) := by decide +kernel
theorem d_C_drop_11 : decode prog_1_method_3_code 11 = .ok (.invokespecial 51, 3) := by decide +kernel
theorem d_C_drop_14 : decode prog_1_method_3_code 14 = .ok (.athrow, 1) := by decide +kernel
theorem d_C_drop_15 : decode prog_1_method_3_code 15 = .ok (.aload_n 0, 1) := by decide +kernel
theorem d_C_drop_16 : decode prog_1_method_3_code 16 = .ok (.getfield 11, 3) := by decide +kernel
theorem d_C_drop_19 : decode prog_1_method_3_code 19 = .ok (.iload_n 1, 1) := by decide +kernel
theorem d_C_drop_20 : decode prog_1_method_3_code 20 = .ok (.aconst_null, 1) := by decide +kernel
theorem d_C_drop_21 : decode prog_1_method_3_code 21 = .ok (.aastore, 1) := by decide +kernel
theorem d_C_drop_22 : decode prog_1_method_3_code 22 = .ok (.return_, 1) := by decide +kernel
theorem d_C_copy_0 : decode prog_1_method_4_code 0 = .ok (.iload_n 1, 1) := by decide +kernel
theorem d_C_copy_1 : decode prog_1_method_4_code 1 = .ok (.invokestatic 45, 3) := by decide +kernel
theorem d_C_copy_4 : decode prog_1_method_4_code 4 = .ok (.ifCond .eq 10, 3) := by decide +kernel
theorem d_C_copy_7 : decode prog_1_method_4_code 7 = .ok (.iload_n 2, 1) := by decide +kernel
theorem d_C_copy_8 : decode prog_1_method_4_code 8 = .ok (.invokestatic 45, 3) := by decide +kernel
theorem d_C_copy_11 : decode prog_1_method_4_code 11 = .ok (.ifCond .ne 11, 3) := by decide +kernel
theorem d_C_copy_14 : decode prog_1_method_4_code 14 = .ok (.new 49, 3) := by decide +kernel
theorem d_C_copy_17 : decode prog_1_method_4_code 17 = .ok (.dup, 1) := by decide +kernel
theorem d_C_copy_18 : decode prog_1_method_4_code 18 = .ok (.invokespecial 51, 3) := by decide +kernel
theorem d_C_copy_21 : decode prog_1_method_4_code 21 = .ok (.athrow, 1) := by decide +kernel
theorem d_C_copy_22 : decode prog_1_method_4_code 22 = .ok (.aload_n 0, 1) := by decide +kernel
theorem d_C_copy_23 : decode prog_1_method_4_code 23 = .ok (.getfield 11, 3) := by decide +kernel
theorem d_C_copy_26 : decode prog_1_method_4_code 26 = .ok (.iload_n 1, 1) := by decide +kernel
theorem d_C_copy_27 : decode prog_1_method_4_code 27 = .ok (.aload_n 0, 1) := by decide +kernel
theorem d_C_copy_28 : decode prog_1_method_4_code 28 = .ok (.getfield 11, 3) := by decide +kernel
theorem d_C_copy_31 : decode prog_1_method_4_code 31 = .ok (.iload_n 2, 1) := by decide +kernel
theorem d_C_copy_32 : decode prog_1_method_4_code 32 = .ok (.aaload, 1) := by decide +kernel
theorem d_C_copy_33 : decode prog_1_method_4_code 33 = .ok (.aastore, 1) := by decide +kernel
theorem d_C_copy_34 : decode prog_1_method_4_code 34 = .ok (.return_, 1) := by decide +kernel
theorem d_I_hasField_0 : decode prog_2_method_2_code 0 = .ok (.iload_n 1, 1) := by decide +kernel
theorem d_I_hasField_1 : decode prog_2_method_2_code 1 = .ok (.ifCond .lt 15, 3) := by decide +kernel
theorem d_I_hasField_4 : decode prog_2_method_2_code 4 = .ok (.iload_n 1, 1) := by decide +kernel
theorem d_I_hasField_5 : decode prog_2_method_2_code 5 = .ok (.aload_n 0, 1) := by decide +kernel
theorem d_I_hasField_6 : decode prog_2_method_2_code 6 = .ok (.getfield 9, 3) := by decide +kernel
theorem d_I_hasField_9 : decode prog_2_method_2_code 9 = .ok (.if_icmp .ge 7, 3) := by decide +kernel
theorem d_I_hasField_12 : decode prog_2_method_2_code 12 = .ok (.iconst 1, 1) := by decide +kernel
theorem d_I_hasField_13 : decode prog_2_method_2_code 13 = .ok (.goto 4, 3) := by decide +kernel
theorem d_I_hasField_16 : decode prog_2_method_2_code 16 = .ok (.iconst 0, 1) := by decide +kernel
theorem d_I_hasField_17 : decode prog_2_method_2_code 17 = .ok (.ireturn, 1) := by decide +kernel
theorem d_C_itemWithField_0 : decode prog_1_method_16_code 0 = .ok (.iload_n 1, 1) := by decide +kernel
theorem d_C_itemWithField_1 : decode prog_1_method_16_code 1 = .ok (.invokestatic 45, 3) := by decide +kernel
theorem d_C_itemWithField_4 : decode prog_1_method_16_code 4 = .ok (.ifCond .eq 10, 3) := by decide +kernel
theorem d_C_itemWithField_7 : decode prog_1_method_16_code 7 = .ok (.iload_n 3, 1) := by decide +kernel
theorem d_C_itemWithField_8 : decode prog_1_method_16_code 8 = .ok (.invokestatic 45, 3) := by decide +kernel
theorem d_C_itemWithField_11 : decode prog_1_method_16_code 11 = .ok (.ifCond .ne 11, 3) := by decide +kernel
theorem d_C_itemWithField_14 : decode prog_1_method_16_code 14 = .ok (.new 49, 3) := by decide +kernel
theorem d_C_itemWithField_17 : decode prog_1_method_16_code 17 = .ok (.dup, 1) := by decide +kernel
theorem d_C_itemWithField_18 : decode prog_1_method_16_code 18 = .ok (.invokespecial 51, 3) := by decide +kernel
theorem d_C_itemWithField_21 : decode prog_1_method_16_code 21 = .ok (.athrow, 1) := by decide +kernel
theorem d_C_itemWithField_22 : decode prog_1_method_16_code 22 = .ok (.aload_n 0, 1) := by decide +kernel
theorem d_C_itemWithField_23 : decode prog_1_method_16_code 23 = .ok (.getfield 11, 3) := by decide +kernel
theorem d_C_itemWithField_26 : decode prog_1_method_16_code 26 = .ok (.iload_n 1, 1) := by decide +kernel
theorem d_C_itemWithField_27 : decode prog_1_method_16_code 27 = .ok (.aaload, 1) := by decide +kernel
theorem d_C_itemWithField_28 : decode prog_1_method_16_code 28 = .ok (.astore 4, 2) := by decide +kernel
theorem d_C_itemWithField_30 : decode prog_1_method_16_code 30 = .ok (.aload 4, 2) := by decide +kernel
theorem d_C_itemWithField_32 : decode prog_1_method_16_code 32 = .ok (.ifnonnull 11, 3) := by decide +kernel
theorem d_C_itemWithField_35 : decode prog_1_method_16_code 35 = .ok (.new 103, 3) := by decide +kernel
theorem d_C_itemWithField_38 : decode prog_1_method_16_code 38 = .ok (.dup, 1) := by decide +kernel
theorem d_C_itemWithField_39 : decode prog_1_method_16_code 39 = .ok (.invokespecial 105, 3) := by decide +kernel
theorem d_C_itemWithField_42 : decode prog_1_method_16_code 42 = .ok (.athrow, 1) := by decide +kernel
theorem d_C_itemWithField_43 : decode prog_1_method_16_code 43 = .ok (.aload 4, 2) := by decide +kernel
theorem d_C_itemWithField_45 : decode prog_1_method_16_code 45 = .ok (.iload_n 2, 1) := by decide +kernel
theorem d_C_itemWithField_46 : decode prog_1_method_16_code 46 = .ok (.invokevirtual 154, 3) := by decide +kernel
theorem d_C_itemWithField_49 : decode prog_1_method_16_code 49 = .ok (.ifCond .ne 11, 3) := by decide +kernel
theorem d_C_itemWithField_52 : decode prog_1_method_16_code 52 = .ok (.new 157, 3) := by decide +kernel
theorem d_C_itemWithField_55 : decode prog_1_method_16_code 55 = .ok (.dup, 1) := by decide +kernel
theorem d_C_itemWithField_56 : decode prog_1_method_16_code 56 = .ok (.invokespecial 159, 3) := by decide +kernel
theorem d_C_itemWithField_59 : decode prog_1_method_16_code 59 = .ok (.athrow, 1) := by decide +kernel
theorem d_C_itemWithField_60 : decode prog_1_method_16_code 60 = .ok (.aload 4, 2) := by decide +kernel
theorem d_C_itemWithField_62 : decode prog_1_method_16_code 62 = .ok (.areturn, 1) := by decide +kernel
theorem d_C_addressOf_0 : decode prog_1_method_17_code 0 = .ok (.aload_n 0, 1) := by decide +kernel
theorem d_C_addressOf_1 : decode prog_1_method_17_code 1 = .ok (.ifnonnull 7, 3) := by decide +kernel
theorem d_C_addressOf_4 : decode prog_1_method_17_code 4 = .ok (.iconst (-1), 1) := by decide +kernel
theorem d_C_addressOf_5 : decode prog_1_method_17_code 5 = .ok (.goto 7, 3) := by decide +kernel
theorem d_C_addressOf_8 : decode prog_1_method_17_code 8 = .ok (.aload_n 0, 1) := by decide +kernel
theorem d_C_addressOf_9 : decode prog_1_method_17_code 9 = .ok (.getfield 191, 3) := by decide +kernel
theorem d_C_addressOf_12 : decode prog_1_method_17_code 12 = .ok (.ireturn, 1) := by decide +kernel
theorem d_C_load_0 : decode prog_1_method_5_code 0 = .ok (.aload_n 0, 1) := by decide +kernel
theorem d_C_load_1 : decode prog_1_method_5_code 1 = .ok (.iload_n 2, 1) := by decide +kernel
theorem d_C_load_2 : decode prog_1_method_5_code 2 = .ok (.iload_n 3, 1) := by decide +kernel
theorem d_C_load_3 : decode prog_1_method_5_code 3 = .ok (.iload_n 1, 1) := by decide +kernel
theorem d_C_load_4 : decode prog_1_method_5_code 4 = .ok (.invokevirtual 69, 3) := by decide +kernel
theorem d_C_load_7 : decode prog_1_method_5_code 7 = .ok (.astore 4, 2) := by decide +kernel
theorem d_C_load_9 : decode prog_1_method_5_code 9 = .ok (.aload_n 0, 1) := by decide +kernel
theorem d_C_load_10 : decode prog_1_method_5_code 10 = .ok (.getfield 11, 3) := by decide +kernel
theorem d_C_load_13 : decode prog_1_method_5_code 13 = .ok (.iload_n 1, 1) := by decide +kernel
theorem d_C_load_14 : decode prog_1_method_5_code 14 = .ok (.aload 4, 2) := by decide +kernel
theorem d_C_load_16 : decode prog_1_method_5_code 16 = .ok (.getfield 73, 3) := by decide +kernel
theorem d_C_load_19 : decode prog_1_method_5_code 19 = .ok (.iload_n 3, 1) := by decide +kernel
theorem d_C_load_20 : decode prog_1_method_5_code 20 = .ok (.aaload, 1) := by decide +kernel
theorem d_C_load_21 : decode prog_1_method_5_code 21 = .ok (.aastore, 1) := by decide +kernel
theorem d_C_load_22 : decode prog_1_method_5_code 22 = .ok (.aload_n 0, 1) := by decide +kernel
theorem d_C_load_23 : decode prog_1_method_5_code 23 = .ok (.getfield 11, 3) := by decide +kernel
theorem d_C_load_26 : decode prog_1_method_5_code 26 = .ok (.iload_n 1, 1) := by decide +kernel
theorem d_C_load_27 : decode prog_1_method_5_code 27 = .ok (.aaload, 1) := by decide +kernel
theorem d_C_load_28 : decode prog_1_method_5_code 28 = .ok (.invokestatic 76, 3) := by decide +kernel
theorem d_C_load_31 : decode prog_1_method_5_code 31 = .ok (.ireturn, 1) := by decide +kernel
theorem d_G_add_0 : decode prog_3_method_2_code 0 = .ok (.aload_n 0, 1) := by decide +kernel
theorem d_G_add_1 : decode prog_3_method_2_code 1 = .ok (.getfield 24, 3) := by decide +kernel
theorem d_G_add_4 : decode prog_3_method_2_code 4 = .ok (.sipush 128, 3) := by decide +kernel
theorem d_G_add_7 : decode prog_3_method_2_code 7 = .ok (.if_icmp .ge 55, 3) := by decide +kernel
theorem d_G_add_10 : decode prog_3_method_2_code 10 = .ok (.aload_n 0, 1) := by decide +kernel
theorem d_G_add_11 : decode prog_3_method_2_code 11 = .ok (.getfield 11, 3) := by decide +kernel
theorem d_G_add_14 : decode prog_3_method_2_code 14 = .ok (.aload_n 0, 1) := by decide +kernel
theorem d_G_add_15 : decode prog_3_method_2_code 15 = .ok (.getfield 24, 3) := by decide +kernel
theorem d_G_add_18 : decode prog_3_method_2_code 18 = .ok (.aload_n 1, 1) := by decide +kernel
theorem d_G_add_19 : decode prog_3_method_2_code 19 = .ok (.aastore, 1) := by decide +kernel
theorem d_G_add_20 : decode prog_3_method_2_code 20 = .ok (.aload_n 0, 1) := by decide +kernel
theorem d_G_add_21 : decode prog_3_method_2_code 21 = .ok (.getfield 17, 3) := by decide +kernel
theorem d_G_add_24 : decode prog_3_method_2_code 24 = .ok (.aload_n 0, 1) := by decide +kernel
theorem d_G_add_25 : decode prog_3_method_2_code 25 = .ok (.getfield 24, 3) := by decide +kernel
theorem d_G_add_28 : decode prog_3_method_2_code 28 = .ok (.iload_n 2, 1) := by decide +kernel
theorem d_G_add_29 : decode prog_3_method_2_code 29 = .ok (.iastore, 1) := by decide +kernel
theorem d_G_add_30 : decode prog_3_method_2_code 30 = .ok (.aload_n 0, 1) := by decide +kernel
theorem d_G_add_31 : decode prog_3_method_2_code 31 = .ok (.getfield 21, 3) := by decide +kernel
theorem d_G_add_34 : decode prog_3_method_2_code 34 = .ok (.aload_n 0, 1) := by decide +kernel
theorem d_G_add_35 : decode prog_3_method_2_code 35 = .ok (.getfield 24, 3) := by decide +kernel
theorem d_G_add_38 : decode prog_3_method_2_code 38 = .ok (.aload_n 1, 1) := by decide +kernel
theorem d_G_add_39 : decode prog_3_method_2_code 39 = .ok (.getfield 28, 3) := by decide +kernel
theorem d_G_add_42 : decode prog_3_method_2_code 42 = .ok (.iload_n 2, 1) := by decide +kernel
theorem d_G_add_43 : decode prog_3_method_2_code 43 = .ok (.aaload, 1) := by decide +kernel
theorem d_G_add_44 : decode prog_3_method_2_code 44 = .ok (.aastore, 1) := by decide +kernel
theorem d_G_add_45 : decode prog_3_method_2_code 45 = .ok (.aload_n 1, 1) := by decide +kernel
theorem d_G_add_46 : decode prog_3_method_2_code 46 = .ok (.getfield 31, 3) := by decide +kernel
theorem d_G_add_49 : decode prog_3_method_2_code 49 = .ok (.iload_n 2, 1) := by decide +kernel
theorem d_G_add_50 : decode prog_3_method_2_code 50 = .ok (.iconst 1, 1) := by decide +kernel
theorem d_G_add_51 : decode prog_3_method_2_code 51 = .ok (.bastore, 1) := by decide +kernel
theorem d_G_add_52 : decode prog_3_method_2_code 52 = .ok (.aload_n 0, 1) := by decide +kernel
theorem d_G_add_53 : decode prog_3_method_2_code 53 = .ok (.dup, 1) := by decide +kernel
theorem d_G_add_54 : decode prog_3_method_2_code 54 = .ok (.getfield 24, 3) := by decide +kernel
theorem d_G_add_57 : decode prog_3_method_2_code 57 = .ok (.iconst 1, 1) := by decide +kernel
theorem d_G_add_58 : decode prog_3_method_2_code 58 = .ok (.iadd, 1) := by decide +kernel
theorem d_G_add_59 : decode prog_3_method_2_code 59 = .ok (.putfield 24, 3) := by decide +kernel
theorem d_G_add_62 : decode prog_3_method_2_code 62 = .ok (.return_, 1) := by decide +kernel
theorem d_C_store_0 : decode prog_1_method_6_code 0 = .ok (.aload_n 0, 1) := by decide +kernel
theorem d_C_store_1 : decode prog_1_method_6_code 1 = .ok (.iload_n 1, 1) := by decide +kernel
theorem d_C_store_2 : decode prog_1_method_6_code 2 = .ok (.iload_n 2, 1) := by decide +kernel
theorem d_C_store_3 : decode prog_1_method_6_code 3 = .ok (.iload_n 3, 1) := by decide +kernel
theorem d_C_store_4 : decode prog_1_method_6_code 4 = .ok (.invokevirtual 69, 3) := by decide +kernel
theorem d_C_store_7 : decode prog_1_method_6_code 7 = .ok (.astore 4, 2) := by decide +kernel
theorem d_C_store_9 : decode prog_1_method_6_code 9 = .ok (.aload 4, 2) := by decide +kernel
theorem d_C_store_11 : decode prog_1_method_6_code 11 = .ok (.invokevirtual 80, 3) := by decide +kernel
theorem d_C_store_14 : decode prog_1_method_6_code 14 = .ok (.ifCond .eq 23, 3) := by decide +kernel
theorem d_C_store_17 : decode prog_1_method_6_code 17 = .ok (.aload 4, 2) := by decide +kernel
theorem d_C_store_19 : decode prog_1_method_6_code 19 = .ok (.getfield 84, 3) := by decide +kernel
theorem d_C_store_22 : decode prog_1_method_6_code 22 = .ok (.iload_n 2, 1) := by decide +kernel
theorem d_C_store_23 : decode prog_1_method_6_code 23 = .ok (.baload, 1) := by decide +kernel
theorem d_C_store_24 : decode prog_1_method_6_code 24 = .ok (.ifCond .ne 13, 3) := by decide +kernel
theorem d_C_store_27 : decode prog_1_method_6_code 27 = .ok (.aload_n 0, 1) := by decide +kernel
theorem d_C_store_28 : decode prog_1_method_6_code 28 = .ok (.getfield 31, 3) := by decide +kernel
theorem d_C_store_31 : decode prog_1_method_6_code 31 = .ok (.aload 4, 2) := by decide +kernel
theorem d_C_store_33 : decode prog_1_method_6_code 33 = .ok (.iload_n 2, 1) := by decide +kernel
theorem d_C_store_34 : decode prog_1_method_6_code 34 = .ok (.invokevirtual 88, 3) := by decide +kernel
theorem d_C_store_37 : decode prog_1_method_6_code 37 = .ok (.aload 4, 2) := by decide +kernel
theorem d_C_store_39 : decode prog_1_method_6_code 39 = .ok (.getfield 73, 3) := by decide +kernel
theorem d_C_store_42 : decode prog_1_method_6_code 42 = .ok (.iload_n 2, 1) := by decide +kernel
theorem d_C_store_43 : decode prog_1_method_6_code 43 = .ok (.aload_n 0, 1) := by decide +kernel
theorem d_C_store_44 : decode prog_1_method_6_code 44 = .ok (.getfield 11, 3) := by decide +kernel
theorem d_C_store_47 : decode prog_1_method_6_code 47 = .ok (.iload_n 3, 1) := by decide +kernel
theorem d_C_store_48 : decode prog_1_method_6_code 48 = .ok (.aaload, 1) := by decide +kernel
theorem d_C_store_49 : decode prog_1_method_6_code 49 = .ok (.aastore, 1) := by decide +kernel
theorem d_C_store_50 : decode prog_1_method_6_code 50 = .ok (.return_, 1) := by decide +kernel
theorem d_C_drain_0 : decode prog_1_method_7_code 0 = .ok (.iload_n 1, 1) := by decide +kernel
theorem d_C_drain_1 : decode prog_1_method_7_code 1 = .ok (.ifCond .ge 11, 3) := by decide +kernel
theorem d_C_drain_4 : decode prog_1_method_7_code 4 = .ok (.new 49, 3) := by decide +kernel
theorem d_C_drain_7 : decode prog_1_method_7_code 7 = .ok (.dup, 1) := by decide +kernel
theorem d_C_drain_8 : decode prog_1_method_7_code 8 = .ok (.invokespecial 51, 3) := by decide +kernel
theorem d_C_drain_11 : decode prog_1_method_7_code 11 = .ok (.athrow, 1) := by decide +kernel
theorem d_C_drain_12 : decode prog_1_method_7_code 12 = .ok (.aload_n 0, 1) := by decide +kernel
theorem d_C_drain_13 : decode prog_1_method_7_code 13 = .ok (.iload_n 1, 1) := by decide +kernel
theorem d_C_drain_14 : decode prog_1_method_7_code 14 = .ok (.invokevirtual 91, 3) := by decide +kernel
theorem d_C_drain_17 : decode prog_1_method_7_code 17 = .ok (.aload_n 0, 1) := by decide +kernel
theorem d_C_drain_18 : decode prog_1_method_7_code 18 = .ok (.getfield 38, 3) := by decide +kernel
theorem d_C_drain_21 : decode prog_1_method_7_code 21 = .ok (.getfield 95, 3) := by decide +kernel
theorem d_C_drain_24 : decode prog_1_method_7_code 24 = .ok (.ireturn, 1) := by decide +kernel
theorem d_C_trace_0 : decode prog_1_method_8_code 0 = .ok (.iload_n 1, 1) := by decide +kernel
theorem d_C_trace_1 : decode prog_1_method_8_code 1 = .ok (.ifCond .ge 11, 3) := by decide +kernel
theorem d_C_trace_4 : decode prog_1_method_8_code 4 = .ok (.new 49, 3) := by decide +kernel
theorem d_C_trace_7 : decode prog_1_method_8_code 7 = .ok (.dup, 1) := by decide +kernel
theorem d_C_trace_8 : decode prog_1_method_8_code 8 = .ok (.invokespecial 51, 3) := by decide +kernel
theorem d_C_trace_11 : decode prog_1_method_8_code 11 = .ok (.athrow, 1) := by decide +kernel
theorem d_C_trace_12 : decode prog_1_method_8_code 12 = .ok (.aload_n 0, 1) := by decide +kernel
theorem d_C_trace_13 : decode prog_1_method_8_code 13 = .ok (.getfield 99, 3) := by decide +kernel
theorem d_C_trace_16 : decode prog_1_method_8_code 16 = .ok (.ifCond .ne 11, 3) := by decide +kernel
theorem d_C_trace_19 : decode prog_1_method_8_code 19 = .ok (.new 103, 3) := by decide +kernel
theorem d_C_trace_22 : decode prog_1_method_8_code 22 = .ok (.dup, 1) := by decide +kernel
theorem d_C_trace_23 : decode prog_1_method_8_code 23 = .ok (.invokespecial 105, 3) := by decide +kernel
theorem d_C_trace_26 : decode prog_1_method_8_code 26 = .ok (.athrow, 1) := by decide +kernel
theorem d_C_trace_27 : decode prog_1_method_8_code 27 = .ok (.aload_n 0, 1) := by decide +kernel
theorem d_C_trace_28 : decode prog_1_method_8_code 28 = .ok (.iload_n 1, 1) := by decide +kernel
theorem d_C_trace_29 : decode prog_1_method_8_code 29 = .ok (.invokevirtual 106, 3) := by decide +kernel
theorem d_C_trace_32 : decode prog_1_method_8_code 32 = .ok (.aload_n 0, 1) := by decide +kernel
theorem d_C_trace_33 : decode prog_1_method_8_code 33 = .ok (.invokevirtual 109, 3) := by decide +kernel
theorem d_C_trace_36 : decode prog_1_method_8_code 36 = .ok (.ireturn, 1) := by decide +kernel
theorem d_C_root_0 : decode prog_1_method_10_code 0 = .ok (.iload_n 1, 1) := by decide +kernel
theorem d_C_root_1 : decode prog_1_method_10_code 1 = .ok (.invokestatic 45, 3) := by decide +kernel
theorem d_C_root_4 : decode prog_1_method_10_code 4 = .ok (.ifCond .ne 11, 3) := by decide +kernel
theorem d_C_root_7 : decode prog_1_method_10_code 7 = .ok (.new 49, 3) := by decide +kernel
theorem d_C_root_10 : decode prog_1_method_10_code 10 = .ok (.dup, 1) := by decide +kernel
theorem d_C_root_11 : decode prog_1_method_10_code 11 = .ok (.invokespecial 51, 3) := by decide +kernel
theorem d_C_root_14 : decode prog_1_method_10_code 14 = .ok (.athrow, 1) := by decide +kernel
theorem d_C_root_15 : decode prog_1_method_10_code 15 = .ok (.aload_n 0, 1) := by decide +kernel
theorem d_C_root_16 : decode prog_1_method_10_code 16 = .ok (.getfield 11, 3) := by decide +kernel
theorem d_C_root_19 : decode prog_1_method_10_code 19 = .ok (.iload_n 1, 1) := by decide +kernel
theorem d_C_root_20 : decode prog_1_method_10_code 20 = .ok (.aaload, 1) := by decide +kernel
theorem d_C_root_21 : decode prog_1_method_10_code 21 = .ok (.invokestatic 76, 3) := by decide +kernel
theorem d_C_root_24 : decode prog_1_method_10_code 24 = .ok (.ireturn, 1) := by decide +kernel
theorem d_C_itemOrNull_0 : decode prog_1_method_18_code 0 = .ok (.iload_n 1, 1) := by decide +kernel
theorem d_C_itemOrNull_1 : decode prog_1_method_18_code 1 = .ok (.ifCond .lt 19, 3) := by decide +kernel
theorem d_C_itemOrNull_4 : decode prog_1_method_18_code 4 = .ok (.iload_n 1, 1) := by decide +kernel
theorem d_C_itemOrNull_5 : decode prog_1_method_18_code 5 = .ok (.sipush 128, 3) := by decide +kernel
theorem d_C_itemOrNull_8 : decode prog_1_method_18_code 8 = .ok (.if_icmp .ge 12, 3) := by decide +kernel
theorem d_C_itemOrNull_11 : decode prog_1_method_18_code 11 = .ok (.aload_n 0, 1) := by decide +kernel
theorem d_C_itemOrNull_12 : decode prog_1_method_18_code 12 = .ok (.getfield 18, 3) := by decide +kernel
theorem d_C_itemOrNull_15 : decode prog_1_method_18_code 15 = .ok (.iload_n 1, 1) := by decide +kernel
theorem d_C_itemOrNull_16 : decode prog_1_method_18_code 16 = .ok (.aaload, 1) := by decide +kernel
theorem d_C_itemOrNull_17 : decode prog_1_method_18_code 17 = .ok (.goto 4, 3) := by decide +kernel
theorem d_C_itemOrNull_20 : decode prog_1_method_18_code 20 = .ok (.aconst_null, 1) := by decide +kernel
theorem d_C_itemOrNull_21 : decode prog_1_method_18_code 21 = .ok (.areturn, 1) := by decide +kernel
theorem d_C_field_0 : decode prog_1_method_11_code 0 = .ok (.aload_n 0, 1) := by decide +kernel
theorem d_C_field_1 : decode prog_1_method_11_code 1 = .ok (.iload_n 1, 1) := by decide +kernel
theorem d_C_field_2 : decode prog_1_method_11_code 2 = .ok (.invokevirtual 147, 3) := by decide +kernel
theorem d_C_field_5 : decode prog_1_method_11_code 5 = .ok (.astore_n 3, 1) := by decide +kernel
theorem d_C_field_6 : decode prog_1_method_11_code 6 = .ok (.aload_n 3, 1) := by decide +kernel
theorem d_C_field_7 : decode prog_1_method_11_code 7 = .ok (.ifnonnull 11, 3) := by decide +kernel
theorem d_C_field_10 : decode prog_1_method_11_code 10 = .ok (.new 151, 3) := by decide +kernel
theorem d_C_field_13 : decode prog_1_method_11_code 13 = .ok (.dup, 1) := by decide +kernel
theorem d_C_field_14 : decode prog_1_method_11_code 14 = .ok (.invokespecial 153, 3) := by decide +kernel
theorem d_C_field_17 : decode prog_1_method_11_code 17 = .ok (.athrow, 1) := by decide +kernel
theorem d_C_field_18 : decode prog_1_method_11_code 18 = .ok (.aload_n 3, 1) := by decide +kernel
theorem d_C_field_19 : decode prog_1_method_11_code 19 = .ok (.iload_n 2, 1) := by decide +kernel
theorem d_C_field_20 : decode prog_1_method_11_code 20 = .ok (.invokevirtual 154, 3) := by decide +kernel
theorem d_C_field_23 : decode prog_1_method_11_code 23 = .ok (.ifCond .ne 11, 3) := by decide +kernel
theorem d_C_field_26 : decode prog_1_method_11_code 26 = .ok (.new 157, 3) := by decide +kernel
theorem d_C_field_29 : decode prog_1_method_11_code 29 = .ok (.dup, 1) := by decide +kernel
theorem d_C_field_30 : decode prog_1_method_11_code 30 = .ok (.invokespecial 159, 3) := by decide +kernel
theorem d_C_field_33 : decode prog_1_method_11_code 33 = .ok (.athrow, 1) := by decide +kernel
theorem d_C_field_34 : decode prog_1_method_11_code 34 = .ok (.aload_n 3, 1) := by decide +kernel
theorem d_C_field_35 : decode prog_1_method_11_code 35 = .ok (.getfield 73, 3) := by decide +kernel
theorem d_C_field_38 : decode prog_1_method_11_code 38 = .ok (.iload_n 2, 1) := by decide +kernel
theorem d_C_field_39 : decode prog_1_method_11_code 39 = .ok (.aaload, 1) := by decide +kernel
theorem d_C_field_40 : decode prog_1_method_11_code 40 = .ok (.invokestatic 76, 3) := by decide +kernel
theorem d_C_field_43 : decode prog_1_method_11_code 43 = .ok (.ireturn, 1) := by decide +kernel
theorem d_C_object_0 : decode prog_1_method_12_code 0 = .ok (.iload_n 2, 1) := by decide +kernel
theorem d_C_object_1 : decode prog_1_method_12_code 1 = .ok (.ifCond .lt 8, 3) := by decide +kernel
theorem d_C_object_4 : decode prog_1_method_12_code 4 = .ok (.iload_n 2, 1) := by decide +kernel
theorem d_C_object_5 : decode prog_1_method_12_code 5 = .ok (.iconst 3, 1) := by decide +kernel
theorem d_C_object_6 : decode prog_1_method_12_code 6 = .ok (.if_icmp .le 11, 3) := by decide +kernel
theorem d_C_object_9 : decode prog_1_method_12_code 9 = .ok (.new 49, 3) := by decide +kernel
theorem d_C_object_12 : decode prog_1_method_12_code 12 = .ok (.dup, 1) := by decide +kernel
theorem d_C_object_13 : decode prog_1_method_12_code 13 = .ok (.invokespecial 51, 3) := by decide +kernel
theorem d_C_object_16 : decode prog_1_method_12_code 16 = .ok (.athrow, 1) := by decide +kernel
theorem d_C_object_17 : decode prog_1_method_12_code 17 = .ok (.aload_n 0, 1) := by decide +kernel
theorem d_C_object_18 : decode prog_1_method_12_code 18 = .ok (.iload_n 1, 1) := by decide +kernel
theorem d_C_object_19 : decode prog_1_method_12_code 19 = .ok (.invokevirtual 147, 3) := by decide +kernel
theorem d_C_object_22 : decode prog_1_method_12_code 22 = .ok (.astore_n 3, 1) := by decide +kernel
theorem d_C_object_23 : decode prog_1_method_12_code 23 = .ok (.aload_n 3, 1) := by decide +kernel
theorem d_C_object_24 : decode prog_1_method_12_code 24 = .ok (.ifnonnull 11, 3) := by decide +kernel
theorem d_C_object_27 : decode prog_1_method_12_code 27 = .ok (.new 151, 3) := by decide +kernel
theorem d_C_object_30 : decode prog_1_method_12_code 30 = .ok (.dup, 1) := by decide +kernel
theorem d_C_object_31 : decode prog_1_method_12_code 31 = .ok (.invokespecial 153, 3) := by decide +kernel
theorem d_C_object_34 : decode prog_1_method_12_code 34 = .ok (.athrow, 1) := by decide +kernel
theorem d_C_object_35 : decode prog_1_method_12_code 35 = .ok (.iload_n 2, 1) := by decide +kernel
theorem d_C_object_36 : decode prog_1_method_12_code 36 = .ok (.tableswitch 43 0 2 #[28, 33, 38], 28) := by decide +kernel
theorem d_C_object_64 : decode prog_1_method_12_code 64 = .ok (.aload_n 3, 1) := by decide +kernel
theorem d_C_object_65 : decode prog_1_method_12_code 65 = .ok (.getfield 160, 3) := by decide +kernel
theorem d_C_object_68 : decode prog_1_method_12_code 68 = .ok (.ireturn, 1) := by decide +kernel
theorem d_C_object_69 : decode prog_1_method_12_code 69 = .ok (.aload_n 3, 1) := by decide +kernel
theorem d_C_object_70 : decode prog_1_method_12_code 70 = .ok (.getfield 163, 3) := by decide +kernel
theorem d_C_object_73 : decode prog_1_method_12_code 73 = .ok (.ireturn, 1) := by decide +kernel
theorem d_C_object_74 : decode prog_1_method_12_code 74 = .ok (.aload_n 3, 1) := by decide +kernel
theorem d_C_object_75 : decode prog_1_method_12_code 75 = .ok (.getfield 166, 3) := by decide +kernel
theorem d_C_object_78 : decode prog_1_method_12_code 78 = .ok (.ireturn, 1) := by decide +kernel
theorem d_C_object_79 : decode prog_1_method_12_code 79 = .ok (.aload_n 3, 1) := by decide +kernel
theorem d_C_object_80 : decode prog_1_method_12_code 80 = .ok (.getfield 169, 3) := by decide +kernel
theorem d_C_object_83 : decode prog_1_method_12_code 83 = .ok (.ireturn, 1) := by decide +kernel
theorem d_C_line_0 : decode prog_1_method_13_code 0 = .ok (.iload_n 1, 1) := by decide +kernel
theorem d_C_line_1 : decode prog_1_method_13_code 1 = .ok (.ifCond .lt 9, 3) := by decide +kernel
theorem d_C_line_4 : decode prog_1_method_13_code 4 = .ok (.iload_n 1, 1) := by decide +kernel
theorem d_C_line_5 : decode prog_1_method_13_code 5 = .ok (.bipush 32, 2) := by decide +kernel
theorem d_C_line_7 : decode prog_1_method_13_code 7 = .ok (.if_icmp .lt 11, 3) := by decide +kernel
theorem d_C_line_10 : decode prog_1_method_13_code 10 = .ok (.new 157, 3) := by decide +kernel
theorem d_C_line_13 : decode prog_1_method_13_code 13 = .ok (.dup, 1) := by decide +kernel
theorem d_C_line_14 : decode prog_1_method_13_code 14 = .ok (.invokespecial 159, 3) := by decide +kernel
theorem d_C_line_17 : decode prog_1_method_13_code 17 = .ok (.athrow, 1) := by decide +kernel
theorem d_C_line_18 : decode prog_1_method_13_code 18 = .ok (.aload_n 0, 1) := by decide +kernel
theorem d_C_line_19 : decode prog_1_method_13_code 19 = .ok (.getfield 24, 3) := by decide +kernel
theorem d_C_line_22 : decode prog_1_method_13_code 22 = .ok (.iload_n 1, 1) := by decide +kernel
theorem d_C_line_23 : decode prog_1_method_13_code 23 = .ok (.invokevirtual 172, 3) := by decide +kernel
theorem d_C_line_26 : decode prog_1_method_13_code 26 = .ok (.ifCond .eq 5, 3) := by decide +kernel
theorem d_C_line_29 : decode prog_1_method_13_code 29 = .ok (.iconst 1, 1) := by decide +kernel
theorem d_C_line_30 : decode prog_1_method_13_code 30 = .ok (.ireturn, 1) := by decide +kernel
theorem d_C_line_31 : decode prog_1_method_13_code 31 = .ok (.aload_n 0, 1) := by decide +kernel
theorem d_C_line_32 : decode prog_1_method_13_code 32 = .ok (.getfield 24, 3) := by decide +kernel
theorem d_C_line_35 : decode prog_1_method_13_code 35 = .ok (.iload_n 1, 1) := by decide +kernel
theorem d_C_line_36 : decode prog_1_method_13_code 36 = .ok (.invokevirtual 175, 3) := by decide +kernel
theorem d_C_line_39 : decode prog_1_method_13_code 39 = .ok (.ifCond .eq 7, 3) := by decide +kernel
theorem d_C_line_42 : decode prog_1_method_13_code 42 = .ok (.iconst 0, 1) := by decide +kernel
theorem d_C_line_43 : decode prog_1_method_13_code 43 = .ok (.goto 4, 3) := by decide +kernel
theorem d_C_line_46 : decode prog_1_method_13_code 46 = .ok (.iconst 2, 1) := by decide +kernel
theorem d_C_line_47 : decode prog_1_method_13_code 47 = .ok (.ireturn, 1) := by decide +kernel
theorem d_C_countItems_0 : decode prog_1_method_19_code 0 = .ok (.iconst 0, 1) := by decide +kernel
theorem d_C_countItems_1 : decode prog_1_method_19_code 1 = .ok (.istore_n 1, 1) := by decide +kernel
theorem d_C_countItems_2 : decode prog_1_method_19_code 2 = .ok (.aload_n 0, 1) := by decide +kernel
theorem d_C_countItems_3 : decode prog_1_method_19_code 3 = .ok (.getfield 18, 3) := by decide +kernel
theorem d_C_countItems_6 : decode prog_1_method_19_code 6 = .ok (.astore_n 2, 1) := by decide +kernel
theorem d_C_countItems_7 : decode prog_1_method_19_code 7 = .ok (.aload_n 2, 1) := by decide +kernel
theorem d_C_countItems_8 : decode prog_1_method_19_code 8 = .ok (.arraylength, 1) := by decide +kernel
theorem d_C_countItems_9 : decode prog_1_method_19_code 9 = .ok (.istore_n 3, 1) := by decide +kernel
theorem d_C_countItems_10 : decode prog_1_method_19_code 10 = .ok (.iconst 0, 1) := by decide +kernel
theorem d_C_countItems_11 : decode prog_1_method_19_code 11 = .ok (.istore 4, 2) := by decide +kernel
theorem d_C_countItems_13 : decode prog_1_method_19_code 13 = .ok (.iload 4, 2) := by decide +kernel
theorem d_C_countItems_15 : decode prog_1_method_19_code 15 = .ok (.iload_n 3, 1) := by decide +kernel
theorem d_C_countItems_16 : decode prog_1_method_19_code 16 = .ok (.if_icmp .ge 23, 3) := by decide +kernel
theorem d_C_countItems_19 : decode prog_1_method_19_code 19 = .ok (.aload_n 2, 1) := by decide +kernel
theorem d_C_countItems_20 : decode prog_1_method_19_code 20 = .ok (.iload 4, 2) := by decide +kernel
theorem d_C_countItems_22 : decode prog_1_method_19_code 22 = .ok (.aaload, 1) := by decide +kernel
theorem d_C_countItems_23 : decode prog_1_method_19_code 23 = .ok (.astore 5, 2) := by decide +kernel
theorem d_C_countItems_25 : decode prog_1_method_19_code 25 = .ok (.aload 5, 2) := by decide +kernel
theorem d_C_countItems_27 : decode prog_1_method_19_code 27 = .ok (.ifnull 6, 3) := by decide +kernel
theorem d_C_countItems_30 : decode prog_1_method_19_code 30 = .ok (.iinc 1 1, 3) := by decide +kernel
theorem d_C_countItems_33 : decode prog_1_method_19_code 33 = .ok (.iinc 4 1, 3) := by decide +kernel
theorem d_C_countItems_36 : decode prog_1_method_19_code 36 = .ok (.goto (-23), 3) := by decide +kernel
theorem d_C_countItems_39 : decode prog_1_method_19_code 39 = .ok (.iload_n 1, 1) := by decide +kernel
theorem d_C_countItems_40 : decode prog_1_method_19_code 40 = .ok (.ireturn, 1) := by decide +kernel
theorem d_C_countYoung_0 : decode prog_1_method_20_code 0 = .ok (.iconst 0, 1) := by decide +kernel
theorem d_C_countYoung_1 : decode prog_1_method_20_code 1 = .ok (.istore_n 1, 1) := by decide +kernel
theorem d_C_countYoung_2 : decode prog_1_method_20_code 2 = .ok (.aload_n 0, 1) := by decide +kernel
theorem d_C_countYoung_3 : decode prog_1_method_20_code 3 = .ok (.getfield 18, 3) := by decide +kernel
theorem d_C_countYoung_6 : decode prog_1_method_20_code 6 = .ok (.astore_n 2, 1) := by decide +kernel
theorem d_C_countYoung_7 : decode prog_1_method_20_code 7 = .ok (.aload_n 2, 1) := by decide +kernel
theorem d_C_countYoung_8 : decode prog_1_method_20_code 8 = .ok (.arraylength, 1) := by decide +kernel
theorem d_C_countYoung_9 : decode prog_1_method_20_code 9 = .ok (.istore_n 3, 1) := by decide +kernel
theorem d_C_countYoung_10 : decode prog_1_method_20_code 10 = .ok (.iconst 0, 1) := by decide +kernel
theorem d_C_countYoung_11 : decode prog_1_method_20_code 11 = .ok (.istore 4, 2) := by decide +kernel
theorem d_C_countYoung_13 : decode prog_1_method_20_code 13 = .ok (.iload 4, 2) := by decide +kernel
theorem d_C_countYoung_15 : decode prog_1_method_20_code 15 = .ok (.iload_n 3, 1) := by decide +kernel
theorem d_C_countYoung_16 : decode prog_1_method_20_code 16 = .ok (.if_icmp .ge 31, 3) := by decide +kernel
theorem d_C_countYoung_19 : decode prog_1_method_20_code 19 = .ok (.aload_n 2, 1) := by decide +kernel
theorem d_C_countYoung_20 : decode prog_1_method_20_code 20 = .ok (.iload 4, 2) := by decide +kernel
theorem d_C_countYoung_22 : decode prog_1_method_20_code 22 = .ok (.aaload, 1) := by decide +kernel
theorem d_C_countYoung_23 : decode prog_1_method_20_code 23 = .ok (.astore 5, 2) := by decide +kernel
theorem d_C_countYoung_25 : decode prog_1_method_20_code 25 = .ok (.aload 5, 2) := by decide +kernel
theorem d_C_countYoung_27 : decode prog_1_method_20_code 27 = .ok (.ifnull 14, 3) := by decide +kernel
theorem d_C_countYoung_30 : decode prog_1_method_20_code 30 = .ok (.aload 5, 2) := by decide +kernel
theorem d_C_countYoung_32 : decode prog_1_method_20_code 32 = .ok (.invokevirtual 80, 3) := by decide +kernel
theorem d_C_countYoung_35 : decode prog_1_method_20_code 35 = .ok (.ifCond .ne 6, 3) := by decide +kernel
theorem d_C_countYoung_38 : decode prog_1_method_20_code 38 = .ok (.iinc 1 1, 3) := by decide +kernel
theorem d_C_countYoung_41 : decode prog_1_method_20_code 41 = .ok (.iinc 4 1, 3) := by decide +kernel
theorem d_C_countYoung_44 : decode prog_1_method_20_code 44 = .ok (.goto (-31), 3) := by decide +kernel
theorem d_C_countYoung_47 : decode prog_1_method_20_code 47 = .ok (.iload_n 1, 1) := by decide +kernel
theorem d_C_countYoung_48 : decode prog_1_method_20_code 48 = .ok (.ireturn, 1) := by decide +kernel
theorem d_C_figure_0 : decode prog_1_method_14_code 0 = .ok (.iload_n 1, 1) := by decide +kernel
theorem d_C_figure_1 : decode prog_1_method_14_code 1 = .ok (.tableswitch 110 0 8 #[51, 56, 61, 69, 77, 82, 95, 100, 105], 51) := by decide +kernel
theorem d_C_figure_52 : decode prog_1_method_14_code 52 = .ok (.aload_n 0, 1) := by decide +kernel
theorem d_C_figure_53 : decode prog_1_method_14_code 53 = .ok (.invokevirtual 178, 3) := by decide +kernel
theorem d_C_figure_56 : decode prog_1_method_14_code 56 = .ok (.ireturn, 1) := by decide +kernel
theorem d_C_figure_57 : decode prog_1_method_14_code 57 = .ok (.aload_n 0, 1) := by decide +kernel
theorem d_C_figure_58 : decode prog_1_method_14_code 58 = .ok (.invokevirtual 181, 3) := by decide +kernel
theorem d_C_figure_61 : decode prog_1_method_14_code 61 = .ok (.ireturn, 1) := by decide +kernel
theorem d_C_figure_62 : decode prog_1_method_14_code 62 = .ok (.aload_n 0, 1) := by decide +kernel
theorem d_C_figure_63 : decode prog_1_method_14_code 63 = .ok (.getfield 38, 3) := by decide +kernel
theorem d_C_figure_66 : decode prog_1_method_14_code 66 = .ok (.getfield 95, 3) := by decide +kernel
theorem d_C_figure_69 : decode prog_1_method_14_code 69 = .ok (.ireturn, 1) := by decide +kernel
theorem d_C_figure_70 : decode prog_1_method_14_code 70 = .ok (.aload_n 0, 1) := by decide +kernel
theorem d_C_figure_71 : decode prog_1_method_14_code 71 = .ok (.getfield 31, 3) := by decide +kernel
theorem d_C_figure_74 : decode prog_1_method_14_code 74 = .ok (.getfield 184, 3) := by decide +kernel
theorem d_C_figure_77 : decode prog_1_method_14_code 77 = .ok (.ireturn, 1) := by decide +kernel
theorem d_C_figure_78 : decode prog_1_method_14_code 78 = .ok (.aload_n 0, 1) := by decide +kernel
theorem d_C_figure_79 : decode prog_1_method_14_code 79 = .ok (.getfield 113, 3) := by decide +kernel
theorem d_C_figure_82 : decode prog_1_method_14_code 82 = .ok (.ireturn, 1) := by decide +kernel
theorem d_C_figure_83 : decode prog_1_method_14_code 83 = .ok (.aload_n 0, 1) := by decide +kernel
theorem d_C_figure_84 : decode prog_1_method_14_code 84 = .ok (.getfield 99, 3) := by decide +kernel
theorem d_C_figure_87 : decode prog_1_method_14_code 87 = .ok (.ifCond .eq 7, 3) := by decide +kernel
theorem d_C_figure_90 : decode prog_1_method_14_code 90 = .ok (.iconst 1, 1) := by decide +kernel
theorem d_C_figure_91 : decode prog_1_method_14_code 91 = .ok (.goto 4, 3) := by decide +kernel
theorem d_C_figure_94 : decode prog_1_method_14_code 94 = .ok (.iconst 0, 1) := by decide +kernel
theorem d_C_figure_95 : decode prog_1_method_14_code 95 = .ok (.ireturn, 1) := by decide +kernel
theorem d_C_figure_96 : decode prog_1_method_14_code 96 = .ok (.aload_n 0, 1) := by decide +kernel
theorem d_C_figure_97 : decode prog_1_method_14_code 97 = .ok (.getfield 185, 3) := by decide +kernel
theorem d_C_figure_100 : decode prog_1_method_14_code 100 = .ok (.ireturn, 1) := by decide +kernel
theorem d_C_figure_101 : decode prog_1_method_14_code 101 = .ok (.aload_n 0, 1) := by decide +kernel
theorem d_C_figure_102 : decode prog_1_method_14_code 102 = .ok (.getfield 188, 3) := by decide +kernel
theorem d_C_figure_105 : decode prog_1_method_14_code 105 = .ok (.ireturn, 1) := by decide +kernel
theorem d_C_figure_106 : decode prog_1_method_14_code 106 = .ok (.aload_n 0, 1) := by decide +kernel
theorem d_C_figure_107 : decode prog_1_method_14_code 107 = .ok (.invokevirtual 109, 3) := by decide +kernel
theorem d_C_figure_110 : decode prog_1_method_14_code 110 = .ok (.ireturn, 1) := by decide +kernel
theorem d_C_figure_111 : decode prog_1_method_14_code 111 = .ok (.new 49, 3) := by decide +kernel
theorem d_C_figure_114 : decode prog_1_method_14_code 114 = .ok (.dup, 1) := by decide +kernel
theorem d_C_figure_115 : decode prog_1_method_14_code 115 = .ok (.invokespecial 51, 3) := by decide +kernel
theorem d_C_figure_118 : decode prog_1_method_14_code 118 = .ok (.athrow, 1) := by decide +kernel
theorem d_M_thrown_0 : decode prog_8_method_2_code 0 = .ok (.aload_n 0, 1) := by decide +kernel
theorem d_M_thrown_1 : decode prog_8_method_2_code 1 = .ok (.getfield 69, 3) := by decide +kernel
theorem d_M_thrown_4 : decode prog_8_method_2_code 4 = .ok (.ireturn, 1) := by decide +kernel
theorem d_M_isUsed_0 : decode prog_8_method_3_code 0 = .ok (.aload_n 0, 1) := by decide +kernel
theorem d_M_isUsed_1 : decode prog_8_method_3_code 1 = .ok (.getfield 51, 3) := by decide +kernel
theorem d_M_isUsed_4 : decode prog_8_method_3_code 4 = .ok (.iload_n 1, 1) := by decide +kernel
theorem d_M_isUsed_5 : decode prog_8_method_3_code 5 = .ok (.baload, 1) := by decide +kernel
theorem d_M_isUsed_6 : decode prog_8_method_3_code 6 = .ok (.istore_n 2, 1) := by decide +kernel
theorem d_M_isUsed_7 : decode prog_8_method_3_code 7 = .ok (.iconst 4, 1) := by decide +kernel
theorem d_M_isUsed_8 : decode prog_8_method_3_code 8 = .ok (.iload_n 1, 1) := by decide +kernel
theorem d_M_isUsed_9 : decode prog_8_method_3_code 9 = .ok (.imul, 1) := by decide +kernel
theorem d_M_isUsed_10 : decode prog_8_method_3_code 10 = .ok (.istore_n 3, 1) := by decide +kernel
theorem d_M_isUsed_11 : decode prog_8_method_3_code 11 = .ok (.iload_n 3, 1) := by decide +kernel
theorem d_M_isUsed_12 : decode prog_8_method_3_code 12 = .ok (.iconst 4, 1) := by decide +kernel
theorem d_M_isUsed_13 : decode prog_8_method_3_code 13 = .ok (.iload_n 1, 1) := by decide +kernel
theorem d_M_isUsed_14 : decode prog_8_method_3_code 14 = .ok (.imul, 1) := by decide +kernel
theorem d_M_isUsed_15 : decode prog_8_method_3_code 15 = .ok (.iconst 4, 1) := by decide +kernel
theorem d_M_isUsed_16 : decode prog_8_method_3_code 16 = .ok (.iadd, 1) := by decide +kernel
theorem d_M_isUsed_17 : decode prog_8_method_3_code 17 = .ok (.if_icmp .ge 28, 3) := by decide +kernel
theorem d_M_isUsed_20 : decode prog_8_method_3_code 20 = .ok (.iload_n 2, 1) := by decide +kernel
theorem d_M_isUsed_21 : decode prog_8_method_3_code 21 = .ok (.ifCond .ne 12, 3) := by decide +kernel
theorem d_M_isUsed_24 : decode prog_8_method_3_code 24 = .ok (.aload_n 0, 1) := by decide +kernel
theorem d_M_isUsed_25 : decode prog_8_method_3_code 25 = .ok (.getfield 7, 3) := by decide +kernel
theorem d_M_isUsed_28 : decode prog_8_method_3_code 28 = .ok (.iload_n 3, 1) := by decide +kernel
theorem d_M_isUsed_29 : decode prog_8_method_3_code 29 = .ok (.iaload, 1) := by decide +kernel
theorem d_M_isUsed_30 : decode prog_8_method_3_code 30 = .ok (.ifCond .lt 7, 3) := by decide +kernel
theorem d_M_isUsed_33 : decode prog_8_method_3_code 33 = .ok (.iconst 1, 1) := by decide +kernel
theorem d_M_isUsed_34 : decode prog_8_method_3_code 34 = .ok (.goto 4, 3) := by decide +kernel
theorem d_M_isUsed_37 : decode prog_8_method_3_code 37 = .ok (.iconst 0, 1) := by decide +kernel
theorem d_M_isUsed_38 : decode prog_8_method_3_code 38 = .ok (.istore_n 2, 1) := by decide +kernel
theorem d_M_isUsed_39 : decode prog_8_method_3_code 39 = .ok (.iinc 3 1, 3) := by decide +kernel
theorem d_M_isUsed_42 : decode prog_8_method_3_code 42 = .ok (.goto (-31), 3) := by decide +kernel
theorem d_M_isUsed_45 : decode prog_8_method_3_code 45 = .ok (.iload_n 2, 1) := by decide +kernel
theorem d_M_isUsed_46 : decode prog_8_method_3_code 46 = .ok (.ireturn, 1) := by decide +kernel
theorem d_M_isTaken_0 : decode prog_8_method_4_code 0 = .ok (.aload_n 0, 1) := by decide +kernel
theorem d_M_isTaken_1 : decode prog_8_method_4_code 1 = .ok (.getfield 44, 3) := by decide +kernel
theorem d_M_isTaken_4 : decode prog_8_method_4_code 4 = .ok (.ifCond .lt 19, 3) := by decide +kernel
theorem d_M_isTaken_7 : decode prog_8_method_4_code 7 = .ok (.iload_n 1, 1) := by decide +kernel
theorem d_M_isTaken_8 : decode prog_8_method_4_code 8 = .ok (.aload_n 0, 1) := by decide +kernel
theorem d_M_isTaken_9 : decode prog_8_method_4_code 9 = .ok (.getfield 44, 3) := by decide +kernel
theorem d_M_isTaken_12 : decode prog_8_method_4_code 12 = .ok (.if_icmp .lt 11, 3) := by decide +kernel
theorem d_M_isTaken_15 : decode prog_8_method_4_code 15 = .ok (.iload_n 1, 1) := by decide +kernel
theorem d_M_isTaken_16 : decode prog_8_method_4_code 16 = .ok (.aload_n 0, 1) := by decide +kernel
theorem d_M_isTaken_17 : decode prog_8_method_4_code 17 = .ok (.getfield 72, 3) := by decide +kernel
theorem d_M_isTaken_20 : decode prog_8_method_4_code 20 = .ok (.if_icmp .lt 21, 3) := by decide +kernel
theorem d_M_isTaken_23 : decode prog_8_method_4_code 23 = .ok (.aload_n 0, 1) := by decide +kernel
theorem d_M_isTaken_24 : decode prog_8_method_4_code 24 = .ok (.getfield 48, 3) := by decide +kernel
theorem d_M_isTaken_27 : decode prog_8_method_4_code 27 = .ok (.ifCond .lt 18, 3) := by decide +kernel
theorem d_M_isTaken_30 : decode prog_8_method_4_code 30 = .ok (.iload_n 1, 1) := by decide +kernel
theorem d_M_isTaken_31 : decode prog_8_method_4_code 31 = .ok (.bipush 8, 2) := by decide +kernel
theorem d_M_isTaken_33 : decode prog_8_method_4_code 33 = .ok (.idiv, 1) := by decide +kernel
theorem d_M_isTaken_34 : decode prog_8_method_4_code 34 = .ok (.aload_n 0, 1) := by decide +kernel
theorem d_M_isTaken_35 : decode prog_8_method_4_code 35 = .ok (.getfield 48, 3) := by decide +kernel
theorem d_M_isTaken_38 : decode prog_8_method_4_code 38 = .ok (.if_icmp .ne 7, 3) := by decide +kernel
theorem d_M_isTaken_41 : decode prog_8_method_4_code 41 = .ok (.iconst 1, 1) := by decide +kernel
theorem d_M_isTaken_42 : decode prog_8_method_4_code 42 = .ok (.goto 4, 3) := by decide +kernel
theorem d_M_isTaken_45 : decode prog_8_method_4_code 45 = .ok (.iconst 0, 1) := by decide +kernel
theorem d_M_isTaken_46 : decode prog_8_method_4_code 46 = .ok (.ireturn, 1) := by decide +kernel
theorem d_M_isFree_0 : decode prog_8_method_5_code 0 = .ok (.aload_n 0, 1) := by decide +kernel
theorem d_M_isFree_1 : decode prog_8_method_5_code 1 = .ok (.iload_n 1, 1) := by decide +kernel
theorem d_M_isFree_2 : decode prog_8_method_5_code 2 = .ok (.invokevirtual 75, 3) := by decide +kernel
theorem d_M_isFree_5 : decode prog_8_method_5_code 5 = .ok (.ifCond .ne 26, 3) := by decide +kernel
theorem d_M_isFree_8 : decode prog_8_method_5_code 8 = .ok (.aload_n 0, 1) := by decide +kernel
theorem d_M_isFree_9 : decode prog_8_method_5_code 9 = .ok (.iload_n 1, 1) := by decide +kernel
theorem d_M_isFree_10 : decode prog_8_method_5_code 10 = .ok (.invokevirtual 79, 3) := by decide +kernel
theorem d_M_isFree_13 : decode prog_8_method_5_code 13 = .ok (.ifCond .ne 18, 3) := by decide +kernel
theorem d_M_isFree_16 : decode prog_8_method_5_code 16 = .ok (.iload_n 1, 1) := by decide +kernel
theorem d_M_isFree_17 : decode prog_8_method_5_code 17 = .ok (.bipush 8, 2) := by decide +kernel
theorem d_M_isFree_19 : decode prog_8_method_5_code 19 = .ok (.idiv, 1) := by decide +kernel
theorem d_M_isFree_20 : decode prog_8_method_5_code 20 = .ok (.aload_n 0, 1) := by decide +kernel
theorem d_M_isFree_21 : decode prog_8_method_5_code 21 = .ok (.getfield 54, 3) := by decide +kernel
theorem d_M_isFree_24 : decode prog_8_method_5_code 24 = .ok (.if_icmp .eq 7, 3) := by decide +kernel
theorem d_M_isFree_27 : decode prog_8_method_5_code 27 = .ok (.iconst 1, 1) := by decide +kernel
theorem d_M_isFree_28 : decode prog_8_method_5_code 28 = .ok (.goto 4, 3) := by decide +kernel
theorem d_M_isFree_31 : decode prog_8_method_5_code 31 = .ok (.iconst 0, 1) := by decide +kernel
theorem d_M_isFree_32 : decode prog_8_method_5_code 32 = .ok (.ireturn, 1) := by decide +kernel
theorem d_M_isFreeBlock_0 : decode prog_8_method_6_code 0 = .ok (.iconst 1, 1) := by decide +kernel
theorem d_M_isFreeBlock_1 : decode prog_8_method_6_code 1 = .ok (.istore_n 2, 1) := by decide +kernel
theorem d_M_isFreeBlock_2 : decode prog_8_method_6_code 2 = .ok (.bipush 8, 2) := by decide +kernel
theorem d_M_isFreeBlock_4 : decode prog_8_method_6_code 4 = .ok (.iload_n 1, 1) := by decide +kernel
theorem d_M_isFreeBlock_5 : decode prog_8_method_6_code 5 = .ok (.imul, 1) := by decide +kernel
theorem d_M_isFreeBlock_6 : decode prog_8_method_6_code 6 = .ok (.istore_n 3, 1) := by decide +kernel
theorem d_M_isFreeBlock_7 : decode prog_8_method_6_code 7 = .ok (.iload_n 3, 1) := by decide +kernel
theorem d_M_isFreeBlock_8 : decode prog_8_method_6_code 8 = .ok (.bipush 8, 2) := by decide +kernel
theorem d_M_isFreeBlock_10 : decode prog_8_method_6_code 10 = .ok (.iload_n 1, 1) := by decide +kernel
theorem d_M_isFreeBlock_11 : decode prog_8_method_6_code 11 = .ok (.imul, 1) := by decide +kernel
theorem d_M_isFreeBlock_12 : decode prog_8_method_6_code 12 = .ok (.bipush 8, 2) := by decide +kernel
theorem d_M_isFreeBlock_14 : decode prog_8_method_6_code 14 = .ok (.iadd, 1) := by decide +kernel
theorem d_M_isFreeBlock_15 : decode prog_8_method_6_code 15 = .ok (.if_icmp .ge 27, 3) := by decide +kernel
theorem d_M_isFreeBlock_18 : decode prog_8_method_6_code 18 = .ok (.iload_n 2, 1) := by decide +kernel
theorem d_M_isFreeBlock_19 : decode prog_8_method_6_code 19 = .ok (.ifCond .eq 15, 3) := by decide +kernel
theorem d_M_isFreeBlock_22 : decode prog_8_method_6_code 22 = .ok (.aload_n 0, 1) := by decide +kernel
theorem d_M_isFreeBlock_23 : decode prog_8_method_6_code 23 = .ok (.iload_n 3, 1) := by decide +kernel
theorem d_M_isFreeBlock_24 : decode prog_8_method_6_code 24 = .ok (.invokevirtual 82, 3) := by decide +kernel
theorem d_M_isFreeBlock_27 : decode prog_8_method_6_code 27 = .ok (.ifCond .eq 7, 3) := by decide +kernel
theorem d_M_isFreeBlock_30 : decode prog_8_method_6_code 30 = .ok (.iconst 1, 1) := by decide +kernel
theorem d_M_isFreeBlock_31 : decode prog_8_method_6_code 31 = .ok (.goto 4, 3) := by decide +kernel
theorem d_M_isFreeBlock_34 : decode prog_8_method_6_code 34 = .ok (.iconst 0, 1) := by decide +kernel
theorem d_M_isFreeBlock_35 : decode prog_8_method_6_code 35 = .ok (.istore_n 2, 1) := by decide +kernel
theorem d_M_isFreeBlock_36 : decode prog_8_method_6_code 36 = .ok (.iinc 3 1, 3) := by decide +kernel
theorem d_M_isFreeBlock_39 : decode prog_8_method_6_code 39 = .ok (.goto (-32), 3) := by decide +kernel
theorem d_M_isFreeBlock_42 : decode prog_8_method_6_code 42 = .ok (.iload_n 2, 1) := by decide +kernel
theorem d_M_isFreeBlock_43 : decode prog_8_method_6_code 43 = .ok (.ireturn, 1) := by decide +kernel
theorem d_M_forget_0 : decode prog_8_method_7_code 0 = .ok (.aload_n 0, 1) := by decide +kernel
theorem d_M_forget_1 : decode prog_8_method_7_code 1 = .ok (.iconst (-1), 1) := by decide +kernel
theorem d_M_forget_2 : decode prog_8_method_7_code 2 = .ok (.putfield 44, 3) := by decide +kernel
theorem d_M_forget_5 : decode prog_8_method_7_code 5 = .ok (.aload_n 0, 1) := by decide +kernel
theorem d_M_forget_6 : decode prog_8_method_7_code 6 = .ok (.iconst (-1), 1) := by decide +kernel
theorem d_M_forget_7 : decode prog_8_method_7_code 7 = .ok (.putfield 48, 3) := by decide +kernel
theorem d_M_forget_10 : decode prog_8_method_7_code 10 = .ok (.return_, 1) := by decide +kernel
theorem d_M_placeInBlock_0 : decode prog_8_method_10_code 0 = .ok (.aload_n 0, 1) := by decide +kernel
theorem d_M_placeInBlock_1 : decode prog_8_method_10_code 1 = .ok (.getfield 48, 3) := by decide +kernel
theorem d_M_placeInBlock_4 : decode prog_8_method_10_code 4 = .ok (.ifCond .lt 39, 3) := by decide +kernel
theorem d_M_placeInBlock_7 : decode prog_8_method_10_code 7 = .ok (.aload_n 0, 1) := by decide +kernel
theorem d_M_placeInBlock_8 : decode prog_8_method_10_code 8 = .ok (.getfield 95, 3) := by decide +kernel
theorem d_M_placeInBlock_11 : decode prog_8_method_10_code 11 = .ok (.iload_n 1, 1) := by decide +kernel
theorem d_M_placeInBlock_12 : decode prog_8_method_10_code 12 = .ok (.iadd, 1) := by decide +kernel
theorem d_M_placeInBlock_13 : decode prog_8_method_10_code 13 = .ok (.bipush 32, 2) := by decide +kernel
theorem d_M_placeInBlock_15 : decode prog_8_method_10_code 15 = .ok (.aload_n 0, 1) := by decide +kernel
theorem d_M_placeInBlock_16 : decode prog_8_method_10_code 16 = .ok (.getfield 48, 3) := by decide +kernel
theorem d_M_placeInBlock_19 : decode prog_8_method_10_code 19 = .ok (.imul, 1) := by decide +kernel
theorem d_M_placeInBlock_20 : decode prog_8_method_10_code 20 = .ok (.bipush 32, 2) := by decide +kernel
theorem d_M_placeInBlock_22 : decode prog_8_method_10_code 22 = .ok (.iadd, 1) := by decide +kernel
theorem d_M_placeInBlock_23 : decode prog_8_method_10_code 23 = .ok (.if_icmp .gt 20, 3) := by decide +kernel
theorem d_M_placeInBlock_26 : decode prog_8_method_10_code 26 = .ok (.aload_n 0, 1) := by decide +kernel
theorem d_M_placeInBlock_27 : decode prog_8_method_10_code 27 = .ok (.aload_n 0, 1) := by decide +kernel
theorem d_M_placeInBlock_28 : decode prog_8_method_10_code 28 = .ok (.getfield 95, 3) := by decide +kernel
theorem d_M_placeInBlock_31 : decode prog_8_method_10_code 31 = .ok (.iload_n 1, 1) := by decide +kernel
theorem d_M_placeInBlock_32 : decode prog_8_method_10_code 32 = .ok (.iadd, 1) := by decide +kernel
theorem d_M_placeInBlock_33 : decode prog_8_method_10_code 33 = .ok (.putfield 95, 3) := by decide +kernel
theorem d_M_placeInBlock_36 : decode prog_8_method_10_code 36 = .ok (.aload_n 0, 1) := by decide +kernel
theorem d_M_placeInBlock_37 : decode prog_8_method_10_code 37 = .ok (.getfield 95, 3) := by decide +kernel
theorem d_M_placeInBlock_40 : decode prog_8_method_10_code 40 = .ok (.iload_n 1, 1) := by decide +kernel
theorem d_M_placeInBlock_41 : decode prog_8_method_10_code 41 = .ok (.isub, 1) := by decide +kernel
theorem d_M_placeInBlock_42 : decode prog_8_method_10_code 42 = .ok (.ireturn, 1) := by decide +kernel
theorem d_M_placeInBlock_43 : decode prog_8_method_10_code 43 = .ok (.iconst 0, 1) := by decide +kernel
theorem d_M_placeInBlock_44 : decode prog_8_method_10_code 44 = .ok (.istore_n 2, 1) := by decide +kernel
theorem d_M_placeInBlock_45 : decode prog_8_method_10_code 45 = .ok (.iload_n 2, 1) := by decide +kernel
theorem d_M_placeInBlock_46 : decode prog_8_method_10_code 46 = .ok (.iconst 4, 1) := by decide +kernel
theorem d_M_placeInBlock_47 : decode prog_8_method_10_code 47 = .ok (.if_icmp .ge 17, 3) := by decide +kernel
theorem d_M_placeInBlock_50 : decode prog_8_method_10_code 50 = .ok (.aload_n 0, 1) := by decide +kernel
theorem d_M_placeInBlock_51 : decode prog_8_method_10_code 51 = .ok (.iload_n 2, 1) := by decide +kernel
theorem d_M_placeInBlock_52 : decode prog_8_method_10_code 52 = .ok (.invokevirtual 98, 3) := by decide +kernel
theorem d_M_placeInBlock_55 : decode prog_8_method_10_code 55 = .ok (.ifCond .ne 9, 3) := by decide +kernel
theorem d_M_placeInBlock_58 : decode prog_8_method_10_code 58 = .ok (.iinc 2 1, 3) := by decide +kernel
theorem d_M_placeInBlock_61 : decode prog_8_method_10_code 61 = .ok (.goto (-16), 3) := by decide +kernel
theorem d_M_placeInBlock_64 : decode prog_8_method_10_code 64 = .ok (.iload_n 2, 1) := by decide +kernel
theorem d_M_placeInBlock_65 : decode prog_8_method_10_code 65 = .ok (.iconst 4, 1) := by decide +kernel
theorem d_M_placeInBlock_66 : decode prog_8_method_10_code 66 = .ok (.if_icmp .ne 5, 3) := by decide +kernel
theorem d_M_placeInBlock_69 : decode prog_8_method_10_code 69 = .ok (.iconst (-1), 1) := by decide +kernel
theorem d_M_placeInBlock_70 : decode prog_8_method_10_code 70 = .ok (.ireturn, 1) := by decide +kernel
theorem d_M_placeInBlock_71 : decode prog_8_method_10_code 71 = .ok (.aload_n 0, 1) := by decide +kernel
theorem d_M_placeInBlock_72 : decode prog_8_method_10_code 72 = .ok (.iload_n 2, 1) := by decide +kernel
theorem d_M_placeInBlock_73 : decode prog_8_method_10_code 73 = .ok (.putfield 48, 3) := by decide +kernel
theorem d_M_placeInBlock_76 : decode prog_8_method_10_code 76 = .ok (.aload_n 0, 1) := by decide +kernel
theorem d_M_placeInBlock_77 : decode prog_8_method_10_code 77 = .ok (.bipush 32, 2) := by decide +kernel
theorem d_M_placeInBlock_79 : decode prog_8_method_10_code 79 = .ok (.iload_n 2, 1) := by decide +kernel
theorem d_M_placeInBlock_80 : decode prog_8_method_10_code 80 = .ok (.imul, 1) := by decide +kernel
theorem d_M_placeInBlock_81 : decode prog_8_method_10_code 81 = .ok (.iload_n 1, 1) := by decide +kernel
theorem d_M_placeInBlock_82 : decode prog_8_method_10_code 82 = .ok (.iadd, 1) := by decide +kernel
theorem d_M_placeInBlock_83 : decode prog_8_method_10_code 83 = .ok (.putfield 95, 3) := by decide +kernel
theorem d_M_placeInBlock_86 : decode prog_8_method_10_code 86 = .ok (.bipush 32, 2) := by decide +kernel
theorem d_M_placeInBlock_88 : decode prog_8_method_10_code 88 = .ok (.iload_n 2, 1) := by decide +kernel
theorem d_M_placeInBlock_89 : decode prog_8_method_10_code 89 = .ok (.imul, 1) := by decide +kernel
theorem d_M_placeInBlock_90 : decode prog_8_method_10_code 90 = .ok (.ireturn, 1) := by decide +kernel
theorem d_M_placeInLines_0 : decode prog_8_method_9_code 0 = .ok (.aload_n 0, 1) := by decide +kernel
theorem d_M_placeInLines_1 : decode prog_8_method_9_code 1 = .ok (.getfield 44, 3) := by decide +kernel
theorem d_M_placeInLines_4 : decode prog_8_method_9_code 4 = .ok (.ifCond .ge 7, 3) := by decide +kernel
theorem d_M_placeInLines_7 : decode prog_8_method_9_code 7 = .ok (.iconst 0, 1) := by decide +kernel
end
section
/-! Instructions (written by a program) -/
theorem d_M_placeInLines_8 : decode prog_8_method_9_code 8 = .ok (.goto 7, 3) := by decide +kernel
theorem d_M_placeInLines_11 : decode prog_8_method_9_code 11 = .ok (.aload_n 0, 1) := by decide +kernel
theorem d_M_placeInLines_12 : decode prog_8_method_9_code 12 = .ok (.getfield 72, 3) := by decide +kernel
theorem d_M_placeInLines_15 : decode prog_8_method_9_code 15 = .ok (.istore_n 2, 1) := by decide +kernel
theorem d_M_placeInLines_16 : decode prog_8_method_9_code 16 = .ok (.iconst 0, 1) := by decide +kernel
theorem d_M_placeInLines_17 : decode prog_8_method_9_code 17 = .ok (.istore_n 3, 1) := by decide +kernel
theorem d_M_placeInLines_18 : decode prog_8_method_9_code 18 = .ok (.iload_n 3, 1) := by decide +kernel
theorem d_M_placeInLines_19 : decode prog_8_method_9_code 19 = .ok (.bipush 32, 2) := by decide +kernel
theorem d_M_placeInLines_21 : decode prog_8_method_9_code 21 = .ok (.if_icmp .ge 22, 3) := by decide +kernel
theorem d_M_placeInLines_24 : decode prog_8_method_9_code 24 = .ok (.aload_n 0, 1) := by decide +kernel
theorem d_M_placeInLines_25 : decode prog_8_method_9_code 25 = .ok (.iload_n 2, 1) := by decide +kernel
theorem d_M_placeInLines_26 : decode prog_8_method_9_code 26 = .ok (.iload_n 3, 1) := by decide +kernel
theorem d_M_placeInLines_27 : decode prog_8_method_9_code 27 = .ok (.iadd, 1) := by decide +kernel
theorem d_M_placeInLines_28 : decode prog_8_method_9_code 28 = .ok (.bipush 32, 2) := by decide +kernel
theorem d_M_placeInLines_30 : decode prog_8_method_9_code 30 = .ok (.irem, 1) := by decide +kernel
theorem d_M_placeInLines_31 : decode prog_8_method_9_code 31 = .ok (.invokevirtual 82, 3) := by decide +kernel
theorem d_M_placeInLines_34 : decode prog_8_method_9_code 34 = .ok (.ifCond .ne 9, 3) := by decide +kernel
theorem d_M_placeInLines_37 : decode prog_8_method_9_code 37 = .ok (.iinc 3 1, 3) := by decide +kernel
theorem d_M_placeInLines_40 : decode prog_8_method_9_code 40 = .ok (.goto (-22), 3) := by decide +kernel
theorem d_M_placeInLines_43 : decode prog_8_method_9_code 43 = .ok (.iload_n 3, 1) := by decide +kernel
theorem d_M_placeInLines_44 : decode prog_8_method_9_code 44 = .ok (.bipush 32, 2) := by decide +kernel
theorem d_M_placeInLines_46 : decode prog_8_method_9_code 46 = .ok (.if_icmp .ne 5, 3) := by decide +kernel
theorem d_M_placeInLines_49 : decode prog_8_method_9_code 49 = .ok (.iconst (-1), 1) := by decide +kernel
theorem d_M_placeInLines_50 : decode prog_8_method_9_code 50 = .ok (.ireturn, 1) := by decide +kernel
theorem d_M_placeInLines_51 : decode prog_8_method_9_code 51 = .ok (.iload_n 2, 1) := by decide +kernel
theorem d_M_placeInLines_52 : decode prog_8_method_9_code 52 = .ok (.iload_n 3, 1) := by decide +kernel
theorem d_M_placeInLines_53 : decode prog_8_method_9_code 53 = .ok (.iadd, 1) := by decide +kernel
theorem d_M_placeInLines_54 : decode prog_8_method_9_code 54 = .ok (.bipush 32, 2) := by decide +kernel
theorem d_M_placeInLines_56 : decode prog_8_method_9_code 56 = .ok (.irem, 1) := by decide +kernel
theorem d_M_placeInLines_57 : decode prog_8_method_9_code 57 = .ok (.istore 4, 2) := by decide +kernel
theorem d_M_placeInLines_59 : decode prog_8_method_9_code 59 = .ok (.iload 4, 2) := by decide +kernel
theorem d_M_placeInLines_61 : decode prog_8_method_9_code 61 = .ok (.iconst 1, 1) := by decide +kernel
theorem d_M_placeInLines_62 : decode prog_8_method_9_code 62 = .ok (.iadd, 1) := by decide +kernel
theorem d_M_placeInLines_63 : decode prog_8_method_9_code 63 = .ok (.istore 5, 2) := by decide +kernel
theorem d_M_placeInLines_65 : decode prog_8_method_9_code 65 = .ok (.iload 5, 2) := by decide +kernel
theorem d_M_placeInLines_67 : decode prog_8_method_9_code 67 = .ok (.bipush 8, 2) := by decide +kernel
theorem d_M_placeInLines_69 : decode prog_8_method_9_code 69 = .ok (.idiv, 1) := by decide +kernel
theorem d_M_placeInLines_70 : decode prog_8_method_9_code 70 = .ok (.iload 4, 2) := by decide +kernel
theorem d_M_placeInLines_72 : decode prog_8_method_9_code 72 = .ok (.bipush 8, 2) := by decide +kernel
theorem d_M_placeInLines_74 : decode prog_8_method_9_code 74 = .ok (.idiv, 1) := by decide +kernel
theorem d_M_placeInLines_75 : decode prog_8_method_9_code 75 = .ok (.if_icmp .ne 18, 3) := by decide +kernel
theorem d_M_placeInLines_78 : decode prog_8_method_9_code 78 = .ok (.aload_n 0, 1) := by decide +kernel
theorem d_M_placeInLines_79 : decode prog_8_method_9_code 79 = .ok (.iload 5, 2) := by decide +kernel
theorem d_M_placeInLines_81 : decode prog_8_method_9_code 81 = .ok (.invokevirtual 82, 3) := by decide +kernel
theorem d_M_placeInLines_84 : decode prog_8_method_9_code 84 = .ok (.ifCond .eq 9, 3) := by decide +kernel
theorem d_M_placeInLines_87 : decode prog_8_method_9_code 87 = .ok (.iinc 5 1, 3) := by decide +kernel
theorem d_M_placeInLines_90 : decode prog_8_method_9_code 90 = .ok (.goto (-25), 3) := by decide +kernel
theorem d_M_placeInLines_93 : decode prog_8_method_9_code 93 = .ok (.aload_n 0, 1) := by decide +kernel
theorem d_M_placeInLines_94 : decode prog_8_method_9_code 94 = .ok (.iload 4, 2) := by decide +kernel
theorem d_M_placeInLines_96 : decode prog_8_method_9_code 96 = .ok (.putfield 44, 3) := by decide +kernel
theorem d_M_placeInLines_99 : decode prog_8_method_9_code 99 = .ok (.aload_n 0, 1) := by decide +kernel
theorem d_M_placeInLines_100 : decode prog_8_method_9_code 100 = .ok (.iload 5, 2) := by decide +kernel
theorem d_M_placeInLines_102 : decode prog_8_method_9_code 102 = .ok (.putfield 72, 3) := by decide +kernel
theorem d_M_placeInLines_105 : decode prog_8_method_9_code 105 = .ok (.aload_n 0, 1) := by decide +kernel
theorem d_M_placeInLines_106 : decode prog_8_method_9_code 106 = .ok (.iconst 4, 1) := by decide +kernel
theorem d_M_placeInLines_107 : decode prog_8_method_9_code 107 = .ok (.iload 4, 2) := by decide +kernel
theorem d_M_placeInLines_109 : decode prog_8_method_9_code 109 = .ok (.imul, 1) := by decide +kernel
theorem d_M_placeInLines_110 : decode prog_8_method_9_code 110 = .ok (.iload_n 1, 1) := by decide +kernel
theorem d_M_placeInLines_111 : decode prog_8_method_9_code 111 = .ok (.iadd, 1) := by decide +kernel
theorem d_M_placeInLines_112 : decode prog_8_method_9_code 112 = .ok (.putfield 85, 3) := by decide +kernel
theorem d_M_placeInLines_115 : decode prog_8_method_9_code 115 = .ok (.iconst 4, 1) := by decide +kernel
theorem d_M_placeInLines_116 : decode prog_8_method_9_code 116 = .ok (.iload 4, 2) := by decide +kernel
theorem d_M_placeInLines_118 : decode prog_8_method_9_code 118 = .ok (.imul, 1) := by decide +kernel
theorem d_M_placeInLines_119 : decode prog_8_method_9_code 119 = .ok (.ireturn, 1) := by decide +kernel
theorem d_M_place_0 : decode prog_8_method_8_code 0 = .ok (.aload_n 0, 1) := by decide +kernel
theorem d_M_place_1 : decode prog_8_method_8_code 1 = .ok (.getfield 44, 3) := by decide +kernel
theorem d_M_place_4 : decode prog_8_method_8_code 4 = .ok (.ifCond .lt 35, 3) := by decide +kernel
theorem d_M_place_7 : decode prog_8_method_8_code 7 = .ok (.aload_n 0, 1) := by decide +kernel
theorem d_M_place_8 : decode prog_8_method_8_code 8 = .ok (.getfield 85, 3) := by decide +kernel
theorem d_M_place_11 : decode prog_8_method_8_code 11 = .ok (.iload_n 1, 1) := by decide +kernel
theorem d_M_place_12 : decode prog_8_method_8_code 12 = .ok (.iadd, 1) := by decide +kernel
theorem d_M_place_13 : decode prog_8_method_8_code 13 = .ok (.iconst 4, 1) := by decide +kernel
theorem d_M_place_14 : decode prog_8_method_8_code 14 = .ok (.aload_n 0, 1) := by decide +kernel
theorem d_M_place_15 : decode prog_8_method_8_code 15 = .ok (.getfield 72, 3) := by decide +kernel
theorem d_M_place_18 : decode prog_8_method_8_code 18 = .ok (.imul, 1) := by decide +kernel
theorem d_M_place_19 : decode prog_8_method_8_code 19 = .ok (.if_icmp .gt 20, 3) := by decide +kernel
theorem d_M_place_22 : decode prog_8_method_8_code 22 = .ok (.aload_n 0, 1) := by decide +kernel
theorem d_M_place_23 : decode prog_8_method_8_code 23 = .ok (.aload_n 0, 1) := by decide +kernel
theorem d_M_place_24 : decode prog_8_method_8_code 24 = .ok (.getfield 85, 3) := by decide +kernel
theorem d_M_place_27 : decode prog_8_method_8_code 27 = .ok (.iload_n 1, 1) := by decide +kernel
theorem d_M_place_28 : decode prog_8_method_8_code 28 = .ok (.iadd, 1) := by decide +kernel
theorem d_M_place_29 : decode prog_8_method_8_code 29 = .ok (.putfield 85, 3) := by decide +kernel
theorem d_M_place_32 : decode prog_8_method_8_code 32 = .ok (.aload_n 0, 1) := by decide +kernel
theorem d_M_place_33 : decode prog_8_method_8_code 33 = .ok (.getfield 85, 3) := by decide +kernel
theorem d_M_place_36 : decode prog_8_method_8_code 36 = .ok (.iload_n 1, 1) := by decide +kernel
theorem d_M_place_37 : decode prog_8_method_8_code 37 = .ok (.isub, 1) := by decide +kernel
theorem d_M_place_38 : decode prog_8_method_8_code 38 = .ok (.ireturn, 1) := by decide +kernel
theorem d_M_place_39 : decode prog_8_method_8_code 39 = .ok (.iload_n 1, 1) := by decide +kernel
theorem d_M_place_40 : decode prog_8_method_8_code 40 = .ok (.iconst 4, 1) := by decide +kernel
theorem d_M_place_41 : decode prog_8_method_8_code 41 = .ok (.if_icmp .gt 11, 3) := by decide +kernel
theorem d_M_place_44 : decode prog_8_method_8_code 44 = .ok (.aload_n 0, 1) := by decide +kernel
theorem d_M_place_45 : decode prog_8_method_8_code 45 = .ok (.iload_n 1, 1) := by decide +kernel
theorem d_M_place_46 : decode prog_8_method_8_code 46 = .ok (.invokevirtual 88, 3) := by decide +kernel
theorem d_M_place_49 : decode prog_8_method_8_code 49 = .ok (.goto 8, 3) := by decide +kernel
theorem d_M_place_52 : decode prog_8_method_8_code 52 = .ok (.aload_n 0, 1) := by decide +kernel
theorem d_M_place_53 : decode prog_8_method_8_code 53 = .ok (.iload_n 1, 1) := by decide +kernel
theorem d_M_place_54 : decode prog_8_method_8_code 54 = .ok (.invokevirtual 92, 3) := by decide +kernel
theorem d_M_place_57 : decode prog_8_method_8_code 57 = .ok (.ireturn, 1) := by decide +kernel
theorem d_M_objectAt_0 : decode prog_8_method_11_code 0 = .ok (.iload_n 1, 1) := by decide +kernel
theorem d_M_objectAt_1 : decode prog_8_method_11_code 1 = .ok (.ifCond .lt 18, 3) := by decide +kernel
theorem d_M_objectAt_4 : decode prog_8_method_11_code 4 = .ok (.iload_n 1, 1) := by decide +kernel
theorem d_M_objectAt_5 : decode prog_8_method_11_code 5 = .ok (.bipush 127, 2) := by decide +kernel
theorem d_M_objectAt_7 : decode prog_8_method_11_code 7 = .ok (.if_icmp .gt 12, 3) := by decide +kernel
theorem d_M_objectAt_10 : decode prog_8_method_11_code 10 = .ok (.aload_n 0, 1) := by decide +kernel
theorem d_M_objectAt_11 : decode prog_8_method_11_code 11 = .ok (.getfield 7, 3) := by decide +kernel
theorem d_M_objectAt_14 : decode prog_8_method_11_code 14 = .ok (.iload_n 1, 1) := by decide +kernel
theorem d_M_objectAt_15 : decode prog_8_method_11_code 15 = .ok (.iaload, 1) := by decide +kernel
theorem d_M_objectAt_16 : decode prog_8_method_11_code 16 = .ok (.ifCond .ge 5, 3) := by decide +kernel
theorem d_M_objectAt_19 : decode prog_8_method_11_code 19 = .ok (.iconst (-1), 1) := by decide +kernel
theorem d_M_objectAt_20 : decode prog_8_method_11_code 20 = .ok (.ireturn, 1) := by decide +kernel
theorem d_M_objectAt_21 : decode prog_8_method_11_code 21 = .ok (.aload_n 0, 1) := by decide +kernel
theorem d_M_objectAt_22 : decode prog_8_method_11_code 22 = .ok (.getfield 16, 3) := by decide +kernel
theorem d_M_objectAt_25 : decode prog_8_method_11_code 25 = .ok (.aload_n 0, 1) := by decide +kernel
theorem d_M_objectAt_26 : decode prog_8_method_11_code 26 = .ok (.getfield 7, 3) := by decide +kernel
theorem d_M_objectAt_29 : decode prog_8_method_11_code 29 = .ok (.iload_n 1, 1) := by decide +kernel
theorem d_M_objectAt_30 : decode prog_8_method_11_code 30 = .ok (.iaload, 1) := by decide +kernel
theorem d_M_objectAt_31 : decode prog_8_method_11_code 31 = .ok (.iaload, 1) := by decide +kernel
theorem d_M_objectAt_32 : decode prog_8_method_11_code 32 = .ok (.iload_n 1, 1) := by decide +kernel
theorem d_M_objectAt_33 : decode prog_8_method_11_code 33 = .ok (.if_icmp .ne 12, 3) := by decide +kernel
theorem d_M_objectAt_36 : decode prog_8_method_11_code 36 = .ok (.aload_n 0, 1) := by decide +kernel
theorem d_M_objectAt_37 : decode prog_8_method_11_code 37 = .ok (.getfield 7, 3) := by decide +kernel
theorem d_M_objectAt_40 : decode prog_8_method_11_code 40 = .ok (.iload_n 1, 1) := by decide +kernel
theorem d_M_objectAt_41 : decode prog_8_method_11_code 41 = .ok (.iaload, 1) := by decide +kernel
theorem d_M_objectAt_42 : decode prog_8_method_11_code 42 = .ok (.goto 4, 3) := by decide +kernel
theorem d_M_objectAt_45 : decode prog_8_method_11_code 45 = .ok (.iconst (-1), 1) := by decide +kernel
theorem d_M_objectAt_46 : decode prog_8_method_11_code 46 = .ok (.ireturn, 1) := by decide +kernel
theorem d_M_addressOf_0 : decode prog_8_method_12_code 0 = .ok (.iload_n 1, 1) := by decide +kernel
theorem d_M_addressOf_1 : decode prog_8_method_12_code 1 = .ok (.ifCond .ge 7, 3) := by decide +kernel
theorem d_M_addressOf_4 : decode prog_8_method_12_code 4 = .ok (.iconst (-1), 1) := by decide +kernel
theorem d_M_addressOf_5 : decode prog_8_method_12_code 5 = .ok (.goto 9, 3) := by decide +kernel
theorem d_M_addressOf_8 : decode prog_8_method_12_code 8 = .ok (.aload_n 0, 1) := by decide +kernel
theorem d_M_addressOf_9 : decode prog_8_method_12_code 9 = .ok (.getfield 16, 3) := by decide +kernel
theorem d_M_addressOf_12 : decode prog_8_method_12_code 12 = .ok (.iload_n 1, 1) := by decide +kernel
theorem d_M_addressOf_13 : decode prog_8_method_12_code 13 = .ok (.iaload, 1) := by decide +kernel
theorem d_M_addressOf_14 : decode prog_8_method_12_code 14 = .ok (.ireturn, 1) := by decide +kernel
theorem d_M_lay_0 : decode prog_8_method_13_code 0 = .ok (.aload_n 0, 1) := by decide +kernel
theorem d_M_lay_1 : decode prog_8_method_13_code 1 = .ok (.getfield 16, 3) := by decide +kernel
theorem d_M_lay_4 : decode prog_8_method_13_code 4 = .ok (.iload_n 1, 1) := by decide +kernel
theorem d_M_lay_5 : decode prog_8_method_13_code 5 = .ok (.iload_n 2, 1) := by decide +kernel
theorem d_M_lay_6 : decode prog_8_method_13_code 6 = .ok (.iastore, 1) := by decide +kernel
theorem d_M_lay_7 : decode prog_8_method_13_code 7 = .ok (.iconst 0, 1) := by decide +kernel
theorem d_M_lay_8 : decode prog_8_method_13_code 8 = .ok (.istore_n 3, 1) := by decide +kernel
theorem d_M_lay_9 : decode prog_8_method_13_code 9 = .ok (.iload_n 3, 1) := by decide +kernel
theorem d_M_lay_10 : decode prog_8_method_13_code 10 = .ok (.aload_n 0, 1) := by decide +kernel
theorem d_M_lay_11 : decode prog_8_method_13_code 11 = .ok (.getfield 19, 3) := by decide +kernel
theorem d_M_lay_14 : decode prog_8_method_13_code 14 = .ok (.iload_n 1, 1) := by decide +kernel
theorem d_M_lay_15 : decode prog_8_method_13_code 15 = .ok (.iaload, 1) := by decide +kernel
theorem d_M_lay_16 : decode prog_8_method_13_code 16 = .ok (.if_icmp .ge 18, 3) := by decide +kernel
theorem d_M_lay_19 : decode prog_8_method_13_code 19 = .ok (.aload_n 0, 1) := by decide +kernel
theorem d_M_lay_20 : decode prog_8_method_13_code 20 = .ok (.getfield 7, 3) := by decide +kernel
theorem d_M_lay_23 : decode prog_8_method_13_code 23 = .ok (.iload_n 2, 1) := by decide +kernel
theorem d_M_lay_24 : decode prog_8_method_13_code 24 = .ok (.iload_n 3, 1) := by decide +kernel
theorem d_M_lay_25 : decode prog_8_method_13_code 25 = .ok (.iadd, 1) := by decide +kernel
theorem d_M_lay_26 : decode prog_8_method_13_code 26 = .ok (.iload_n 1, 1) := by decide +kernel
theorem d_M_lay_27 : decode prog_8_method_13_code 27 = .ok (.iastore, 1) := by decide +kernel
theorem d_M_lay_28 : decode prog_8_method_13_code 28 = .ok (.iinc 3 1, 3) := by decide +kernel
theorem d_M_lay_31 : decode prog_8_method_13_code 31 = .ok (.goto (-22), 3) := by decide +kernel
theorem d_M_lay_34 : decode prog_8_method_13_code 34 = .ok (.return_, 1) := by decide +kernel
theorem d_M_lift_0 : decode prog_8_method_14_code 0 = .ok (.aload_n 0, 1) := by decide +kernel
theorem d_M_lift_1 : decode prog_8_method_14_code 1 = .ok (.getfield 16, 3) := by decide +kernel
theorem d_M_lift_4 : decode prog_8_method_14_code 4 = .ok (.iload_n 1, 1) := by decide +kernel
theorem d_M_lift_5 : decode prog_8_method_14_code 5 = .ok (.iaload, 1) := by decide +kernel
theorem d_M_lift_6 : decode prog_8_method_14_code 6 = .ok (.istore_n 3, 1) := by decide +kernel
theorem d_M_lift_7 : decode prog_8_method_14_code 7 = .ok (.iload_n 3, 1) := by decide +kernel
theorem d_M_lift_8 : decode prog_8_method_14_code 8 = .ok (.aload_n 0, 1) := by decide +kernel
theorem d_M_lift_9 : decode prog_8_method_14_code 9 = .ok (.getfield 16, 3) := by decide +kernel
theorem d_M_lift_12 : decode prog_8_method_14_code 12 = .ok (.iload_n 1, 1) := by decide +kernel
theorem d_M_lift_13 : decode prog_8_method_14_code 13 = .ok (.iaload, 1) := by decide +kernel
theorem d_M_lift_14 : decode prog_8_method_14_code 14 = .ok (.aload_n 0, 1) := by decide +kernel
theorem d_M_lift_15 : decode prog_8_method_14_code 15 = .ok (.getfield 19, 3) := by decide +kernel
theorem d_M_lift_18 : decode prog_8_method_14_code 18 = .ok (.iload_n 1, 1) := by decide +kernel
theorem d_M_lift_19 : decode prog_8_method_14_code 19 = .ok (.iaload, 1) := by decide +kernel
theorem d_M_lift_20 : decode prog_8_method_14_code 20 = .ok (.iadd, 1) := by decide +kernel
theorem d_M_lift_21 : decode prog_8_method_14_code 21 = .ok (.if_icmp .ge 44, 3) := by decide +kernel
theorem d_M_lift_24 : decode prog_8_method_14_code 24 = .ok (.aload_n 0, 1) := by decide +kernel
theorem d_M_lift_25 : decode prog_8_method_14_code 25 = .ok (.getfield 7, 3) := by decide +kernel
theorem d_M_lift_28 : decode prog_8_method_14_code 28 = .ok (.iload_n 3, 1) := by decide +kernel
theorem d_M_lift_29 : decode prog_8_method_14_code 29 = .ok (.iconst (-1), 1) := by decide +kernel
theorem d_M_lift_30 : decode prog_8_method_14_code 30 = .ok (.iastore, 1) := by decide +kernel
theorem d_M_lift_31 : decode prog_8_method_14_code 31 = .ok (.aload_n 0, 1) := by decide +kernel
theorem d_M_lift_32 : decode prog_8_method_14_code 32 = .ok (.getfield 51, 3) := by decide +kernel
theorem d_M_lift_35 : decode prog_8_method_14_code 35 = .ok (.iload_n 3, 1) := by decide +kernel
theorem d_M_lift_36 : decode prog_8_method_14_code 36 = .ok (.iconst 4, 1) := by decide +kernel
theorem d_M_lift_37 : decode prog_8_method_14_code 37 = .ok (.idiv, 1) := by decide +kernel
theorem d_M_lift_38 : decode prog_8_method_14_code 38 = .ok (.aload_n 0, 1) := by decide +kernel
theorem d_M_lift_39 : decode prog_8_method_14_code 39 = .ok (.getfield 51, 3) := by decide +kernel
theorem d_M_lift_42 : decode prog_8_method_14_code 42 = .ok (.iload_n 3, 1) := by decide +kernel
theorem d_M_lift_43 : decode prog_8_method_14_code 43 = .ok (.iconst 4, 1) := by decide +kernel
theorem d_M_lift_44 : decode prog_8_method_14_code 44 = .ok (.idiv, 1) := by decide +kernel
theorem d_M_lift_45 : decode prog_8_method_14_code 45 = .ok (.baload, 1) := by decide +kernel
theorem d_M_lift_46 : decode prog_8_method_14_code 46 = .ok (.ifCond .ne 7, 3) := by decide +kernel
theorem d_M_lift_49 : decode prog_8_method_14_code 49 = .ok (.iload_n 2, 1) := by decide +kernel
theorem d_M_lift_50 : decode prog_8_method_14_code 50 = .ok (.ifCond .eq 7, 3) := by decide +kernel
theorem d_M_lift_53 : decode prog_8_method_14_code 53 = .ok (.iconst 1, 1) := by decide +kernel
theorem d_M_lift_54 : decode prog_8_method_14_code 54 = .ok (.goto 4, 3) := by decide +kernel
theorem d_M_lift_57 : decode prog_8_method_14_code 57 = .ok (.iconst 0, 1) := by decide +kernel
theorem d_M_lift_58 : decode prog_8_method_14_code 58 = .ok (.bastore, 1) := by decide +kernel
theorem d_M_lift_59 : decode prog_8_method_14_code 59 = .ok (.iinc 3 1, 3) := by decide +kernel
theorem d_M_lift_62 : decode prog_8_method_14_code 62 = .ok (.goto (-55), 3) := by decide +kernel
theorem d_M_lift_65 : decode prog_8_method_14_code 65 = .ok (.return_, 1) := by decide +kernel
theorem d_M_shift_0 : decode prog_8_method_15_code 0 = .ok (.aload_n 0, 1) := by decide +kernel
theorem d_M_shift_1 : decode prog_8_method_15_code 1 = .ok (.aload_n 0, 1) := by decide +kernel
theorem d_M_shift_2 : decode prog_8_method_15_code 2 = .ok (.getfield 19, 3) := by decide +kernel
theorem d_M_shift_5 : decode prog_8_method_15_code 5 = .ok (.iload_n 1, 1) := by decide +kernel
theorem d_M_shift_6 : decode prog_8_method_15_code 6 = .ok (.iaload, 1) := by decide +kernel
theorem d_M_shift_7 : decode prog_8_method_15_code 7 = .ok (.invokevirtual 101, 3) := by decide +kernel
theorem d_M_shift_10 : decode prog_8_method_15_code 10 = .ok (.istore_n 2, 1) := by decide +kernel
theorem d_M_shift_11 : decode prog_8_method_15_code 11 = .ok (.iload_n 2, 1) := by decide +kernel
theorem d_M_shift_12 : decode prog_8_method_15_code 12 = .ok (.ifCond .lt 25, 3) := by decide +kernel
theorem d_M_shift_15 : decode prog_8_method_15_code 15 = .ok (.aload_n 0, 1) := by decide +kernel
theorem d_M_shift_16 : decode prog_8_method_15_code 16 = .ok (.iload_n 1, 1) := by decide +kernel
theorem d_M_shift_17 : decode prog_8_method_15_code 17 = .ok (.iconst 1, 1) := by decide +kernel
theorem d_M_shift_18 : decode prog_8_method_15_code 18 = .ok (.invokevirtual 104, 3) := by decide +kernel
theorem d_M_shift_21 : decode prog_8_method_15_code 21 = .ok (.aload_n 0, 1) := by decide +kernel
theorem d_M_shift_22 : decode prog_8_method_15_code 22 = .ok (.iload_n 1, 1) := by decide +kernel
theorem d_M_shift_23 : decode prog_8_method_15_code 23 = .ok (.iload_n 2, 1) := by decide +kernel
theorem d_M_shift_24 : decode prog_8_method_15_code 24 = .ok (.invokevirtual 108, 3) := by decide +kernel
theorem d_M_shift_27 : decode prog_8_method_15_code 27 = .ok (.aload_n 0, 1) := by decide +kernel
theorem d_M_shift_28 : decode prog_8_method_15_code 28 = .ok (.dup, 1) := by decide +kernel
theorem d_M_shift_29 : decode prog_8_method_15_code 29 = .ok (.getfield 112, 3) := by decide +kernel
theorem d_M_shift_32 : decode prog_8_method_15_code 32 = .ok (.iconst 1, 1) := by decide +kernel
theorem d_M_shift_33 : decode prog_8_method_15_code 33 = .ok (.iadd, 1) := by decide +kernel
theorem d_M_shift_34 : decode prog_8_method_15_code 34 = .ok (.putfield 112, 3) := by decide +kernel
theorem d_M_shift_37 : decode prog_8_method_15_code 37 = .ok (.return_, 1) := by decide +kernel
theorem d_M_lose_0 : decode prog_8_method_16_code 0 = .ok (.aload_n 0, 1) := by decide +kernel
theorem d_M_lose_1 : decode prog_8_method_16_code 1 = .ok (.getfield 13, 3) := by decide +kernel
theorem d_M_lose_4 : decode prog_8_method_16_code 4 = .ok (.iload_n 1, 1) := by decide +kernel
theorem d_M_lose_5 : decode prog_8_method_16_code 5 = .ok (.iconst 0, 1) := by decide +kernel
theorem d_M_lose_6 : decode prog_8_method_16_code 6 = .ok (.iastore, 1) := by decide +kernel
theorem d_M_lose_7 : decode prog_8_method_16_code 7 = .ok (.aload_n 0, 1) := by decide +kernel
theorem d_M_lose_8 : decode prog_8_method_16_code 8 = .ok (.iload_n 1, 1) := by decide +kernel
theorem d_M_lose_9 : decode prog_8_method_16_code 9 = .ok (.iconst 0, 1) := by decide +kernel
theorem d_M_lose_10 : decode prog_8_method_16_code 10 = .ok (.invokevirtual 104, 3) := by decide +kernel
theorem d_M_lose_13 : decode prog_8_method_16_code 13 = .ok (.return_, 1) := by decide +kernel
theorem d_M_make_0 : decode prog_8_method_17_code 0 = .ok (.aload_n 0, 1) := by decide +kernel
theorem d_M_make_1 : decode prog_8_method_17_code 1 = .ok (.getfield 13, 3) := by decide +kernel
theorem d_M_make_4 : decode prog_8_method_17_code 4 = .ok (.aload_n 0, 1) := by decide +kernel
theorem d_M_make_5 : decode prog_8_method_17_code 5 = .ok (.getfield 115, 3) := by decide +kernel
theorem d_M_make_8 : decode prog_8_method_17_code 8 = .ok (.iaload, 1) := by decide +kernel
theorem d_M_make_9 : decode prog_8_method_17_code 9 = .ok (.ifCond .eq 20, 3) := by decide +kernel
theorem d_M_make_12 : decode prog_8_method_17_code 12 = .ok (.aload_n 0, 1) := by decide +kernel
theorem d_M_make_13 : decode prog_8_method_17_code 13 = .ok (.aload_n 0, 1) := by decide +kernel
theorem d_M_make_14 : decode prog_8_method_17_code 14 = .ok (.getfield 115, 3) := by decide +kernel
theorem d_M_make_17 : decode prog_8_method_17_code 17 = .ok (.iconst 1, 1) := by decide +kernel
theorem d_M_make_18 : decode prog_8_method_17_code 18 = .ok (.iadd, 1) := by decide +kernel
theorem d_M_make_19 : decode prog_8_method_17_code 19 = .ok (.sipush 256, 3) := by decide +kernel
theorem d_M_make_22 : decode prog_8_method_17_code 22 = .ok (.irem, 1) := by decide +kernel
theorem d_M_make_23 : decode prog_8_method_17_code 23 = .ok (.putfield 115, 3) := by decide +kernel
theorem d_M_make_26 : decode prog_8_method_17_code 26 = .ok (.goto (-26), 3) := by decide +kernel
theorem d_M_make_29 : decode prog_8_method_17_code 29 = .ok (.aload_n 0, 1) := by decide +kernel
theorem d_M_make_30 : decode prog_8_method_17_code 30 = .ok (.getfield 115, 3) := by decide +kernel
theorem d_M_make_33 : decode prog_8_method_17_code 33 = .ok (.istore_n 3, 1) := by decide +kernel
theorem d_M_make_34 : decode prog_8_method_17_code 34 = .ok (.aload_n 0, 1) := by decide +kernel
theorem d_M_make_35 : decode prog_8_method_17_code 35 = .ok (.aload_n 0, 1) := by decide +kernel
theorem d_M_make_36 : decode prog_8_method_17_code 36 = .ok (.getfield 115, 3) := by decide +kernel
theorem d_M_make_39 : decode prog_8_method_17_code 39 = .ok (.iconst 1, 1) := by decide +kernel
theorem d_M_make_40 : decode prog_8_method_17_code 40 = .ok (.iadd, 1) := by decide +kernel
theorem d_M_make_41 : decode prog_8_method_17_code 41 = .ok (.sipush 256, 3) := by decide +kernel
theorem d_M_make_44 : decode prog_8_method_17_code 44 = .ok (.irem, 1) := by decide +kernel
theorem d_M_make_45 : decode prog_8_method_17_code 45 = .ok (.putfield 115, 3) := by decide +kernel
theorem d_M_make_48 : decode prog_8_method_17_code 48 = .ok (.aload_n 0, 1) := by decide +kernel
theorem d_M_make_49 : decode prog_8_method_17_code 49 = .ok (.getfield 13, 3) := by decide +kernel
theorem d_M_make_52 : decode prog_8_method_17_code 52 = .ok (.iload_n 3, 1) := by decide +kernel
theorem d_M_make_53 : decode prog_8_method_17_code 53 = .ok (.iconst 1, 1) := by decide +kernel
theorem d_M_make_54 : decode prog_8_method_17_code 54 = .ok (.iastore, 1) := by decide +kernel
theorem d_M_make_55 : decode prog_8_method_17_code 55 = .ok (.aload_n 0, 1) := by decide +kernel
theorem d_M_make_56 : decode prog_8_method_17_code 56 = .ok (.getfield 19, 3) := by decide +kernel
theorem d_M_make_59 : decode prog_8_method_17_code 59 = .ok (.iload_n 3, 1) := by decide +kernel
theorem d_M_make_60 : decode prog_8_method_17_code 60 = .ok (.iload_n 1, 1) := by decide +kernel
theorem d_M_make_61 : decode prog_8_method_17_code 61 = .ok (.iastore, 1) := by decide +kernel
theorem d_M_make_62 : decode prog_8_method_17_code 62 = .ok (.aload_n 0, 1) := by decide +kernel
theorem d_M_make_63 : decode prog_8_method_17_code 63 = .ok (.getfield 22, 3) := by decide +kernel
theorem d_M_make_66 : decode prog_8_method_17_code 66 = .ok (.iload_n 3, 1) := by decide +kernel
theorem d_M_make_67 : decode prog_8_method_17_code 67 = .ok (.iload_n 2, 1) := by decide +kernel
theorem d_M_make_68 : decode prog_8_method_17_code 68 = .ok (.iastore, 1) := by decide +kernel
theorem d_M_make_69 : decode prog_8_method_17_code 69 = .ok (.aload_n 0, 1) := by decide +kernel
theorem d_M_make_70 : decode prog_8_method_17_code 70 = .ok (.getfield 25, 3) := by decide +kernel
theorem d_M_make_73 : decode prog_8_method_17_code 73 = .ok (.iload_n 3, 1) := by decide +kernel
theorem d_M_make_74 : decode prog_8_method_17_code 74 = .ok (.iconst 0, 1) := by decide +kernel
theorem d_M_make_75 : decode prog_8_method_17_code 75 = .ok (.iastore, 1) := by decide +kernel
theorem d_M_make_76 : decode prog_8_method_17_code 76 = .ok (.aload_n 0, 1) := by decide +kernel
theorem d_M_make_77 : decode prog_8_method_17_code 77 = .ok (.getfield 28, 3) := by decide +kernel
theorem d_M_make_80 : decode prog_8_method_17_code 80 = .ok (.iload_n 3, 1) := by decide +kernel
theorem d_M_make_81 : decode prog_8_method_17_code 81 = .ok (.iconst 0, 1) := by decide +kernel
theorem d_M_make_82 : decode prog_8_method_17_code 82 = .ok (.iastore, 1) := by decide +kernel
theorem d_M_make_83 : decode prog_8_method_17_code 83 = .ok (.iconst 0, 1) := by decide +kernel
theorem d_M_make_84 : decode prog_8_method_17_code 84 = .ok (.istore 4, 2) := by decide +kernel
theorem d_M_make_86 : decode prog_8_method_17_code 86 = .ok (.iload 4, 2) := by decide +kernel
theorem d_M_make_88 : decode prog_8_method_17_code 88 = .ok (.bipush 12, 2) := by decide +kernel
theorem d_M_make_90 : decode prog_8_method_17_code 90 = .ok (.if_icmp .ge 35, 3) := by decide +kernel
theorem d_M_make_93 : decode prog_8_method_17_code 93 = .ok (.aload_n 0, 1) := by decide +kernel
theorem d_M_make_94 : decode prog_8_method_17_code 94 = .ok (.getfield 31, 3) := by decide +kernel
theorem d_M_make_97 : decode prog_8_method_17_code 97 = .ok (.bipush 12, 2) := by decide +kernel
theorem d_M_make_99 : decode prog_8_method_17_code 99 = .ok (.iload_n 3, 1) := by decide +kernel
theorem d_M_make_100 : decode prog_8_method_17_code 100 = .ok (.imul, 1) := by decide +kernel
theorem d_M_make_101 : decode prog_8_method_17_code 101 = .ok (.iload 4, 2) := by decide +kernel
theorem d_M_make_103 : decode prog_8_method_17_code 103 = .ok (.iadd, 1) := by decide +kernel
theorem d_M_make_104 : decode prog_8_method_17_code 104 = .ok (.iconst (-1), 1) := by decide +kernel
theorem d_M_make_105 : decode prog_8_method_17_code 105 = .ok (.iastore, 1) := by decide +kernel
theorem d_M_make_106 : decode prog_8_method_17_code 106 = .ok (.aload_n 0, 1) := by decide +kernel
theorem d_M_make_107 : decode prog_8_method_17_code 107 = .ok (.getfield 34, 3) := by decide +kernel
theorem d_M_make_110 : decode prog_8_method_17_code 110 = .ok (.bipush 12, 2) := by decide +kernel
theorem d_M_make_112 : decode prog_8_method_17_code 112 = .ok (.iload_n 3, 1) := by decide +kernel
theorem d_M_make_113 : decode prog_8_method_17_code 113 = .ok (.imul, 1) := by decide +kernel
theorem d_M_make_114 : decode prog_8_method_17_code 114 = .ok (.iload 4, 2) := by decide +kernel
theorem d_M_make_116 : decode prog_8_method_17_code 116 = .ok (.iadd, 1) := by decide +kernel
theorem d_M_make_117 : decode prog_8_method_17_code 117 = .ok (.iconst 0, 1) := by decide +kernel
theorem d_M_make_118 : decode prog_8_method_17_code 118 = .ok (.bastore, 1) := by decide +kernel
theorem d_M_make_119 : decode prog_8_method_17_code 119 = .ok (.iinc 4 1, 3) := by decide +kernel
theorem d_M_make_122 : decode prog_8_method_17_code 122 = .ok (.goto (-36), 3) := by decide +kernel
theorem d_M_make_125 : decode prog_8_method_17_code 125 = .ok (.iload_n 3, 1) := by decide +kernel
theorem d_M_make_126 : decode prog_8_method_17_code 126 = .ok (.ireturn, 1) := by decide +kernel
theorem d_M_isWhite_0 : decode prog_8_method_18_code 0 = .ok (.iload_n 1, 1) := by decide +kernel
theorem d_M_isWhite_1 : decode prog_8_method_18_code 1 = .ok (.ifCond .lt 26, 3) := by decide +kernel
theorem d_M_isWhite_4 : decode prog_8_method_18_code 4 = .ok (.aload_n 0, 1) := by decide +kernel
theorem d_M_isWhite_5 : decode prog_8_method_18_code 5 = .ok (.getfield 13, 3) := by decide +kernel
theorem d_M_isWhite_8 : decode prog_8_method_18_code 8 = .ok (.iload_n 1, 1) := by decide +kernel
theorem d_M_isWhite_9 : decode prog_8_method_18_code 9 = .ok (.iaload, 1) := by decide +kernel
theorem d_M_isWhite_10 : decode prog_8_method_18_code 10 = .ok (.iconst 2, 1) := by decide +kernel
theorem d_M_isWhite_11 : decode prog_8_method_18_code 11 = .ok (.if_icmp .ne 16, 3) := by decide +kernel
theorem d_M_isWhite_14 : decode prog_8_method_18_code 14 = .ok (.aload_n 0, 1) := by decide +kernel
theorem d_M_isWhite_15 : decode prog_8_method_18_code 15 = .ok (.getfield 28, 3) := by decide +kernel
theorem d_M_isWhite_18 : decode prog_8_method_18_code 18 = .ok (.iload_n 1, 1) := by decide +kernel
theorem d_M_isWhite_19 : decode prog_8_method_18_code 19 = .ok (.iaload, 1) := by decide +kernel
theorem d_M_isWhite_20 : decode prog_8_method_18_code 20 = .ok (.ifCond .ne 7, 3) := by decide +kernel
theorem d_M_isWhite_23 : decode prog_8_method_18_code 23 = .ok (.iconst 1, 1) := by decide +kernel
theorem d_M_isWhite_24 : decode prog_8_method_18_code 24 = .ok (.goto 4, 3) := by decide +kernel
theorem d_M_isWhite_27 : decode prog_8_method_18_code 27 = .ok (.iconst 0, 1) := by decide +kernel
theorem d_M_isWhite_28 : decode prog_8_method_18_code 28 = .ok (.ireturn, 1) := by decide +kernel
theorem d_M_greys_0 : decode prog_8_method_19_code 0 = .ok (.iconst 0, 1) := by decide +kernel
theorem d_M_greys_1 : decode prog_8_method_19_code 1 = .ok (.istore_n 1, 1) := by decide +kernel
theorem d_M_greys_2 : decode prog_8_method_19_code 2 = .ok (.iconst 0, 1) := by decide +kernel
theorem d_M_greys_3 : decode prog_8_method_19_code 3 = .ok (.istore_n 2, 1) := by decide +kernel
theorem d_M_greys_4 : decode prog_8_method_19_code 4 = .ok (.iload_n 2, 1) := by decide +kernel
theorem d_M_greys_5 : decode prog_8_method_19_code 5 = .ok (.sipush 256, 3) := by decide +kernel
theorem d_M_greys_8 : decode prog_8_method_19_code 8 = .ok (.if_icmp .ge 37, 3) := by decide +kernel
theorem d_M_greys_11 : decode prog_8_method_19_code 11 = .ok (.aload_n 0, 1) := by decide +kernel
theorem d_M_greys_12 : decode prog_8_method_19_code 12 = .ok (.getfield 13, 3) := by decide +kernel
theorem d_M_greys_15 : decode prog_8_method_19_code 15 = .ok (.iload_n 2, 1) := by decide +kernel
theorem d_M_greys_16 : decode prog_8_method_19_code 16 = .ok (.iaload, 1) := by decide +kernel
theorem d_M_greys_17 : decode prog_8_method_19_code 17 = .ok (.iconst 2, 1) := by decide +kernel
theorem d_M_greys_18 : decode prog_8_method_19_code 18 = .ok (.if_icmp .ne 19, 3) := by decide +kernel
theorem d_M_greys_21 : decode prog_8_method_19_code 21 = .ok (.aload_n 0, 1) := by decide +kernel
theorem d_M_greys_22 : decode prog_8_method_19_code 22 = .ok (.getfield 28, 3) := by decide +kernel
theorem d_M_greys_25 : decode prog_8_method_19_code 25 = .ok (.iload_n 2, 1) := by decide +kernel
theorem d_M_greys_26 : decode prog_8_method_19_code 26 = .ok (.iaload, 1) := by decide +kernel
theorem d_M_greys_27 : decode prog_8_method_19_code 27 = .ok (.iconst 1, 1) := by decide +kernel
theorem d_M_greys_28 : decode prog_8_method_19_code 28 = .ok (.if_icmp .ne 9, 3) := by decide +kernel
theorem d_M_greys_31 : decode prog_8_method_19_code 31 = .ok (.iload_n 1, 1) := by decide +kernel
theorem d_M_greys_32 : decode prog_8_method_19_code 32 = .ok (.iconst 1, 1) := by decide +kernel
theorem d_M_greys_33 : decode prog_8_method_19_code 33 = .ok (.iadd, 1) := by decide +kernel
theorem d_M_greys_34 : decode prog_8_method_19_code 34 = .ok (.goto 4, 3) := by decide +kernel
theorem d_M_greys_37 : decode prog_8_method_19_code 37 = .ok (.iload_n 1, 1) := by decide +kernel
theorem d_M_greys_38 : decode prog_8_method_19_code 38 = .ok (.istore_n 1, 1) := by decide +kernel
theorem d_M_greys_39 : decode prog_8_method_19_code 39 = .ok (.iinc 2 1, 3) := by decide +kernel
theorem d_M_greys_42 : decode prog_8_method_19_code 42 = .ok (.goto (-38), 3) := by decide +kernel
theorem d_M_greys_45 : decode prog_8_method_19_code 45 = .ok (.iload_n 1, 1) := by decide +kernel
theorem d_M_greys_46 : decode prog_8_method_19_code 46 = .ok (.ireturn, 1) := by decide +kernel
theorem d_M_wait_0 : decode prog_8_method_20_code 0 = .ok (.iload_n 1, 1) := by decide +kernel
theorem d_M_wait_1 : decode prog_8_method_20_code 1 = .ok (.ifCond .lt 23, 3) := by decide +kernel
theorem d_M_wait_4 : decode prog_8_method_20_code 4 = .ok (.aload_n 0, 1) := by decide +kernel
theorem d_M_wait_5 : decode prog_8_method_20_code 5 = .ok (.getfield 57, 3) := by decide +kernel
theorem d_M_wait_8 : decode prog_8_method_20_code 8 = .ok (.aload_n 0, 1) := by decide +kernel
theorem d_M_wait_9 : decode prog_8_method_20_code 9 = .ok (.getfield 118, 3) := by decide +kernel
theorem d_M_wait_12 : decode prog_8_method_20_code 12 = .ok (.iload_n 1, 1) := by decide +kernel
theorem d_M_wait_13 : decode prog_8_method_20_code 13 = .ok (.iastore, 1) := by decide +kernel
theorem d_M_wait_14 : decode prog_8_method_20_code 14 = .ok (.aload_n 0, 1) := by decide +kernel
theorem d_M_wait_15 : decode prog_8_method_20_code 15 = .ok (.dup, 1) := by decide +kernel
theorem d_M_wait_16 : decode prog_8_method_20_code 16 = .ok (.getfield 118, 3) := by decide +kernel
theorem d_M_wait_19 : decode prog_8_method_20_code 19 = .ok (.iconst 1, 1) := by decide +kernel
theorem d_M_wait_20 : decode prog_8_method_20_code 20 = .ok (.iadd, 1) := by decide +kernel
theorem d_M_wait_21 : decode prog_8_method_20_code 21 = .ok (.putfield 118, 3) := by decide +kernel
theorem d_M_wait_24 : decode prog_8_method_20_code 24 = .ok (.return_, 1) := by decide +kernel
theorem d_M_vanish_0 : decode prog_8_method_21_code 0 = .ok (.iconst 0, 1) := by decide +kernel
theorem d_M_vanish_1 : decode prog_8_method_21_code 1 = .ok (.istore_n 2, 1) := by decide +kernel
theorem d_M_vanish_2 : decode prog_8_method_21_code 2 = .ok (.iload_n 2, 1) := by decide +kernel
theorem d_M_vanish_3 : decode prog_8_method_21_code 3 = .ok (.aload_n 0, 1) := by decide +kernel
theorem d_M_vanish_4 : decode prog_8_method_21_code 4 = .ok (.getfield 19, 3) := by decide +kernel
theorem d_M_vanish_7 : decode prog_8_method_21_code 7 = .ok (.iload_n 1, 1) := by decide +kernel
theorem d_M_vanish_8 : decode prog_8_method_21_code 8 = .ok (.iaload, 1) := by decide +kernel
theorem d_M_vanish_9 : decode prog_8_method_21_code 9 = .ok (.if_icmp .ge 51, 3) := by decide +kernel
theorem d_M_vanish_12 : decode prog_8_method_21_code 12 = .ok (.aload_n 0, 1) := by decide +kernel
theorem d_M_vanish_13 : decode prog_8_method_21_code 13 = .ok (.getfield 31, 3) := by decide +kernel
theorem d_M_vanish_16 : decode prog_8_method_21_code 16 = .ok (.bipush 12, 2) := by decide +kernel
theorem d_M_vanish_18 : decode prog_8_method_21_code 18 = .ok (.iload_n 1, 1) := by decide +kernel
theorem d_M_vanish_19 : decode prog_8_method_21_code 19 = .ok (.imul, 1) := by decide +kernel
theorem d_M_vanish_20 : decode prog_8_method_21_code 20 = .ok (.iload_n 2, 1) := by decide +kernel
theorem d_M_vanish_21 : decode prog_8_method_21_code 21 = .ok (.iadd, 1) := by decide +kernel
theorem d_M_vanish_22 : decode prog_8_method_21_code 22 = .ok (.iaload, 1) := by decide +kernel
theorem d_M_vanish_23 : decode prog_8_method_21_code 23 = .ok (.istore_n 3, 1) := by decide +kernel
theorem d_M_vanish_24 : decode prog_8_method_21_code 24 = .ok (.aload_n 0, 1) := by decide +kernel
theorem d_M_vanish_25 : decode prog_8_method_21_code 25 = .ok (.iload_n 3, 1) := by decide +kernel
theorem d_M_vanish_26 : decode prog_8_method_21_code 26 = .ok (.invokevirtual 121, 3) := by decide +kernel
theorem d_M_vanish_29 : decode prog_8_method_21_code 29 = .ok (.aload_n 0, 1) := by decide +kernel
theorem d_M_vanish_30 : decode prog_8_method_21_code 30 = .ok (.getfield 28, 3) := by decide +kernel
theorem d_M_vanish_33 : decode prog_8_method_21_code 33 = .ok (.iload_n 1, 1) := by decide +kernel
theorem d_M_vanish_34 : decode prog_8_method_21_code 34 = .ok (.iaload, 1) := by decide +kernel
theorem d_M_vanish_35 : decode prog_8_method_21_code 35 = .ok (.iconst 1, 1) := by decide +kernel
theorem d_M_vanish_36 : decode prog_8_method_21_code 36 = .ok (.if_icmp .ne 18, 3) := by decide +kernel
theorem d_M_vanish_39 : decode prog_8_method_21_code 39 = .ok (.aload_n 0, 1) := by decide +kernel
theorem d_M_vanish_40 : decode prog_8_method_21_code 40 = .ok (.iload_n 3, 1) := by decide +kernel
theorem d_M_vanish_41 : decode prog_8_method_21_code 41 = .ok (.invokevirtual 125, 3) := by decide +kernel
theorem d_M_vanish_44 : decode prog_8_method_21_code 44 = .ok (.ifCond .eq 10, 3) := by decide +kernel
theorem d_M_vanish_47 : decode prog_8_method_21_code 47 = .ok (.aload_n 0, 1) := by decide +kernel
theorem d_M_vanish_48 : decode prog_8_method_21_code 48 = .ok (.getfield 28, 3) := by decide +kernel
theorem d_M_vanish_51 : decode prog_8_method_21_code 51 = .ok (.iload_n 3, 1) := by decide +kernel
theorem d_M_vanish_52 : decode prog_8_method_21_code 52 = .ok (.iconst 1, 1) := by decide +kernel
theorem d_M_vanish_53 : decode prog_8_method_21_code 53 = .ok (.iastore, 1) := by decide +kernel
theorem d_M_vanish_54 : decode prog_8_method_21_code 54 = .ok (.iinc 2 1, 3) := by decide +kernel
theorem d_M_vanish_57 : decode prog_8_method_21_code 57 = .ok (.goto (-55), 3) := by decide +kernel
theorem d_M_vanish_60 : decode prog_8_method_21_code 60 = .ok (.aload_n 0, 1) := by decide +kernel
theorem d_M_vanish_61 : decode prog_8_method_21_code 61 = .ok (.iload_n 1, 1) := by decide +kernel
theorem d_M_vanish_62 : decode prog_8_method_21_code 62 = .ok (.invokevirtual 128, 3) := by decide +kernel
theorem d_M_vanish_65 : decode prog_8_method_21_code 65 = .ok (.return_, 1) := by decide +kernel
theorem d_M_drainOne_0 : decode prog_8_method_22_code 0 = .ok (.aload_n 0, 1) := by decide +kernel
theorem d_M_drainOne_1 : decode prog_8_method_22_code 1 = .ok (.getfield 57, 3) := by decide +kernel
theorem d_M_drainOne_4 : decode prog_8_method_22_code 4 = .ok (.iconst 0, 1) := by decide +kernel
theorem d_M_drainOne_5 : decode prog_8_method_22_code 5 = .ok (.iaload, 1) := by decide +kernel
theorem d_M_drainOne_6 : decode prog_8_method_22_code 6 = .ok (.istore_n 1, 1) := by decide +kernel
theorem d_M_drainOne_7 : decode prog_8_method_22_code 7 = .ok (.aload_n 0, 1) := by decide +kernel
theorem d_M_drainOne_8 : decode prog_8_method_22_code 8 = .ok (.dup, 1) := by decide +kernel
theorem d_M_drainOne_9 : decode prog_8_method_22_code 9 = .ok (.getfield 118, 3) := by decide +kernel
theorem d_M_drainOne_12 : decode prog_8_method_22_code 12 = .ok (.iconst 1, 1) := by decide +kernel
theorem d_M_drainOne_13 : decode prog_8_method_22_code 13 = .ok (.isub, 1) := by decide +kernel
theorem d_M_drainOne_14 : decode prog_8_method_22_code 14 = .ok (.putfield 118, 3) := by decide +kernel
theorem d_M_drainOne_17 : decode prog_8_method_22_code 17 = .ok (.iconst 0, 1) := by decide +kernel
theorem d_M_drainOne_18 : decode prog_8_method_22_code 18 = .ok (.istore_n 2, 1) := by decide +kernel
theorem d_M_drainOne_19 : decode prog_8_method_22_code 19 = .ok (.iload_n 2, 1) := by decide +kernel
theorem d_M_drainOne_20 : decode prog_8_method_22_code 20 = .ok (.aload_n 0, 1) := by decide +kernel
theorem d_M_drainOne_21 : decode prog_8_method_22_code 21 = .ok (.getfield 118, 3) := by decide +kernel
theorem d_M_drainOne_24 : decode prog_8_method_22_code 24 = .ok (.if_icmp .ge 23, 3) := by decide +kernel
theorem d_M_drainOne_27 : decode prog_8_method_22_code 27 = .ok (.aload_n 0, 1) := by decide +kernel
theorem d_M_drainOne_28 : decode prog_8_method_22_code 28 = .ok (.getfield 57, 3) := by decide +kernel
theorem d_M_drainOne_31 : decode prog_8_method_22_code 31 = .ok (.iload_n 2, 1) := by decide +kernel
theorem d_M_drainOne_32 : decode prog_8_method_22_code 32 = .ok (.aload_n 0, 1) := by decide +kernel
theorem d_M_drainOne_33 : decode prog_8_method_22_code 33 = .ok (.getfield 57, 3) := by decide +kernel
theorem d_M_drainOne_36 : decode prog_8_method_22_code 36 = .ok (.iload_n 2, 1) := by decide +kernel
theorem d_M_drainOne_37 : decode prog_8_method_22_code 37 = .ok (.iconst 1, 1) := by decide +kernel
theorem d_M_drainOne_38 : decode prog_8_method_22_code 38 = .ok (.iadd, 1) := by decide +kernel
theorem d_M_drainOne_39 : decode prog_8_method_22_code 39 = .ok (.iaload, 1) := by decide +kernel
theorem d_M_drainOne_40 : decode prog_8_method_22_code 40 = .ok (.iastore, 1) := by decide +kernel
theorem d_M_drainOne_41 : decode prog_8_method_22_code 41 = .ok (.iinc 2 1, 3) := by decide +kernel
theorem d_M_drainOne_44 : decode prog_8_method_22_code 44 = .ok (.goto (-25), 3) := by decide +kernel
theorem d_M_drainOne_47 : decode prog_8_method_22_code 47 = .ok (.aload_n 0, 1) := by decide +kernel
theorem d_M_drainOne_48 : decode prog_8_method_22_code 48 = .ok (.getfield 13, 3) := by decide +kernel
theorem d_M_drainOne_51 : decode prog_8_method_22_code 51 = .ok (.iload_n 1, 1) := by decide +kernel
theorem d_M_drainOne_52 : decode prog_8_method_22_code 52 = .ok (.iaload, 1) := by decide +kernel
theorem d_M_drainOne_53 : decode prog_8_method_22_code 53 = .ok (.iconst 2, 1) := by decide +kernel
theorem d_M_drainOne_54 : decode prog_8_method_22_code 54 = .ok (.if_icmp .ne 37, 3) := by decide +kernel
theorem d_M_drainOne_57 : decode prog_8_method_22_code 57 = .ok (.aload_n 0, 1) := by decide +kernel
theorem d_M_drainOne_58 : decode prog_8_method_22_code 58 = .ok (.getfield 25, 3) := by decide +kernel
theorem d_M_drainOne_61 : decode prog_8_method_22_code 61 = .ok (.iload_n 1, 1) := by decide +kernel
theorem d_M_drainOne_62 : decode prog_8_method_22_code 62 = .ok (.iaload, 1) := by decide +kernel
theorem d_M_drainOne_63 : decode prog_8_method_22_code 63 = .ok (.iconst 3, 1) := by decide +kernel
theorem d_M_drainOne_64 : decode prog_8_method_22_code 64 = .ok (.if_icmp .ge 27, 3) := by decide +kernel
theorem d_M_drainOne_67 : decode prog_8_method_22_code 67 = .ok (.aload_n 0, 1) := by decide +kernel
theorem d_M_drainOne_68 : decode prog_8_method_22_code 68 = .ok (.getfield 25, 3) := by decide +kernel
theorem d_M_drainOne_71 : decode prog_8_method_22_code 71 = .ok (.iload_n 1, 1) := by decide +kernel
theorem d_M_drainOne_72 : decode prog_8_method_22_code 72 = .ok (.dup2, 1) := by decide +kernel
theorem d_M_drainOne_73 : decode prog_8_method_22_code 73 = .ok (.iaload, 1) := by decide +kernel
theorem d_M_drainOne_74 : decode prog_8_method_22_code 74 = .ok (.iconst 1, 1) := by decide +kernel
theorem d_M_drainOne_75 : decode prog_8_method_22_code 75 = .ok (.isub, 1) := by decide +kernel
theorem d_M_drainOne_76 : decode prog_8_method_22_code 76 = .ok (.iastore, 1) := by decide +kernel
theorem d_M_drainOne_77 : decode prog_8_method_22_code 77 = .ok (.aload_n 0, 1) := by decide +kernel
theorem d_M_drainOne_78 : decode prog_8_method_22_code 78 = .ok (.getfield 25, 3) := by decide +kernel
theorem d_M_drainOne_81 : decode prog_8_method_22_code 81 = .ok (.iload_n 1, 1) := by decide +kernel
theorem d_M_drainOne_82 : decode prog_8_method_22_code 82 = .ok (.iaload, 1) := by decide +kernel
theorem d_M_drainOne_83 : decode prog_8_method_22_code 83 = .ok (.ifCond .ne 8, 3) := by decide +kernel
theorem d_M_drainOne_86 : decode prog_8_method_22_code 86 = .ok (.aload_n 0, 1) := by decide +kernel
theorem d_M_drainOne_87 : decode prog_8_method_22_code 87 = .ok (.iload_n 1, 1) := by decide +kernel
theorem d_M_drainOne_88 : decode prog_8_method_22_code 88 = .ok (.invokevirtual 131, 3) := by decide +kernel
theorem d_M_drainOne_91 : decode prog_8_method_22_code 91 = .ok (.return_, 1) := by decide +kernel
theorem d_M_drainAll_0 : decode prog_8_method_23_code 0 = .ok (.aload_n 0, 1) := by decide +kernel
theorem d_M_drainAll_1 : decode prog_8_method_23_code 1 = .ok (.getfield 118, 3) := by decide +kernel
theorem d_M_drainAll_4 : decode prog_8_method_23_code 4 = .ok (.ifCond .le 10, 3) := by decide +kernel
theorem d_M_drainAll_7 : decode prog_8_method_23_code 7 = .ok (.aload_n 0, 1) := by decide +kernel
theorem d_M_drainAll_8 : decode prog_8_method_23_code 8 = .ok (.invokevirtual 134, 3) := by decide +kernel
theorem d_M_drainAll_11 : decode prog_8_method_23_code 11 = .ok (.goto (-11), 3) := by decide +kernel
theorem d_M_drainAll_14 : decode prog_8_method_23_code 14 = .ok (.return_, 1) := by decide +kernel
theorem d_M_step_0 : decode prog_8_method_24_code 0 = .ok (.iconst 0, 1) := by decide +kernel
theorem d_M_step_1 : decode prog_8_method_24_code 1 = .ok (.istore_n 1, 1) := by decide +kernel
theorem d_M_step_2 : decode prog_8_method_24_code 2 = .ok (.aload_n 0, 1) := by decide +kernel
theorem d_M_step_3 : decode prog_8_method_24_code 3 = .ok (.iload_n 1, 1) := by decide +kernel
theorem d_M_step_4 : decode prog_8_method_24_code 4 = .ok (.invokevirtual 137, 3) := by decide +kernel
theorem d_M_step_7 : decode prog_8_method_24_code 7 = .ok (.ifCond .lt 31, 3) := by decide +kernel
theorem d_M_step_10 : decode prog_8_method_24_code 10 = .ok (.aload_n 0, 1) := by decide +kernel
theorem d_M_step_11 : decode prog_8_method_24_code 11 = .ok (.getfield 13, 3) := by decide +kernel
theorem d_M_step_14 : decode prog_8_method_24_code 14 = .ok (.aload_n 0, 1) := by decide +kernel
theorem d_M_step_15 : decode prog_8_method_24_code 15 = .ok (.iload_n 1, 1) := by decide +kernel
theorem d_M_step_16 : decode prog_8_method_24_code 16 = .ok (.invokevirtual 137, 3) := by decide +kernel
theorem d_M_step_19 : decode prog_8_method_24_code 19 = .ok (.iaload, 1) := by decide +kernel
theorem d_M_step_20 : decode prog_8_method_24_code 20 = .ok (.iconst 2, 1) := by decide +kernel
theorem d_M_step_21 : decode prog_8_method_24_code 21 = .ok (.if_icmp .ne 17, 3) := by decide +kernel
theorem d_M_step_24 : decode prog_8_method_24_code 24 = .ok (.aload_n 0, 1) := by decide +kernel
theorem d_M_step_25 : decode prog_8_method_24_code 25 = .ok (.getfield 28, 3) := by decide +kernel
theorem d_M_step_28 : decode prog_8_method_24_code 28 = .ok (.aload_n 0, 1) := by decide +kernel
theorem d_M_step_29 : decode prog_8_method_24_code 29 = .ok (.iload_n 1, 1) := by decide +kernel
theorem d_M_step_30 : decode prog_8_method_24_code 30 = .ok (.invokevirtual 137, 3) := by decide +kernel
theorem d_M_step_33 : decode prog_8_method_24_code 33 = .ok (.iaload, 1) := by decide +kernel
theorem d_M_step_34 : decode prog_8_method_24_code 34 = .ok (.iconst 1, 1) := by decide +kernel
theorem d_M_step_35 : decode prog_8_method_24_code 35 = .ok (.if_icmp .eq 9, 3) := by decide +kernel
theorem d_M_step_38 : decode prog_8_method_24_code 38 = .ok (.iinc 1 1, 3) := by decide +kernel
theorem d_M_step_41 : decode prog_8_method_24_code 41 = .ok (.goto (-39), 3) := by decide +kernel
theorem d_M_step_44 : decode prog_8_method_24_code 44 = .ok (.aload_n 0, 1) := by decide +kernel
theorem d_M_step_45 : decode prog_8_method_24_code 45 = .ok (.iload_n 1, 1) := by decide +kernel
theorem d_M_step_46 : decode prog_8_method_24_code 46 = .ok (.invokevirtual 137, 3) := by decide +kernel
theorem d_M_step_49 : decode prog_8_method_24_code 49 = .ok (.istore_n 2, 1) := by decide +kernel
theorem d_M_step_50 : decode prog_8_method_24_code 50 = .ok (.aload_n 0, 1) := by decide +kernel
theorem d_M_step_51 : decode prog_8_method_24_code 51 = .ok (.getfield 28, 3) := by decide +kernel
theorem d_M_step_54 : decode prog_8_method_24_code 54 = .ok (.iload_n 2, 1) := by decide +kernel
theorem d_M_step_55 : decode prog_8_method_24_code 55 = .ok (.iconst 2, 1) := by decide +kernel
theorem d_M_step_56 : decode prog_8_method_24_code 56 = .ok (.iastore, 1) := by decide +kernel
theorem d_M_step_57 : decode prog_8_method_24_code 57 = .ok (.iconst 0, 1) := by decide +kernel
theorem d_M_step_58 : decode prog_8_method_24_code 58 = .ok (.istore_n 3, 1) := by decide +kernel
theorem d_M_step_59 : decode prog_8_method_24_code 59 = .ok (.iload_n 3, 1) := by decide +kernel
theorem d_M_step_60 : decode prog_8_method_24_code 60 = .ok (.aload_n 0, 1) := by decide +kernel
theorem d_M_step_61 : decode prog_8_method_24_code 61 = .ok (.getfield 19, 3) := by decide +kernel
theorem d_M_step_64 : decode prog_8_method_24_code 64 = .ok (.iload_n 2, 1) := by decide +kernel
theorem d_M_step_65 : decode prog_8_method_24_code 65 = .ok (.iaload, 1) := by decide +kernel
theorem d_M_step_66 : decode prog_8_method_24_code 66 = .ok (.if_icmp .ge 39, 3) := by decide +kernel
theorem d_M_step_69 : decode prog_8_method_24_code 69 = .ok (.aload_n 0, 1) := by decide +kernel
theorem d_M_step_70 : decode prog_8_method_24_code 70 = .ok (.getfield 31, 3) := by decide +kernel
theorem d_M_step_73 : decode prog_8_method_24_code 73 = .ok (.bipush 12, 2) := by decide +kernel
theorem d_M_step_75 : decode prog_8_method_24_code 75 = .ok (.iload_n 2, 1) := by decide +kernel
theorem d_M_step_76 : decode prog_8_method_24_code 76 = .ok (.imul, 1) := by decide +kernel
theorem d_M_step_77 : decode prog_8_method_24_code 77 = .ok (.iload_n 3, 1) := by decide +kernel
theorem d_M_step_78 : decode prog_8_method_24_code 78 = .ok (.iadd, 1) := by decide +kernel
theorem d_M_step_79 : decode prog_8_method_24_code 79 = .ok (.iaload, 1) := by decide +kernel
theorem d_M_step_80 : decode prog_8_method_24_code 80 = .ok (.istore 4, 2) := by decide +kernel
theorem d_M_step_82 : decode prog_8_method_24_code 82 = .ok (.aload_n 0, 1) := by decide +kernel
theorem d_M_step_83 : decode prog_8_method_24_code 83 = .ok (.iload 4, 2) := by decide +kernel
theorem d_M_step_85 : decode prog_8_method_24_code 85 = .ok (.invokevirtual 125, 3) := by decide +kernel
theorem d_M_step_88 : decode prog_8_method_24_code 88 = .ok (.ifCond .eq 11, 3) := by decide +kernel
theorem d_M_step_91 : decode prog_8_method_24_code 91 = .ok (.aload_n 0, 1) := by decide +kernel
theorem d_M_step_92 : decode prog_8_method_24_code 92 = .ok (.getfield 28, 3) := by decide +kernel
theorem d_M_step_95 : decode prog_8_method_24_code 95 = .ok (.iload 4, 2) := by decide +kernel
theorem d_M_step_97 : decode prog_8_method_24_code 97 = .ok (.iconst 1, 1) := by decide +kernel
theorem d_M_step_98 : decode prog_8_method_24_code 98 = .ok (.iastore, 1) := by decide +kernel
theorem d_M_step_99 : decode prog_8_method_24_code 99 = .ok (.iinc 3 1, 3) := by decide +kernel
theorem d_M_step_102 : decode prog_8_method_24_code 102 = .ok (.goto (-43), 3) := by decide +kernel
theorem d_M_step_105 : decode prog_8_method_24_code 105 = .ok (.return_, 1) := by decide +kernel
theorem d_M_addSlot_0 : decode prog_8_method_25_code 0 = .ok (.aload_n 0, 1) := by decide +kernel
theorem d_M_addSlot_1 : decode prog_8_method_25_code 1 = .ok (.getfield 66, 3) := by decide +kernel
theorem d_M_addSlot_4 : decode prog_8_method_25_code 4 = .ok (.aload_n 0, 1) := by decide +kernel
theorem d_M_addSlot_5 : decode prog_8_method_25_code 5 = .ok (.getfield 140, 3) := by decide +kernel
theorem d_M_addSlot_8 : decode prog_8_method_25_code 8 = .ok (.iload_n 1, 1) := by decide +kernel
theorem d_M_addSlot_9 : decode prog_8_method_25_code 9 = .ok (.iastore, 1) := by decide +kernel
theorem d_M_addSlot_10 : decode prog_8_method_25_code 10 = .ok (.aload_n 0, 1) := by decide +kernel
theorem d_M_addSlot_11 : decode prog_8_method_25_code 11 = .ok (.dup, 1) := by decide +kernel
theorem d_M_addSlot_12 : decode prog_8_method_25_code 12 = .ok (.getfield 140, 3) := by decide +kernel
theorem d_M_addSlot_15 : decode prog_8_method_25_code 15 = .ok (.iconst 1, 1) := by decide +kernel
theorem d_M_addSlot_16 : decode prog_8_method_25_code 16 = .ok (.iadd, 1) := by decide +kernel
theorem d_M_addSlot_17 : decode prog_8_method_25_code 17 = .ok (.putfield 140, 3) := by decide +kernel
theorem d_M_addSlot_20 : decode prog_8_method_25_code 20 = .ok (.return_, 1) := by decide +kernel
theorem d_M_survive_0 : decode prog_8_method_26_code 0 = .ok (.aload_n 0, 1) := by decide +kernel
theorem d_M_survive_1 : decode prog_8_method_26_code 1 = .ok (.getfield 13, 3) := by decide +kernel
theorem d_M_survive_4 : decode prog_8_method_26_code 4 = .ok (.iload_n 1, 1) := by decide +kernel
theorem d_M_survive_5 : decode prog_8_method_26_code 5 = .ok (.iconst 2, 1) := by decide +kernel
theorem d_M_survive_6 : decode prog_8_method_26_code 6 = .ok (.iastore, 1) := by decide +kernel
theorem d_M_survive_7 : decode prog_8_method_26_code 7 = .ok (.aload_n 0, 1) := by decide +kernel
theorem d_M_survive_8 : decode prog_8_method_26_code 8 = .ok (.getfield 25, 3) := by decide +kernel
theorem d_M_survive_11 : decode prog_8_method_26_code 11 = .ok (.iload_n 1, 1) := by decide +kernel
theorem d_M_survive_12 : decode prog_8_method_26_code 12 = .ok (.iconst 1, 1) := by decide +kernel
theorem d_M_survive_13 : decode prog_8_method_26_code 13 = .ok (.iastore, 1) := by decide +kernel
theorem d_M_survive_14 : decode prog_8_method_26_code 14 = .ok (.aload_n 0, 1) := by decide +kernel
theorem d_M_survive_15 : decode prog_8_method_26_code 15 = .ok (.getfield 28, 3) := by decide +kernel
theorem d_M_survive_18 : decode prog_8_method_26_code 18 = .ok (.iload_n 1, 1) := by decide +kernel
theorem d_M_survive_19 : decode prog_8_method_26_code 19 = .ok (.aload_n 0, 1) := by decide +kernel
theorem d_M_survive_20 : decode prog_8_method_26_code 20 = .ok (.getfield 143, 3) := by decide +kernel
theorem d_M_survive_23 : decode prog_8_method_26_code 23 = .ok (.ifCond .eq 7, 3) := by decide +kernel
theorem d_M_survive_26 : decode prog_8_method_26_code 26 = .ok (.iconst 2, 1) := by decide +kernel
theorem d_M_survive_27 : decode prog_8_method_26_code 27 = .ok (.goto 4, 3) := by decide +kernel
theorem d_M_survive_30 : decode prog_8_method_26_code 30 = .ok (.iconst 0, 1) := by decide +kernel
theorem d_M_survive_31 : decode prog_8_method_26_code 31 = .ok (.iastore, 1) := by decide +kernel
theorem d_M_survive_32 : decode prog_8_method_26_code 32 = .ok (.aload_n 0, 1) := by decide +kernel
theorem d_M_survive_33 : decode prog_8_method_26_code 33 = .ok (.iload_n 1, 1) := by decide +kernel
theorem d_M_survive_34 : decode prog_8_method_26_code 34 = .ok (.invokevirtual 147, 3) := by decide +kernel
theorem d_M_survive_37 : decode prog_8_method_26_code 37 = .ok (.iconst 0, 1) := by decide +kernel
theorem d_M_survive_38 : decode prog_8_method_26_code 38 = .ok (.istore_n 2, 1) := by decide +kernel
theorem d_M_survive_39 : decode prog_8_method_26_code 39 = .ok (.iload_n 2, 1) := by decide +kernel
theorem d_M_survive_40 : decode prog_8_method_26_code 40 = .ok (.aload_n 0, 1) := by decide +kernel
theorem d_M_survive_41 : decode prog_8_method_26_code 41 = .ok (.getfield 19, 3) := by decide +kernel
theorem d_M_survive_44 : decode prog_8_method_26_code 44 = .ok (.iload_n 1, 1) := by decide +kernel
theorem d_M_survive_45 : decode prog_8_method_26_code 45 = .ok (.iaload, 1) := by decide +kernel
theorem d_M_survive_46 : decode prog_8_method_26_code 46 = .ok (.if_icmp .ge 22, 3) := by decide +kernel
theorem d_M_survive_49 : decode prog_8_method_26_code 49 = .ok (.aload_n 0, 1) := by decide +kernel
theorem d_M_survive_50 : decode prog_8_method_26_code 50 = .ok (.bipush 6, 2) := by decide +kernel
theorem d_M_survive_52 : decode prog_8_method_26_code 52 = .ok (.bipush 12, 2) := by decide +kernel
theorem d_M_survive_54 : decode prog_8_method_26_code 54 = .ok (.iload_n 1, 1) := by decide +kernel
theorem d_M_survive_55 : decode prog_8_method_26_code 55 = .ok (.imul, 1) := by decide +kernel
theorem d_M_survive_56 : decode prog_8_method_26_code 56 = .ok (.iadd, 1) := by decide +kernel
theorem d_M_survive_57 : decode prog_8_method_26_code 57 = .ok (.iload_n 2, 1) := by decide +kernel
theorem d_M_survive_58 : decode prog_8_method_26_code 58 = .ok (.iadd, 1) := by decide +kernel
theorem d_M_survive_59 : decode prog_8_method_26_code 59 = .ok (.invokevirtual 150, 3) := by decide +kernel
theorem d_M_survive_62 : decode prog_8_method_26_code 62 = .ok (.iinc 2 1, 3) := by decide +kernel
theorem d_M_survive_65 : decode prog_8_method_26_code 65 = .ok (.goto (-26), 3) := by decide +kernel
theorem d_M_survive_68 : decode prog_8_method_26_code 68 = .ok (.return_, 1) := by decide +kernel
theorem d_M_countSlots_0 : decode prog_8_method_27_code 0 = .ok (.aload_n 0, 1) := by decide +kernel
theorem d_M_countSlots_1 : decode prog_8_method_27_code 1 = .ok (.iconst 0, 1) := by decide +kernel
theorem d_M_countSlots_2 : decode prog_8_method_27_code 2 = .ok (.putfield 140, 3) := by decide +kernel
theorem d_M_countSlots_5 : decode prog_8_method_27_code 5 = .ok (.iconst 0, 1) := by decide +kernel
theorem d_M_countSlots_6 : decode prog_8_method_27_code 6 = .ok (.istore_n 1, 1) := by decide +kernel
theorem d_M_countSlots_7 : decode prog_8_method_27_code 7 = .ok (.iload_n 1, 1) := by decide +kernel
theorem d_M_countSlots_8 : decode prog_8_method_27_code 8 = .ok (.bipush 6, 2) := by decide +kernel
theorem d_M_countSlots_10 : decode prog_8_method_27_code 10 = .ok (.if_icmp .ge 14, 3) := by decide +kernel
theorem d_M_countSlots_13 : decode prog_8_method_27_code 13 = .ok (.aload_n 0, 1) := by decide +kernel
theorem d_M_countSlots_14 : decode prog_8_method_27_code 14 = .ok (.iload_n 1, 1) := by decide +kernel
theorem d_M_countSlots_15 : decode prog_8_method_27_code 15 = .ok (.invokevirtual 150, 3) := by decide +kernel
theorem d_M_countSlots_18 : decode prog_8_method_27_code 18 = .ok (.iinc 1 1, 3) := by decide +kernel
theorem d_M_countSlots_21 : decode prog_8_method_27_code 21 = .ok (.goto (-14), 3) := by decide +kernel
theorem d_M_countSlots_24 : decode prog_8_method_27_code 24 = .ok (.iconst 0, 1) := by decide +kernel
theorem d_M_countSlots_25 : decode prog_8_method_27_code 25 = .ok (.istore_n 1, 1) := by decide +kernel
theorem d_M_countSlots_26 : decode prog_8_method_27_code 26 = .ok (.iload_n 1, 1) := by decide +kernel
theorem d_M_countSlots_27 : decode prog_8_method_27_code 27 = .ok (.aload_n 0, 1) := by decide +kernel
theorem d_M_countSlots_28 : decode prog_8_method_27_code 28 = .ok (.getfield 153, 3) := by decide +kernel
theorem d_M_countSlots_31 : decode prog_8_method_27_code 31 = .ok (.if_icmp .ge 22, 3) := by decide +kernel
theorem d_M_countSlots_34 : decode prog_8_method_27_code 34 = .ok (.aload_n 0, 1) := by decide +kernel
theorem d_M_countSlots_35 : decode prog_8_method_27_code 35 = .ok (.bipush 6, 2) := by decide +kernel
theorem d_M_countSlots_37 : decode prog_8_method_27_code 37 = .ok (.aload_n 0, 1) := by decide +kernel
theorem d_M_countSlots_38 : decode prog_8_method_27_code 38 = .ok (.getfield 60, 3) := by decide +kernel
theorem d_M_countSlots_41 : decode prog_8_method_27_code 41 = .ok (.iload_n 1, 1) := by decide +kernel
theorem d_M_countSlots_42 : decode prog_8_method_27_code 42 = .ok (.iaload, 1) := by decide +kernel
theorem d_M_countSlots_43 : decode prog_8_method_27_code 43 = .ok (.iadd, 1) := by decide +kernel
theorem d_M_countSlots_44 : decode prog_8_method_27_code 44 = .ok (.invokevirtual 150, 3) := by decide +kernel
theorem d_M_countSlots_47 : decode prog_8_method_27_code 47 = .ok (.iinc 1 1, 3) := by decide +kernel
theorem d_M_countSlots_50 : decode prog_8_method_27_code 50 = .ok (.goto (-24), 3) := by decide +kernel
theorem d_M_countSlots_53 : decode prog_8_method_27_code 53 = .ok (.iconst 0, 1) := by decide +kernel
theorem d_M_countSlots_54 : decode prog_8_method_27_code 54 = .ok (.istore_n 1, 1) := by decide +kernel
theorem d_M_countSlots_55 : decode prog_8_method_27_code 55 = .ok (.iconst 0, 1) := by decide +kernel
theorem d_M_countSlots_56 : decode prog_8_method_27_code 56 = .ok (.istore_n 2, 1) := by decide +kernel
theorem d_M_countSlots_57 : decode prog_8_method_27_code 57 = .ok (.iload_n 2, 1) := by decide +kernel
theorem d_M_countSlots_58 : decode prog_8_method_27_code 58 = .ok (.aload_n 0, 1) := by decide +kernel
theorem d_M_countSlots_59 : decode prog_8_method_27_code 59 = .ok (.getfield 140, 3) := by decide +kernel
theorem d_M_countSlots_62 : decode prog_8_method_27_code 62 = .ok (.if_icmp .ge 116, 3) := by decide +kernel
theorem d_M_countSlots_65 : decode prog_8_method_27_code 65 = .ok (.aload_n 0, 1) := by decide +kernel
theorem d_M_countSlots_66 : decode prog_8_method_27_code 66 = .ok (.getfield 66, 3) := by decide +kernel
theorem d_M_countSlots_69 : decode prog_8_method_27_code 69 = .ok (.iload_n 2, 1) := by decide +kernel
theorem d_M_countSlots_70 : decode prog_8_method_27_code 70 = .ok (.iaload, 1) := by decide +kernel
theorem d_M_countSlots_71 : decode prog_8_method_27_code 71 = .ok (.bipush 6, 2) := by decide +kernel
theorem d_M_countSlots_73 : decode prog_8_method_27_code 73 = .ok (.if_icmp .ge 17, 3) := by decide +kernel
theorem d_M_countSlots_76 : decode prog_8_method_27_code 76 = .ok (.aload_n 0, 1) := by decide +kernel
theorem d_M_countSlots_77 : decode prog_8_method_27_code 77 = .ok (.getfield 38, 3) := by decide +kernel
theorem d_M_countSlots_80 : decode prog_8_method_27_code 80 = .ok (.aload_n 0, 1) := by decide +kernel
theorem d_M_countSlots_81 : decode prog_8_method_27_code 81 = .ok (.getfield 66, 3) := by decide +kernel
theorem d_M_countSlots_84 : decode prog_8_method_27_code 84 = .ok (.iload_n 2, 1) := by decide +kernel
theorem d_M_countSlots_85 : decode prog_8_method_27_code 85 = .ok (.iaload, 1) := by decide +kernel
theorem d_M_countSlots_86 : decode prog_8_method_27_code 86 = .ok (.iaload, 1) := by decide +kernel
theorem d_M_countSlots_87 : decode prog_8_method_27_code 87 = .ok (.goto 17, 3) := by decide +kernel
theorem d_M_countSlots_90 : decode prog_8_method_27_code 90 = .ok (.aload_n 0, 1) := by decide +kernel
theorem d_M_countSlots_91 : decode prog_8_method_27_code 91 = .ok (.getfield 31, 3) := by decide +kernel
end
section
/-! Instructions (written by a program) -/
theorem d_M_countSlots_94 : decode prog_8_method_27_code 94 = .ok (.aload_n 0, 1) := by decide +kernel
theorem d_M_countSlots_95 : decode prog_8_method_27_code 95 = .ok (.getfield 66, 3) := by decide +kernel
theorem d_M_countSlots_98 : decode prog_8_method_27_code 98 = .ok (.iload_n 2, 1) := by decide +kernel
theorem d_M_countSlots_99 : decode prog_8_method_27_code 99 = .ok (.iaload, 1) := by decide +kernel
theorem d_M_countSlots_100 : decode prog_8_method_27_code 100 = .ok (.bipush 6, 2) := by decide +kernel
theorem d_M_countSlots_102 : decode prog_8_method_27_code 102 = .ok (.isub, 1) := by decide +kernel
theorem d_M_countSlots_103 : decode prog_8_method_27_code 103 = .ok (.iaload, 1) := by decide +kernel
theorem d_M_countSlots_104 : decode prog_8_method_27_code 104 = .ok (.istore_n 3, 1) := by decide +kernel
theorem d_M_countSlots_105 : decode prog_8_method_27_code 105 = .ok (.iload_n 3, 1) := by decide +kernel
theorem d_M_countSlots_106 : decode prog_8_method_27_code 106 = .ok (.ifCond .lt 44, 3) := by decide +kernel
theorem d_M_countSlots_109 : decode prog_8_method_27_code 109 = .ok (.aload_n 0, 1) := by decide +kernel
theorem d_M_countSlots_110 : decode prog_8_method_27_code 110 = .ok (.getfield 13, 3) := by decide +kernel
theorem d_M_countSlots_113 : decode prog_8_method_27_code 113 = .ok (.iload_n 3, 1) := by decide +kernel
theorem d_M_countSlots_114 : decode prog_8_method_27_code 114 = .ok (.iaload, 1) := by decide +kernel
theorem d_M_countSlots_115 : decode prog_8_method_27_code 115 = .ok (.iconst 2, 1) := by decide +kernel
theorem d_M_countSlots_116 : decode prog_8_method_27_code 116 = .ok (.if_icmp .ne 34, 3) := by decide +kernel
theorem d_M_countSlots_119 : decode prog_8_method_27_code 119 = .ok (.aload_n 0, 1) := by decide +kernel
theorem d_M_countSlots_120 : decode prog_8_method_27_code 120 = .ok (.getfield 25, 3) := by decide +kernel
theorem d_M_countSlots_123 : decode prog_8_method_27_code 123 = .ok (.iload_n 3, 1) := by decide +kernel
theorem d_M_countSlots_124 : decode prog_8_method_27_code 124 = .ok (.aload_n 0, 1) := by decide +kernel
theorem d_M_countSlots_125 : decode prog_8_method_27_code 125 = .ok (.getfield 25, 3) := by decide +kernel
theorem d_M_countSlots_128 : decode prog_8_method_27_code 128 = .ok (.iload_n 3, 1) := by decide +kernel
theorem d_M_countSlots_129 : decode prog_8_method_27_code 129 = .ok (.iaload, 1) := by decide +kernel
theorem d_M_countSlots_130 : decode prog_8_method_27_code 130 = .ok (.iconst 3, 1) := by decide +kernel
theorem d_M_countSlots_131 : decode prog_8_method_27_code 131 = .ok (.if_icmp .ge 14, 3) := by decide +kernel
theorem d_M_countSlots_134 : decode prog_8_method_27_code 134 = .ok (.aload_n 0, 1) := by decide +kernel
theorem d_M_countSlots_135 : decode prog_8_method_27_code 135 = .ok (.getfield 25, 3) := by decide +kernel
theorem d_M_countSlots_138 : decode prog_8_method_27_code 138 = .ok (.iload_n 3, 1) := by decide +kernel
theorem d_M_countSlots_139 : decode prog_8_method_27_code 139 = .ok (.iaload, 1) := by decide +kernel
theorem d_M_countSlots_140 : decode prog_8_method_27_code 140 = .ok (.iconst 1, 1) := by decide +kernel
theorem d_M_countSlots_141 : decode prog_8_method_27_code 141 = .ok (.iadd, 1) := by decide +kernel
theorem d_M_countSlots_142 : decode prog_8_method_27_code 142 = .ok (.goto 4, 3) := by decide +kernel
theorem d_M_countSlots_145 : decode prog_8_method_27_code 145 = .ok (.iconst 3, 1) := by decide +kernel
theorem d_M_countSlots_146 : decode prog_8_method_27_code 146 = .ok (.iastore, 1) := by decide +kernel
theorem d_M_countSlots_147 : decode prog_8_method_27_code 147 = .ok (.goto 25, 3) := by decide +kernel
theorem d_M_countSlots_150 : decode prog_8_method_27_code 150 = .ok (.iload_n 3, 1) := by decide +kernel
theorem d_M_countSlots_151 : decode prog_8_method_27_code 151 = .ok (.ifCond .lt 21, 3) := by decide +kernel
theorem d_M_countSlots_154 : decode prog_8_method_27_code 154 = .ok (.aload_n 0, 1) := by decide +kernel
theorem d_M_countSlots_155 : decode prog_8_method_27_code 155 = .ok (.getfield 13, 3) := by decide +kernel
theorem d_M_countSlots_158 : decode prog_8_method_27_code 158 = .ok (.iload_n 3, 1) := by decide +kernel
theorem d_M_countSlots_159 : decode prog_8_method_27_code 159 = .ok (.iaload, 1) := by decide +kernel
theorem d_M_countSlots_160 : decode prog_8_method_27_code 160 = .ok (.iconst 1, 1) := by decide +kernel
theorem d_M_countSlots_161 : decode prog_8_method_27_code 161 = .ok (.if_icmp .ne 11, 3) := by decide +kernel
theorem d_M_countSlots_164 : decode prog_8_method_27_code 164 = .ok (.aload_n 0, 1) := by decide +kernel
theorem d_M_countSlots_165 : decode prog_8_method_27_code 165 = .ok (.iload_n 3, 1) := by decide +kernel
theorem d_M_countSlots_166 : decode prog_8_method_27_code 166 = .ok (.invokevirtual 156, 3) := by decide +kernel
theorem d_M_countSlots_169 : decode prog_8_method_27_code 169 = .ok (.iinc 1 1, 3) := by decide +kernel
theorem d_M_countSlots_172 : decode prog_8_method_27_code 172 = .ok (.iinc 2 1, 3) := by decide +kernel
theorem d_M_countSlots_175 : decode prog_8_method_27_code 175 = .ok (.goto (-118), 3) := by decide +kernel
theorem d_M_countSlots_178 : decode prog_8_method_27_code 178 = .ok (.iload_n 1, 1) := by decide +kernel
theorem d_M_countSlots_179 : decode prog_8_method_27_code 179 = .ok (.ireturn, 1) := by decide +kernel
theorem d_M_endStep_0 : decode prog_8_method_28_code 0 = .ok (.iconst 0, 1) := by decide +kernel
theorem d_M_endStep_1 : decode prog_8_method_28_code 1 = .ok (.istore_n 1, 1) := by decide +kernel
theorem d_M_endStep_2 : decode prog_8_method_28_code 2 = .ok (.iload_n 1, 1) := by decide +kernel
theorem d_M_endStep_3 : decode prog_8_method_28_code 3 = .ok (.bipush 32, 2) := by decide +kernel
theorem d_M_endStep_5 : decode prog_8_method_28_code 5 = .ok (.if_icmp .ge 16, 3) := by decide +kernel
theorem d_M_endStep_8 : decode prog_8_method_28_code 8 = .ok (.aload_n 0, 1) := by decide +kernel
theorem d_M_endStep_9 : decode prog_8_method_28_code 9 = .ok (.getfield 51, 3) := by decide +kernel
theorem d_M_endStep_12 : decode prog_8_method_28_code 12 = .ok (.iload_n 1, 1) := by decide +kernel
theorem d_M_endStep_13 : decode prog_8_method_28_code 13 = .ok (.iconst 0, 1) := by decide +kernel
theorem d_M_endStep_14 : decode prog_8_method_28_code 14 = .ok (.bastore, 1) := by decide +kernel
theorem d_M_endStep_15 : decode prog_8_method_28_code 15 = .ok (.iinc 1 1, 3) := by decide +kernel
theorem d_M_endStep_18 : decode prog_8_method_28_code 18 = .ok (.goto (-16), 3) := by decide +kernel
theorem d_M_endStep_21 : decode prog_8_method_28_code 21 = .ok (.return_, 1) := by decide +kernel
theorem d_M_settle_0 : decode prog_8_method_29_code 0 = .ok (.iconst 0, 1) := by decide +kernel
theorem d_M_settle_1 : decode prog_8_method_29_code 1 = .ok (.istore_n 1, 1) := by decide +kernel
theorem d_M_settle_2 : decode prog_8_method_29_code 2 = .ok (.iload_n 1, 1) := by decide +kernel
theorem d_M_settle_3 : decode prog_8_method_29_code 3 = .ok (.sipush 256, 3) := by decide +kernel
theorem d_M_settle_6 : decode prog_8_method_29_code 6 = .ok (.if_icmp .ge 24, 3) := by decide +kernel
theorem d_M_settle_9 : decode prog_8_method_29_code 9 = .ok (.aload_n 0, 1) := by decide +kernel
theorem d_M_settle_10 : decode prog_8_method_29_code 10 = .ok (.getfield 13, 3) := by decide +kernel
theorem d_M_settle_13 : decode prog_8_method_29_code 13 = .ok (.iload_n 1, 1) := by decide +kernel
theorem d_M_settle_14 : decode prog_8_method_29_code 14 = .ok (.iaload, 1) := by decide +kernel
theorem d_M_settle_15 : decode prog_8_method_29_code 15 = .ok (.iconst 1, 1) := by decide +kernel
theorem d_M_settle_16 : decode prog_8_method_29_code 16 = .ok (.if_icmp .ne 8, 3) := by decide +kernel
theorem d_M_settle_19 : decode prog_8_method_29_code 19 = .ok (.aload_n 0, 1) := by decide +kernel
theorem d_M_settle_20 : decode prog_8_method_29_code 20 = .ok (.iload_n 1, 1) := by decide +kernel
theorem d_M_settle_21 : decode prog_8_method_29_code 21 = .ok (.invokevirtual 128, 3) := by decide +kernel
theorem d_M_settle_24 : decode prog_8_method_29_code 24 = .ok (.iinc 1 1, 3) := by decide +kernel
theorem d_M_settle_27 : decode prog_8_method_29_code 27 = .ok (.goto (-25), 3) := by decide +kernel
theorem d_M_settle_30 : decode prog_8_method_29_code 30 = .ok (.iconst 0, 1) := by decide +kernel
theorem d_M_settle_31 : decode prog_8_method_29_code 31 = .ok (.istore_n 1, 1) := by decide +kernel
theorem d_M_settle_32 : decode prog_8_method_29_code 32 = .ok (.iload_n 1, 1) := by decide +kernel
theorem d_M_settle_33 : decode prog_8_method_29_code 33 = .ok (.bipush 6, 2) := by decide +kernel
theorem d_M_settle_35 : decode prog_8_method_29_code 35 = .ok (.if_icmp .ge 19, 3) := by decide +kernel
theorem d_M_settle_38 : decode prog_8_method_29_code 38 = .ok (.aload_n 0, 1) := by decide +kernel
theorem d_M_settle_39 : decode prog_8_method_29_code 39 = .ok (.aload_n 0, 1) := by decide +kernel
theorem d_M_settle_40 : decode prog_8_method_29_code 40 = .ok (.getfield 41, 3) := by decide +kernel
theorem d_M_settle_43 : decode prog_8_method_29_code 43 = .ok (.iload_n 1, 1) := by decide +kernel
theorem d_M_settle_44 : decode prog_8_method_29_code 44 = .ok (.iaload, 1) := by decide +kernel
theorem d_M_settle_45 : decode prog_8_method_29_code 45 = .ok (.invokevirtual 121, 3) := by decide +kernel
theorem d_M_settle_48 : decode prog_8_method_29_code 48 = .ok (.iinc 1 1, 3) := by decide +kernel
theorem d_M_settle_51 : decode prog_8_method_29_code 51 = .ok (.goto (-19), 3) := by decide +kernel
theorem d_M_settle_54 : decode prog_8_method_29_code 54 = .ok (.iconst 0, 1) := by decide +kernel
theorem d_M_settle_55 : decode prog_8_method_29_code 55 = .ok (.istore_n 1, 1) := by decide +kernel
theorem d_M_settle_56 : decode prog_8_method_29_code 56 = .ok (.iload_n 1, 1) := by decide +kernel
theorem d_M_settle_57 : decode prog_8_method_29_code 57 = .ok (.aload_n 0, 1) := by decide +kernel
theorem d_M_settle_58 : decode prog_8_method_29_code 58 = .ok (.getfield 153, 3) := by decide +kernel
theorem d_M_settle_61 : decode prog_8_method_29_code 61 = .ok (.if_icmp .ge 63, 3) := by decide +kernel
theorem d_M_settle_64 : decode prog_8_method_29_code 64 = .ok (.aload_n 0, 1) := by decide +kernel
theorem d_M_settle_65 : decode prog_8_method_29_code 65 = .ok (.aload_n 0, 1) := by decide +kernel
theorem d_M_settle_66 : decode prog_8_method_29_code 66 = .ok (.getfield 63, 3) := by decide +kernel
theorem d_M_settle_69 : decode prog_8_method_29_code 69 = .ok (.iload_n 1, 1) := by decide +kernel
theorem d_M_settle_70 : decode prog_8_method_29_code 70 = .ok (.iaload, 1) := by decide +kernel
theorem d_M_settle_71 : decode prog_8_method_29_code 71 = .ok (.invokevirtual 121, 3) := by decide +kernel
theorem d_M_settle_74 : decode prog_8_method_29_code 74 = .ok (.aload_n 0, 1) := by decide +kernel
theorem d_M_settle_75 : decode prog_8_method_29_code 75 = .ok (.getfield 143, 3) := by decide +kernel
theorem d_M_settle_78 : decode prog_8_method_29_code 78 = .ok (.ifCond .eq 28, 3) := by decide +kernel
theorem d_M_settle_81 : decode prog_8_method_29_code 81 = .ok (.aload_n 0, 1) := by decide +kernel
theorem d_M_settle_82 : decode prog_8_method_29_code 82 = .ok (.aload_n 0, 1) := by decide +kernel
theorem d_M_settle_83 : decode prog_8_method_29_code 83 = .ok (.getfield 63, 3) := by decide +kernel
theorem d_M_settle_86 : decode prog_8_method_29_code 86 = .ok (.iload_n 1, 1) := by decide +kernel
theorem d_M_settle_87 : decode prog_8_method_29_code 87 = .ok (.iaload, 1) := by decide +kernel
theorem d_M_settle_88 : decode prog_8_method_29_code 88 = .ok (.invokevirtual 125, 3) := by decide +kernel
theorem d_M_settle_91 : decode prog_8_method_29_code 91 = .ok (.ifCond .eq 15, 3) := by decide +kernel
theorem d_M_settle_94 : decode prog_8_method_29_code 94 = .ok (.aload_n 0, 1) := by decide +kernel
theorem d_M_settle_95 : decode prog_8_method_29_code 95 = .ok (.getfield 28, 3) := by decide +kernel
theorem d_M_settle_98 : decode prog_8_method_29_code 98 = .ok (.aload_n 0, 1) := by decide +kernel
theorem d_M_settle_99 : decode prog_8_method_29_code 99 = .ok (.getfield 63, 3) := by decide +kernel
theorem d_M_settle_102 : decode prog_8_method_29_code 102 = .ok (.iload_n 1, 1) := by decide +kernel
theorem d_M_settle_103 : decode prog_8_method_29_code 103 = .ok (.iaload, 1) := by decide +kernel
theorem d_M_settle_104 : decode prog_8_method_29_code 104 = .ok (.iconst 1, 1) := by decide +kernel
theorem d_M_settle_105 : decode prog_8_method_29_code 105 = .ok (.iastore, 1) := by decide +kernel
theorem d_M_settle_106 : decode prog_8_method_29_code 106 = .ok (.aload_n 0, 1) := by decide +kernel
theorem d_M_settle_107 : decode prog_8_method_29_code 107 = .ok (.getfield 34, 3) := by decide +kernel
theorem d_M_settle_110 : decode prog_8_method_29_code 110 = .ok (.aload_n 0, 1) := by decide +kernel
theorem d_M_settle_111 : decode prog_8_method_29_code 111 = .ok (.getfield 60, 3) := by decide +kernel
theorem d_M_settle_114 : decode prog_8_method_29_code 114 = .ok (.iload_n 1, 1) := by decide +kernel
theorem d_M_settle_115 : decode prog_8_method_29_code 115 = .ok (.iaload, 1) := by decide +kernel
theorem d_M_settle_116 : decode prog_8_method_29_code 116 = .ok (.iconst 0, 1) := by decide +kernel
theorem d_M_settle_117 : decode prog_8_method_29_code 117 = .ok (.bastore, 1) := by decide +kernel
theorem d_M_settle_118 : decode prog_8_method_29_code 118 = .ok (.iinc 1 1, 3) := by decide +kernel
theorem d_M_settle_121 : decode prog_8_method_29_code 121 = .ok (.goto (-65), 3) := by decide +kernel
theorem d_M_settle_124 : decode prog_8_method_29_code 124 = .ok (.aload_n 0, 1) := by decide +kernel
theorem d_M_settle_125 : decode prog_8_method_29_code 125 = .ok (.iconst 0, 1) := by decide +kernel
theorem d_M_settle_126 : decode prog_8_method_29_code 126 = .ok (.putfield 153, 3) := by decide +kernel
theorem d_M_settle_129 : decode prog_8_method_29_code 129 = .ok (.return_, 1) := by decide +kernel
theorem d_M_sweep_0 : decode prog_8_method_30_code 0 = .ok (.iconst 0, 1) := by decide +kernel
theorem d_M_sweep_1 : decode prog_8_method_30_code 1 = .ok (.istore_n 1, 1) := by decide +kernel
theorem d_M_sweep_2 : decode prog_8_method_30_code 2 = .ok (.iload_n 1, 1) := by decide +kernel
theorem d_M_sweep_3 : decode prog_8_method_30_code 3 = .ok (.sipush 128, 3) := by decide +kernel
theorem d_M_sweep_6 : decode prog_8_method_30_code 6 = .ok (.if_icmp .ge 74, 3) := by decide +kernel
theorem d_M_sweep_9 : decode prog_8_method_30_code 9 = .ok (.aload_n 0, 1) := by decide +kernel
theorem d_M_sweep_10 : decode prog_8_method_30_code 10 = .ok (.iload_n 1, 1) := by decide +kernel
theorem d_M_sweep_11 : decode prog_8_method_30_code 11 = .ok (.invokevirtual 137, 3) := by decide +kernel
theorem d_M_sweep_14 : decode prog_8_method_30_code 14 = .ok (.istore_n 2, 1) := by decide +kernel
theorem d_M_sweep_15 : decode prog_8_method_30_code 15 = .ok (.iconst 0, 1) := by decide +kernel
theorem d_M_sweep_16 : decode prog_8_method_30_code 16 = .ok (.istore_n 3, 1) := by decide +kernel
theorem d_M_sweep_17 : decode prog_8_method_30_code 17 = .ok (.aload_n 0, 1) := by decide +kernel
theorem d_M_sweep_18 : decode prog_8_method_30_code 18 = .ok (.iload_n 2, 1) := by decide +kernel
theorem d_M_sweep_19 : decode prog_8_method_30_code 19 = .ok (.invokevirtual 125, 3) := by decide +kernel
theorem d_M_sweep_22 : decode prog_8_method_30_code 22 = .ok (.ifCond .eq 52, 3) := by decide +kernel
theorem d_M_sweep_25 : decode prog_8_method_30_code 25 = .ok (.iload_n 3, 1) := by decide +kernel
theorem d_M_sweep_26 : decode prog_8_method_30_code 26 = .ok (.aload_n 0, 1) := by decide +kernel
theorem d_M_sweep_27 : decode prog_8_method_30_code 27 = .ok (.getfield 19, 3) := by decide +kernel
theorem d_M_sweep_30 : decode prog_8_method_30_code 30 = .ok (.iload_n 2, 1) := by decide +kernel
theorem d_M_sweep_31 : decode prog_8_method_30_code 31 = .ok (.iaload, 1) := by decide +kernel
theorem d_M_sweep_32 : decode prog_8_method_30_code 32 = .ok (.if_icmp .ge 42, 3) := by decide +kernel
theorem d_M_sweep_35 : decode prog_8_method_30_code 35 = .ok (.aload_n 0, 1) := by decide +kernel
theorem d_M_sweep_36 : decode prog_8_method_30_code 36 = .ok (.getfield 31, 3) := by decide +kernel
theorem d_M_sweep_39 : decode prog_8_method_30_code 39 = .ok (.bipush 12, 2) := by decide +kernel
theorem d_M_sweep_41 : decode prog_8_method_30_code 41 = .ok (.iload_n 2, 1) := by decide +kernel
theorem d_M_sweep_42 : decode prog_8_method_30_code 42 = .ok (.imul, 1) := by decide +kernel
theorem d_M_sweep_43 : decode prog_8_method_30_code 43 = .ok (.iload_n 3, 1) := by decide +kernel
theorem d_M_sweep_44 : decode prog_8_method_30_code 44 = .ok (.iadd, 1) := by decide +kernel
theorem d_M_sweep_45 : decode prog_8_method_30_code 45 = .ok (.iaload, 1) := by decide +kernel
theorem d_M_sweep_46 : decode prog_8_method_30_code 46 = .ok (.istore 4, 2) := by decide +kernel
theorem d_M_sweep_48 : decode prog_8_method_30_code 48 = .ok (.iload 4, 2) := by decide +kernel
theorem d_M_sweep_50 : decode prog_8_method_30_code 50 = .ok (.ifCond .lt 18, 3) := by decide +kernel
theorem d_M_sweep_53 : decode prog_8_method_30_code 53 = .ok (.aload_n 0, 1) := by decide +kernel
theorem d_M_sweep_54 : decode prog_8_method_30_code 54 = .ok (.iload 4, 2) := by decide +kernel
theorem d_M_sweep_56 : decode prog_8_method_30_code 56 = .ok (.invokevirtual 125, 3) := by decide +kernel
theorem d_M_sweep_59 : decode prog_8_method_30_code 59 = .ok (.ifCond .ne 9, 3) := by decide +kernel
theorem d_M_sweep_62 : decode prog_8_method_30_code 62 = .ok (.aload_n 0, 1) := by decide +kernel
theorem d_M_sweep_63 : decode prog_8_method_30_code 63 = .ok (.iload 4, 2) := by decide +kernel
theorem d_M_sweep_65 : decode prog_8_method_30_code 65 = .ok (.invokevirtual 121, 3) := by decide +kernel
theorem d_M_sweep_68 : decode prog_8_method_30_code 68 = .ok (.iinc 3 1, 3) := by decide +kernel
theorem d_M_sweep_71 : decode prog_8_method_30_code 71 = .ok (.goto (-54), 3) := by decide +kernel
theorem d_M_sweep_74 : decode prog_8_method_30_code 74 = .ok (.iinc 1 1, 3) := by decide +kernel
theorem d_M_sweep_77 : decode prog_8_method_30_code 77 = .ok (.goto (-75), 3) := by decide +kernel
theorem d_M_sweep_80 : decode prog_8_method_30_code 80 = .ok (.iconst 0, 1) := by decide +kernel
theorem d_M_sweep_81 : decode prog_8_method_30_code 81 = .ok (.istore_n 1, 1) := by decide +kernel
theorem d_M_sweep_82 : decode prog_8_method_30_code 82 = .ok (.iload_n 1, 1) := by decide +kernel
theorem d_M_sweep_83 : decode prog_8_method_30_code 83 = .ok (.sipush 256, 3) := by decide +kernel
theorem d_M_sweep_86 : decode prog_8_method_30_code 86 = .ok (.if_icmp .ge 32, 3) := by decide +kernel
theorem d_M_sweep_89 : decode prog_8_method_30_code 89 = .ok (.aload_n 0, 1) := by decide +kernel
theorem d_M_sweep_90 : decode prog_8_method_30_code 90 = .ok (.iload_n 1, 1) := by decide +kernel
theorem d_M_sweep_91 : decode prog_8_method_30_code 91 = .ok (.invokevirtual 125, 3) := by decide +kernel
theorem d_M_sweep_94 : decode prog_8_method_30_code 94 = .ok (.ifCond .eq 18, 3) := by decide +kernel
theorem d_M_sweep_97 : decode prog_8_method_30_code 97 = .ok (.aload_n 0, 1) := by decide +kernel
theorem d_M_sweep_98 : decode prog_8_method_30_code 98 = .ok (.iload_n 1, 1) := by decide +kernel
theorem d_M_sweep_99 : decode prog_8_method_30_code 99 = .ok (.invokevirtual 128, 3) := by decide +kernel
theorem d_M_sweep_102 : decode prog_8_method_30_code 102 = .ok (.aload_n 0, 1) := by decide +kernel
theorem d_M_sweep_103 : decode prog_8_method_30_code 103 = .ok (.dup, 1) := by decide +kernel
theorem d_M_sweep_104 : decode prog_8_method_30_code 104 = .ok (.getfield 159, 3) := by decide +kernel
theorem d_M_sweep_107 : decode prog_8_method_30_code 107 = .ok (.iconst 1, 1) := by decide +kernel
theorem d_M_sweep_108 : decode prog_8_method_30_code 108 = .ok (.iadd, 1) := by decide +kernel
theorem d_M_sweep_109 : decode prog_8_method_30_code 109 = .ok (.putfield 159, 3) := by decide +kernel
theorem d_M_sweep_112 : decode prog_8_method_30_code 112 = .ok (.iinc 1 1, 3) := by decide +kernel
theorem d_M_sweep_115 : decode prog_8_method_30_code 115 = .ok (.goto (-33), 3) := by decide +kernel
theorem d_M_sweep_118 : decode prog_8_method_30_code 118 = .ok (.return_, 1) := by decide +kernel
theorem d_M_holders_0 : decode prog_8_method_31_code 0 = .ok (.iconst 0, 1) := by decide +kernel
theorem d_M_holders_1 : decode prog_8_method_31_code 1 = .ok (.istore_n 2, 1) := by decide +kernel
theorem d_M_holders_2 : decode prog_8_method_31_code 2 = .ok (.iconst 0, 1) := by decide +kernel
theorem d_M_holders_3 : decode prog_8_method_31_code 3 = .ok (.istore_n 3, 1) := by decide +kernel
theorem d_M_holders_4 : decode prog_8_method_31_code 4 = .ok (.iload_n 3, 1) := by decide +kernel
theorem d_M_holders_5 : decode prog_8_method_31_code 5 = .ok (.bipush 6, 2) := by decide +kernel
theorem d_M_holders_7 : decode prog_8_method_31_code 7 = .ok (.if_icmp .ge 27, 3) := by decide +kernel
theorem d_M_holders_10 : decode prog_8_method_31_code 10 = .ok (.aload_n 0, 1) := by decide +kernel
theorem d_M_holders_11 : decode prog_8_method_31_code 11 = .ok (.getfield 38, 3) := by decide +kernel
theorem d_M_holders_14 : decode prog_8_method_31_code 14 = .ok (.iload_n 3, 1) := by decide +kernel
theorem d_M_holders_15 : decode prog_8_method_31_code 15 = .ok (.iaload, 1) := by decide +kernel
theorem d_M_holders_16 : decode prog_8_method_31_code 16 = .ok (.iload_n 1, 1) := by decide +kernel
theorem d_M_holders_17 : decode prog_8_method_31_code 17 = .ok (.if_icmp .ne 9, 3) := by decide +kernel
theorem d_M_holders_20 : decode prog_8_method_31_code 20 = .ok (.iload_n 2, 1) := by decide +kernel
theorem d_M_holders_21 : decode prog_8_method_31_code 21 = .ok (.iconst 1, 1) := by decide +kernel
theorem d_M_holders_22 : decode prog_8_method_31_code 22 = .ok (.iadd, 1) := by decide +kernel
theorem d_M_holders_23 : decode prog_8_method_31_code 23 = .ok (.goto 4, 3) := by decide +kernel
theorem d_M_holders_26 : decode prog_8_method_31_code 26 = .ok (.iload_n 2, 1) := by decide +kernel
theorem d_M_holders_27 : decode prog_8_method_31_code 27 = .ok (.istore_n 2, 1) := by decide +kernel
theorem d_M_holders_28 : decode prog_8_method_31_code 28 = .ok (.iinc 3 1, 3) := by decide +kernel
theorem d_M_holders_31 : decode prog_8_method_31_code 31 = .ok (.goto (-27), 3) := by decide +kernel
theorem d_M_holders_34 : decode prog_8_method_31_code 34 = .ok (.iconst 0, 1) := by decide +kernel
theorem d_M_holders_35 : decode prog_8_method_31_code 35 = .ok (.istore_n 3, 1) := by decide +kernel
theorem d_M_holders_36 : decode prog_8_method_31_code 36 = .ok (.iload_n 3, 1) := by decide +kernel
theorem d_M_holders_37 : decode prog_8_method_31_code 37 = .ok (.sipush 256, 3) := by decide +kernel
theorem d_M_holders_40 : decode prog_8_method_31_code 40 = .ok (.if_icmp .ge 62, 3) := by decide +kernel
theorem d_M_holders_43 : decode prog_8_method_31_code 43 = .ok (.iconst 0, 1) := by decide +kernel
theorem d_M_holders_44 : decode prog_8_method_31_code 44 = .ok (.istore 4, 2) := by decide +kernel
theorem d_M_holders_46 : decode prog_8_method_31_code 46 = .ok (.aload_n 0, 1) := by decide +kernel
theorem d_M_holders_47 : decode prog_8_method_31_code 47 = .ok (.getfield 13, 3) := by decide +kernel
theorem d_M_holders_50 : decode prog_8_method_31_code 50 = .ok (.iload_n 3, 1) := by decide +kernel
theorem d_M_holders_51 : decode prog_8_method_31_code 51 = .ok (.iaload, 1) := by decide +kernel
theorem d_M_holders_52 : decode prog_8_method_31_code 52 = .ok (.ifCond .eq 44, 3) := by decide +kernel
theorem d_M_holders_55 : decode prog_8_method_31_code 55 = .ok (.iload 4, 2) := by decide +kernel
theorem d_M_holders_57 : decode prog_8_method_31_code 57 = .ok (.aload_n 0, 1) := by decide +kernel
theorem d_M_holders_58 : decode prog_8_method_31_code 58 = .ok (.getfield 19, 3) := by decide +kernel
theorem d_M_holders_61 : decode prog_8_method_31_code 61 = .ok (.iload_n 3, 1) := by decide +kernel
theorem d_M_holders_62 : decode prog_8_method_31_code 62 = .ok (.iaload, 1) := by decide +kernel
theorem d_M_holders_63 : decode prog_8_method_31_code 63 = .ok (.if_icmp .ge 33, 3) := by decide +kernel
theorem d_M_holders_66 : decode prog_8_method_31_code 66 = .ok (.aload_n 0, 1) := by decide +kernel
theorem d_M_holders_67 : decode prog_8_method_31_code 67 = .ok (.getfield 31, 3) := by decide +kernel
theorem d_M_holders_70 : decode prog_8_method_31_code 70 = .ok (.bipush 12, 2) := by decide +kernel
theorem d_M_holders_72 : decode prog_8_method_31_code 72 = .ok (.iload_n 3, 1) := by decide +kernel
theorem d_M_holders_73 : decode prog_8_method_31_code 73 = .ok (.imul, 1) := by decide +kernel
theorem d_M_holders_74 : decode prog_8_method_31_code 74 = .ok (.iload 4, 2) := by decide +kernel
theorem d_M_holders_76 : decode prog_8_method_31_code 76 = .ok (.iadd, 1) := by decide +kernel
theorem d_M_holders_77 : decode prog_8_method_31_code 77 = .ok (.iaload, 1) := by decide +kernel
theorem d_M_holders_78 : decode prog_8_method_31_code 78 = .ok (.iload_n 1, 1) := by decide +kernel
theorem d_M_holders_79 : decode prog_8_method_31_code 79 = .ok (.if_icmp .ne 9, 3) := by decide +kernel
theorem d_M_holders_82 : decode prog_8_method_31_code 82 = .ok (.iload_n 2, 1) := by decide +kernel
theorem d_M_holders_83 : decode prog_8_method_31_code 83 = .ok (.iconst 1, 1) := by decide +kernel
theorem d_M_holders_84 : decode prog_8_method_31_code 84 = .ok (.iadd, 1) := by decide +kernel
theorem d_M_holders_85 : decode prog_8_method_31_code 85 = .ok (.goto 4, 3) := by decide +kernel
theorem d_M_holders_88 : decode prog_8_method_31_code 88 = .ok (.iload_n 2, 1) := by decide +kernel
theorem d_M_holders_89 : decode prog_8_method_31_code 89 = .ok (.istore_n 2, 1) := by decide +kernel
theorem d_M_holders_90 : decode prog_8_method_31_code 90 = .ok (.iinc 4 1, 3) := by decide +kernel
theorem d_M_holders_93 : decode prog_8_method_31_code 93 = .ok (.goto (-47), 3) := by decide +kernel
theorem d_M_holders_96 : decode prog_8_method_31_code 96 = .ok (.iinc 3 1, 3) := by decide +kernel
theorem d_M_holders_99 : decode prog_8_method_31_code 99 = .ok (.goto (-63), 3) := by decide +kernel
theorem d_M_holders_102 : decode prog_8_method_31_code 102 = .ok (.iconst 0, 1) := by decide +kernel
theorem d_M_holders_103 : decode prog_8_method_31_code 103 = .ok (.istore_n 3, 1) := by decide +kernel
theorem d_M_holders_104 : decode prog_8_method_31_code 104 = .ok (.iload_n 3, 1) := by decide +kernel
theorem d_M_holders_105 : decode prog_8_method_31_code 105 = .ok (.aload_n 0, 1) := by decide +kernel
theorem d_M_holders_106 : decode prog_8_method_31_code 106 = .ok (.getfield 118, 3) := by decide +kernel
theorem d_M_holders_109 : decode prog_8_method_31_code 109 = .ok (.if_icmp .ge 27, 3) := by decide +kernel
theorem d_M_holders_112 : decode prog_8_method_31_code 112 = .ok (.aload_n 0, 1) := by decide +kernel
theorem d_M_holders_113 : decode prog_8_method_31_code 113 = .ok (.getfield 57, 3) := by decide +kernel
theorem d_M_holders_116 : decode prog_8_method_31_code 116 = .ok (.iload_n 3, 1) := by decide +kernel
theorem d_M_holders_117 : decode prog_8_method_31_code 117 = .ok (.iaload, 1) := by decide +kernel
theorem d_M_holders_118 : decode prog_8_method_31_code 118 = .ok (.iload_n 1, 1) := by decide +kernel
theorem d_M_holders_119 : decode prog_8_method_31_code 119 = .ok (.if_icmp .ne 9, 3) := by decide +kernel
theorem d_M_holders_122 : decode prog_8_method_31_code 122 = .ok (.iload_n 2, 1) := by decide +kernel
theorem d_M_holders_123 : decode prog_8_method_31_code 123 = .ok (.iconst 1, 1) := by decide +kernel
theorem d_M_holders_124 : decode prog_8_method_31_code 124 = .ok (.iadd, 1) := by decide +kernel
theorem d_M_holders_125 : decode prog_8_method_31_code 125 = .ok (.goto 4, 3) := by decide +kernel
theorem d_M_holders_128 : decode prog_8_method_31_code 128 = .ok (.iload_n 2, 1) := by decide +kernel
theorem d_M_holders_129 : decode prog_8_method_31_code 129 = .ok (.istore_n 2, 1) := by decide +kernel
theorem d_M_holders_130 : decode prog_8_method_31_code 130 = .ok (.iinc 3 1, 3) := by decide +kernel
theorem d_M_holders_133 : decode prog_8_method_31_code 133 = .ok (.goto (-29), 3) := by decide +kernel
theorem d_M_holders_136 : decode prog_8_method_31_code 136 = .ok (.iload_n 2, 1) := by decide +kernel
theorem d_M_holders_137 : decode prog_8_method_31_code 137 = .ok (.ireturn, 1) := by decide +kernel
theorem d_M_countAnew_0 : decode prog_8_method_32_code 0 = .ok (.iconst 0, 1) := by decide +kernel
theorem d_M_countAnew_1 : decode prog_8_method_32_code 1 = .ok (.istore_n 1, 1) := by decide +kernel
theorem d_M_countAnew_2 : decode prog_8_method_32_code 2 = .ok (.iload_n 1, 1) := by decide +kernel
theorem d_M_countAnew_3 : decode prog_8_method_32_code 3 = .ok (.sipush 128, 3) := by decide +kernel
theorem d_M_countAnew_6 : decode prog_8_method_32_code 6 = .ok (.if_icmp .ge 60, 3) := by decide +kernel
theorem d_M_countAnew_9 : decode prog_8_method_32_code 9 = .ok (.aload_n 0, 1) := by decide +kernel
theorem d_M_countAnew_10 : decode prog_8_method_32_code 10 = .ok (.iload_n 1, 1) := by decide +kernel
theorem d_M_countAnew_11 : decode prog_8_method_32_code 11 = .ok (.invokevirtual 137, 3) := by decide +kernel
theorem d_M_countAnew_14 : decode prog_8_method_32_code 14 = .ok (.istore_n 2, 1) := by decide +kernel
theorem d_M_countAnew_15 : decode prog_8_method_32_code 15 = .ok (.iload_n 2, 1) := by decide +kernel
theorem d_M_countAnew_16 : decode prog_8_method_32_code 16 = .ok (.ifCond .lt 44, 3) := by decide +kernel
theorem d_M_countAnew_19 : decode prog_8_method_32_code 19 = .ok (.aload_n 0, 1) := by decide +kernel
theorem d_M_countAnew_20 : decode prog_8_method_32_code 20 = .ok (.getfield 25, 3) := by decide +kernel
theorem d_M_countAnew_23 : decode prog_8_method_32_code 23 = .ok (.iload_n 2, 1) := by decide +kernel
theorem d_M_countAnew_24 : decode prog_8_method_32_code 24 = .ok (.iaload, 1) := by decide +kernel
theorem d_M_countAnew_25 : decode prog_8_method_32_code 25 = .ok (.iconst 3, 1) := by decide +kernel
theorem d_M_countAnew_26 : decode prog_8_method_32_code 26 = .ok (.if_icmp .ne 34, 3) := by decide +kernel
theorem d_M_countAnew_29 : decode prog_8_method_32_code 29 = .ok (.aload_n 0, 1) := by decide +kernel
theorem d_M_countAnew_30 : decode prog_8_method_32_code 30 = .ok (.iload_n 2, 1) := by decide +kernel
theorem d_M_countAnew_31 : decode prog_8_method_32_code 31 = .ok (.invokevirtual 162, 3) := by decide +kernel
theorem d_M_countAnew_34 : decode prog_8_method_32_code 34 = .ok (.istore_n 3, 1) := by decide +kernel
theorem d_M_countAnew_35 : decode prog_8_method_32_code 35 = .ok (.aload_n 0, 1) := by decide +kernel
theorem d_M_countAnew_36 : decode prog_8_method_32_code 36 = .ok (.getfield 25, 3) := by decide +kernel
theorem d_M_countAnew_39 : decode prog_8_method_32_code 39 = .ok (.iload_n 2, 1) := by decide +kernel
theorem d_M_countAnew_40 : decode prog_8_method_32_code 40 = .ok (.iload_n 3, 1) := by decide +kernel
theorem d_M_countAnew_41 : decode prog_8_method_32_code 41 = .ok (.iconst 3, 1) := by decide +kernel
theorem d_M_countAnew_42 : decode prog_8_method_32_code 42 = .ok (.if_icmp .ge 7, 3) := by decide +kernel
theorem d_M_countAnew_45 : decode prog_8_method_32_code 45 = .ok (.iload_n 3, 1) := by decide +kernel
theorem d_M_countAnew_46 : decode prog_8_method_32_code 46 = .ok (.goto 4, 3) := by decide +kernel
theorem d_M_countAnew_49 : decode prog_8_method_32_code 49 = .ok (.iconst 3, 1) := by decide +kernel
theorem d_M_countAnew_50 : decode prog_8_method_32_code 50 = .ok (.iastore, 1) := by decide +kernel
theorem d_M_countAnew_51 : decode prog_8_method_32_code 51 = .ok (.iload_n 3, 1) := by decide +kernel
theorem d_M_countAnew_52 : decode prog_8_method_32_code 52 = .ok (.ifCond .ne 8, 3) := by decide +kernel
theorem d_M_countAnew_55 : decode prog_8_method_32_code 55 = .ok (.aload_n 0, 1) := by decide +kernel
theorem d_M_countAnew_56 : decode prog_8_method_32_code 56 = .ok (.iload_n 2, 1) := by decide +kernel
theorem d_M_countAnew_57 : decode prog_8_method_32_code 57 = .ok (.invokevirtual 131, 3) := by decide +kernel
theorem d_M_countAnew_60 : decode prog_8_method_32_code 60 = .ok (.iinc 1 1, 3) := by decide +kernel
theorem d_M_countAnew_63 : decode prog_8_method_32_code 63 = .ok (.goto (-61), 3) := by decide +kernel
theorem d_M_countAnew_66 : decode prog_8_method_32_code 66 = .ok (.iconst 0, 1) := by decide +kernel
theorem d_M_countAnew_67 : decode prog_8_method_32_code 67 = .ok (.istore_n 1, 1) := by decide +kernel
theorem d_M_countAnew_68 : decode prog_8_method_32_code 68 = .ok (.iload_n 1, 1) := by decide +kernel
theorem d_M_countAnew_69 : decode prog_8_method_32_code 69 = .ok (.sipush 256, 3) := by decide +kernel
theorem d_M_countAnew_72 : decode prog_8_method_32_code 72 = .ok (.if_icmp .ge 16, 3) := by decide +kernel
theorem d_M_countAnew_75 : decode prog_8_method_32_code 75 = .ok (.aload_n 0, 1) := by decide +kernel
theorem d_M_countAnew_76 : decode prog_8_method_32_code 76 = .ok (.getfield 28, 3) := by decide +kernel
theorem d_M_countAnew_79 : decode prog_8_method_32_code 79 = .ok (.iload_n 1, 1) := by decide +kernel
theorem d_M_countAnew_80 : decode prog_8_method_32_code 80 = .ok (.iconst 0, 1) := by decide +kernel
theorem d_M_countAnew_81 : decode prog_8_method_32_code 81 = .ok (.iastore, 1) := by decide +kernel
theorem d_M_countAnew_82 : decode prog_8_method_32_code 82 = .ok (.iinc 1 1, 3) := by decide +kernel
theorem d_M_countAnew_85 : decode prog_8_method_32_code 85 = .ok (.goto (-17), 3) := by decide +kernel
theorem d_M_countAnew_88 : decode prog_8_method_32_code 88 = .ok (.return_, 1) := by decide +kernel
theorem d_M_usedLines_0 : decode prog_8_method_33_code 0 = .ok (.iconst 0, 1) := by decide +kernel
theorem d_M_usedLines_1 : decode prog_8_method_33_code 1 = .ok (.istore_n 2, 1) := by decide +kernel
theorem d_M_usedLines_2 : decode prog_8_method_33_code 2 = .ok (.bipush 8, 2) := by decide +kernel
theorem d_M_usedLines_4 : decode prog_8_method_33_code 4 = .ok (.iload_n 1, 1) := by decide +kernel
theorem d_M_usedLines_5 : decode prog_8_method_33_code 5 = .ok (.imul, 1) := by decide +kernel
theorem d_M_usedLines_6 : decode prog_8_method_33_code 6 = .ok (.istore_n 3, 1) := by decide +kernel
theorem d_M_usedLines_7 : decode prog_8_method_33_code 7 = .ok (.iload_n 3, 1) := by decide +kernel
theorem d_M_usedLines_8 : decode prog_8_method_33_code 8 = .ok (.bipush 8, 2) := by decide +kernel
theorem d_M_usedLines_10 : decode prog_8_method_33_code 10 = .ok (.iload_n 1, 1) := by decide +kernel
theorem d_M_usedLines_11 : decode prog_8_method_33_code 11 = .ok (.imul, 1) := by decide +kernel
theorem d_M_usedLines_12 : decode prog_8_method_33_code 12 = .ok (.bipush 8, 2) := by decide +kernel
theorem d_M_usedLines_14 : decode prog_8_method_33_code 14 = .ok (.iadd, 1) := by decide +kernel
theorem d_M_usedLines_15 : decode prog_8_method_33_code 15 = .ok (.if_icmp .ge 25, 3) := by decide +kernel
theorem d_M_usedLines_18 : decode prog_8_method_33_code 18 = .ok (.aload_n 0, 1) := by decide +kernel
theorem d_M_usedLines_19 : decode prog_8_method_33_code 19 = .ok (.iload_n 3, 1) := by decide +kernel
theorem d_M_usedLines_20 : decode prog_8_method_33_code 20 = .ok (.invokevirtual 75, 3) := by decide +kernel
theorem d_M_usedLines_23 : decode prog_8_method_33_code 23 = .ok (.ifCond .eq 9, 3) := by decide +kernel
theorem d_M_usedLines_26 : decode prog_8_method_33_code 26 = .ok (.iload_n 2, 1) := by decide +kernel
theorem d_M_usedLines_27 : decode prog_8_method_33_code 27 = .ok (.iconst 1, 1) := by decide +kernel
theorem d_M_usedLines_28 : decode prog_8_method_33_code 28 = .ok (.iadd, 1) := by decide +kernel
theorem d_M_usedLines_29 : decode prog_8_method_33_code 29 = .ok (.goto 4, 3) := by decide +kernel
theorem d_M_usedLines_32 : decode prog_8_method_33_code 32 = .ok (.iload_n 2, 1) := by decide +kernel
theorem d_M_usedLines_33 : decode prog_8_method_33_code 33 = .ok (.istore_n 2, 1) := by decide +kernel
theorem d_M_usedLines_34 : decode prog_8_method_33_code 34 = .ok (.iinc 3 1, 3) := by decide +kernel
theorem d_M_usedLines_37 : decode prog_8_method_33_code 37 = .ok (.goto (-30), 3) := by decide +kernel
theorem d_M_usedLines_40 : decode prog_8_method_33_code 40 = .ok (.iload_n 2, 1) := by decide +kernel
theorem d_M_usedLines_41 : decode prog_8_method_33_code 41 = .ok (.ireturn, 1) := by decide +kernel
theorem d_M_clearBlock_0 : decode prog_8_method_34_code 0 = .ok (.iconst (-1), 1) := by decide +kernel
theorem d_M_clearBlock_1 : decode prog_8_method_34_code 1 = .ok (.istore_n 1, 1) := by decide +kernel
theorem d_M_clearBlock_2 : decode prog_8_method_34_code 2 = .ok (.iconst 3, 1) := by decide +kernel
theorem d_M_clearBlock_3 : decode prog_8_method_34_code 3 = .ok (.istore_n 2, 1) := by decide +kernel
theorem d_M_clearBlock_4 : decode prog_8_method_34_code 4 = .ok (.iload_n 2, 1) := by decide +kernel
theorem d_M_clearBlock_5 : decode prog_8_method_34_code 5 = .ok (.ifCond .lt 39, 3) := by decide +kernel
theorem d_M_clearBlock_8 : decode prog_8_method_34_code 8 = .ok (.aload_n 0, 1) := by decide +kernel
theorem d_M_clearBlock_9 : decode prog_8_method_34_code 9 = .ok (.iload_n 2, 1) := by decide +kernel
theorem d_M_clearBlock_10 : decode prog_8_method_34_code 10 = .ok (.invokevirtual 165, 3) := by decide +kernel
theorem d_M_clearBlock_13 : decode prog_8_method_34_code 13 = .ok (.istore_n 3, 1) := by decide +kernel
theorem d_M_clearBlock_14 : decode prog_8_method_34_code 14 = .ok (.iload_n 3, 1) := by decide +kernel
theorem d_M_clearBlock_15 : decode prog_8_method_34_code 15 = .ok (.ifCond .le 23, 3) := by decide +kernel
theorem d_M_clearBlock_18 : decode prog_8_method_34_code 18 = .ok (.iload_n 3, 1) := by decide +kernel
theorem d_M_clearBlock_19 : decode prog_8_method_34_code 19 = .ok (.iconst 4, 1) := by decide +kernel
theorem d_M_clearBlock_20 : decode prog_8_method_34_code 20 = .ok (.if_icmp .ge 18, 3) := by decide +kernel
theorem d_M_clearBlock_23 : decode prog_8_method_34_code 23 = .ok (.iload_n 1, 1) := by decide +kernel
theorem d_M_clearBlock_24 : decode prog_8_method_34_code 24 = .ok (.ifCond .lt 12, 3) := by decide +kernel
theorem d_M_clearBlock_27 : decode prog_8_method_34_code 27 = .ok (.iload_n 3, 1) := by decide +kernel
theorem d_M_clearBlock_28 : decode prog_8_method_34_code 28 = .ok (.aload_n 0, 1) := by decide +kernel
theorem d_M_clearBlock_29 : decode prog_8_method_34_code 29 = .ok (.iload_n 1, 1) := by decide +kernel
theorem d_M_clearBlock_30 : decode prog_8_method_34_code 30 = .ok (.invokevirtual 165, 3) := by decide +kernel
theorem d_M_clearBlock_33 : decode prog_8_method_34_code 33 = .ok (.if_icmp .gt 5, 3) := by decide +kernel
theorem d_M_clearBlock_36 : decode prog_8_method_34_code 36 = .ok (.iload_n 2, 1) := by decide +kernel
theorem d_M_clearBlock_37 : decode prog_8_method_34_code 37 = .ok (.istore_n 1, 1) := by decide +kernel
theorem d_M_clearBlock_38 : decode prog_8_method_34_code 38 = .ok (.iinc 2 (-1), 3) := by decide +kernel
theorem d_M_clearBlock_41 : decode prog_8_method_34_code 41 = .ok (.goto (-37), 3) := by decide +kernel
theorem d_M_clearBlock_44 : decode prog_8_method_34_code 44 = .ok (.iload_n 1, 1) := by decide +kernel
theorem d_M_clearBlock_45 : decode prog_8_method_34_code 45 = .ok (.ifCond .ge 4, 3) := by decide +kernel
theorem d_M_clearBlock_48 : decode prog_8_method_34_code 48 = .ok (.return_, 1) := by decide +kernel
theorem d_M_clearBlock_49 : decode prog_8_method_34_code 49 = .ok (.aload_n 0, 1) := by decide +kernel
theorem d_M_clearBlock_50 : decode prog_8_method_34_code 50 = .ok (.invokevirtual 168, 3) := by decide +kernel
theorem d_M_clearBlock_53 : decode prog_8_method_34_code 53 = .ok (.aload_n 0, 1) := by decide +kernel
theorem d_M_clearBlock_54 : decode prog_8_method_34_code 54 = .ok (.iload_n 1, 1) := by decide +kernel
theorem d_M_clearBlock_55 : decode prog_8_method_34_code 55 = .ok (.putfield 54, 3) := by decide +kernel
theorem d_M_clearBlock_58 : decode prog_8_method_34_code 58 = .ok (.bipush 32, 2) := by decide +kernel
theorem d_M_clearBlock_60 : decode prog_8_method_34_code 60 = .ok (.iload_n 1, 1) := by decide +kernel
theorem d_M_clearBlock_61 : decode prog_8_method_34_code 61 = .ok (.imul, 1) := by decide +kernel
theorem d_M_clearBlock_62 : decode prog_8_method_34_code 62 = .ok (.istore_n 2, 1) := by decide +kernel
theorem d_M_clearBlock_63 : decode prog_8_method_34_code 63 = .ok (.iload_n 2, 1) := by decide +kernel
theorem d_M_clearBlock_64 : decode prog_8_method_34_code 64 = .ok (.bipush 32, 2) := by decide +kernel
theorem d_M_clearBlock_66 : decode prog_8_method_34_code 66 = .ok (.iload_n 1, 1) := by decide +kernel
theorem d_M_clearBlock_67 : decode prog_8_method_34_code 67 = .ok (.imul, 1) := by decide +kernel
theorem d_M_clearBlock_68 : decode prog_8_method_34_code 68 = .ok (.bipush 32, 2) := by decide +kernel
theorem d_M_clearBlock_70 : decode prog_8_method_34_code 70 = .ok (.iadd, 1) := by decide +kernel
theorem d_M_clearBlock_71 : decode prog_8_method_34_code 71 = .ok (.if_icmp .ge 24, 3) := by decide +kernel
theorem d_M_clearBlock_74 : decode prog_8_method_34_code 74 = .ok (.aload_n 0, 1) := by decide +kernel
theorem d_M_clearBlock_75 : decode prog_8_method_34_code 75 = .ok (.iload_n 2, 1) := by decide +kernel
theorem d_M_clearBlock_76 : decode prog_8_method_34_code 76 = .ok (.invokevirtual 137, 3) := by decide +kernel
theorem d_M_clearBlock_79 : decode prog_8_method_34_code 79 = .ok (.istore_n 3, 1) := by decide +kernel
theorem d_M_clearBlock_80 : decode prog_8_method_34_code 80 = .ok (.iload_n 3, 1) := by decide +kernel
theorem d_M_clearBlock_81 : decode prog_8_method_34_code 81 = .ok (.ifCond .lt 8, 3) := by decide +kernel
theorem d_M_clearBlock_84 : decode prog_8_method_34_code 84 = .ok (.aload_n 0, 1) := by decide +kernel
theorem d_M_clearBlock_85 : decode prog_8_method_34_code 85 = .ok (.iload_n 3, 1) := by decide +kernel
theorem d_M_clearBlock_86 : decode prog_8_method_34_code 86 = .ok (.invokevirtual 147, 3) := by decide +kernel
theorem d_M_clearBlock_89 : decode prog_8_method_34_code 89 = .ok (.iinc 2 1, 3) := by decide +kernel
theorem d_M_clearBlock_92 : decode prog_8_method_34_code 92 = .ok (.goto (-29), 3) := by decide +kernel
theorem d_M_clearBlock_95 : decode prog_8_method_34_code 95 = .ok (.aload_n 0, 1) := by decide +kernel
theorem d_M_clearBlock_96 : decode prog_8_method_34_code 96 = .ok (.iconst (-1), 1) := by decide +kernel
theorem d_M_clearBlock_97 : decode prog_8_method_34_code 97 = .ok (.putfield 54, 3) := by decide +kernel
theorem d_M_clearBlock_100 : decode prog_8_method_34_code 100 = .ok (.aload_n 0, 1) := by decide +kernel
theorem d_M_clearBlock_101 : decode prog_8_method_34_code 101 = .ok (.invokevirtual 171, 3) := by decide +kernel
theorem d_M_clearBlock_104 : decode prog_8_method_34_code 104 = .ok (.return_, 1) := by decide +kernel
theorem d_M_halt_0 : decode prog_8_method_35_code 0 = .ok (.aload_n 0, 1) := by decide +kernel
theorem d_M_halt_1 : decode prog_8_method_35_code 1 = .ok (.invokevirtual 174, 3) := by decide +kernel
theorem d_M_halt_4 : decode prog_8_method_35_code 4 = .ok (.aload_n 0, 1) := by decide +kernel
theorem d_M_halt_5 : decode prog_8_method_35_code 5 = .ok (.invokevirtual 168, 3) := by decide +kernel
theorem d_M_halt_8 : decode prog_8_method_35_code 8 = .ok (.aload_n 0, 1) := by decide +kernel
theorem d_M_halt_9 : decode prog_8_method_35_code 9 = .ok (.invokevirtual 177, 3) := by decide +kernel
theorem d_M_halt_12 : decode prog_8_method_35_code 12 = .ok (.istore_n 2, 1) := by decide +kernel
theorem d_M_halt_13 : decode prog_8_method_35_code 13 = .ok (.aload_n 0, 1) := by decide +kernel
theorem d_M_halt_14 : decode prog_8_method_35_code 14 = .ok (.invokevirtual 171, 3) := by decide +kernel
theorem d_M_halt_17 : decode prog_8_method_35_code 17 = .ok (.aload_n 0, 1) := by decide +kernel
theorem d_M_halt_18 : decode prog_8_method_35_code 18 = .ok (.invokevirtual 181, 3) := by decide +kernel
theorem d_M_halt_21 : decode prog_8_method_35_code 21 = .ok (.aload_n 0, 1) := by decide +kernel
theorem d_M_halt_22 : decode prog_8_method_35_code 22 = .ok (.getfield 143, 3) := by decide +kernel
theorem d_M_halt_25 : decode prog_8_method_35_code 25 = .ok (.ifCond .eq 27, 3) := by decide +kernel
theorem d_M_halt_28 : decode prog_8_method_35_code 28 = .ok (.aload_n 0, 1) := by decide +kernel
theorem d_M_halt_29 : decode prog_8_method_35_code 29 = .ok (.invokevirtual 184, 3) := by decide +kernel
theorem d_M_halt_32 : decode prog_8_method_35_code 32 = .ok (.ifCond .ne 20, 3) := by decide +kernel
theorem d_M_halt_35 : decode prog_8_method_35_code 35 = .ok (.aload_n 0, 1) := by decide +kernel
theorem d_M_halt_36 : decode prog_8_method_35_code 36 = .ok (.invokevirtual 187, 3) := by decide +kernel
theorem d_M_halt_39 : decode prog_8_method_35_code 39 = .ok (.aload_n 0, 1) := by decide +kernel
theorem d_M_halt_40 : decode prog_8_method_35_code 40 = .ok (.invokevirtual 190, 3) := by decide +kernel
theorem d_M_halt_43 : decode prog_8_method_35_code 43 = .ok (.aload_n 0, 1) := by decide +kernel
theorem d_M_halt_44 : decode prog_8_method_35_code 44 = .ok (.invokevirtual 193, 3) := by decide +kernel
theorem d_M_halt_47 : decode prog_8_method_35_code 47 = .ok (.aload_n 0, 1) := by decide +kernel
theorem d_M_halt_48 : decode prog_8_method_35_code 48 = .ok (.iconst 0, 1) := by decide +kernel
theorem d_M_halt_49 : decode prog_8_method_35_code 49 = .ok (.putfield 143, 3) := by decide +kernel
theorem d_M_halt_52 : decode prog_8_method_35_code 52 = .ok (.iload_n 1, 1) := by decide +kernel
theorem d_M_halt_53 : decode prog_8_method_35_code 53 = .ok (.ifCond .eq 50, 3) := by decide +kernel
theorem d_M_halt_56 : decode prog_8_method_35_code 56 = .ok (.aload_n 0, 1) := by decide +kernel
theorem d_M_halt_57 : decode prog_8_method_35_code 57 = .ok (.getfield 143, 3) := by decide +kernel
theorem d_M_halt_60 : decode prog_8_method_35_code 60 = .ok (.ifCond .ne 43, 3) := by decide +kernel
theorem d_M_halt_63 : decode prog_8_method_35_code 63 = .ok (.aload_n 0, 1) := by decide +kernel
theorem d_M_halt_64 : decode prog_8_method_35_code 64 = .ok (.iconst 1, 1) := by decide +kernel
theorem d_M_halt_65 : decode prog_8_method_35_code 65 = .ok (.putfield 143, 3) := by decide +kernel
theorem d_M_halt_68 : decode prog_8_method_35_code 68 = .ok (.iconst 0, 1) := by decide +kernel
theorem d_M_halt_69 : decode prog_8_method_35_code 69 = .ok (.istore_n 3, 1) := by decide +kernel
theorem d_M_halt_70 : decode prog_8_method_35_code 70 = .ok (.iload_n 3, 1) := by decide +kernel
theorem d_M_halt_71 : decode prog_8_method_35_code 71 = .ok (.bipush 6, 2) := by decide +kernel
theorem d_M_halt_73 : decode prog_8_method_35_code 73 = .ok (.if_icmp .ge 30, 3) := by decide +kernel
theorem d_M_halt_76 : decode prog_8_method_35_code 76 = .ok (.aload_n 0, 1) := by decide +kernel
theorem d_M_halt_77 : decode prog_8_method_35_code 77 = .ok (.getfield 38, 3) := by decide +kernel
theorem d_M_halt_80 : decode prog_8_method_35_code 80 = .ok (.iload_n 3, 1) := by decide +kernel
theorem d_M_halt_81 : decode prog_8_method_35_code 81 = .ok (.iaload, 1) := by decide +kernel
theorem d_M_halt_82 : decode prog_8_method_35_code 82 = .ok (.ifCond .lt 15, 3) := by decide +kernel
theorem d_M_halt_85 : decode prog_8_method_35_code 85 = .ok (.aload_n 0, 1) := by decide +kernel
theorem d_M_halt_86 : decode prog_8_method_35_code 86 = .ok (.getfield 28, 3) := by decide +kernel
theorem d_M_halt_89 : decode prog_8_method_35_code 89 = .ok (.aload_n 0, 1) := by decide +kernel
theorem d_M_halt_90 : decode prog_8_method_35_code 90 = .ok (.getfield 38, 3) := by decide +kernel
theorem d_M_halt_93 : decode prog_8_method_35_code 93 = .ok (.iload_n 3, 1) := by decide +kernel
theorem d_M_halt_94 : decode prog_8_method_35_code 94 = .ok (.iaload, 1) := by decide +kernel
theorem d_M_halt_95 : decode prog_8_method_35_code 95 = .ok (.iconst 1, 1) := by decide +kernel
theorem d_M_halt_96 : decode prog_8_method_35_code 96 = .ok (.iastore, 1) := by decide +kernel
theorem d_M_halt_97 : decode prog_8_method_35_code 97 = .ok (.iinc 3 1, 3) := by decide +kernel
theorem d_M_halt_100 : decode prog_8_method_35_code 100 = .ok (.goto (-30), 3) := by decide +kernel
theorem d_M_halt_103 : decode prog_8_method_35_code 103 = .ok (.aload_n 0, 1) := by decide +kernel
theorem d_M_halt_104 : decode prog_8_method_35_code 104 = .ok (.invokevirtual 168, 3) := by decide +kernel
theorem d_M_halt_107 : decode prog_8_method_35_code 107 = .ok (.aload_n 0, 1) := by decide +kernel
theorem d_M_halt_108 : decode prog_8_method_35_code 108 = .ok (.dup, 1) := by decide +kernel
theorem d_M_halt_109 : decode prog_8_method_35_code 109 = .ok (.getfield 196, 3) := by decide +kernel
theorem d_M_halt_112 : decode prog_8_method_35_code 112 = .ok (.iconst 1, 1) := by decide +kernel
theorem d_M_halt_113 : decode prog_8_method_35_code 113 = .ok (.iadd, 1) := by decide +kernel
theorem d_M_halt_114 : decode prog_8_method_35_code 114 = .ok (.putfield 196, 3) := by decide +kernel
theorem d_M_halt_117 : decode prog_8_method_35_code 117 = .ok (.iconst 0, 1) := by decide +kernel
theorem d_M_halt_118 : decode prog_8_method_35_code 118 = .ok (.istore_n 3, 1) := by decide +kernel
theorem d_M_halt_119 : decode prog_8_method_35_code 119 = .ok (.iload_n 3, 1) := by decide +kernel
theorem d_M_halt_120 : decode prog_8_method_35_code 120 = .ok (.bipush 6, 2) := by decide +kernel
theorem d_M_halt_122 : decode prog_8_method_35_code 122 = .ok (.if_icmp .ge 21, 3) := by decide +kernel
theorem d_M_halt_125 : decode prog_8_method_35_code 125 = .ok (.aload_n 0, 1) := by decide +kernel
theorem d_M_halt_126 : decode prog_8_method_35_code 126 = .ok (.getfield 41, 3) := by decide +kernel
theorem d_M_halt_129 : decode prog_8_method_35_code 129 = .ok (.iload_n 3, 1) := by decide +kernel
theorem d_M_halt_130 : decode prog_8_method_35_code 130 = .ok (.aload_n 0, 1) := by decide +kernel
theorem d_M_halt_131 : decode prog_8_method_35_code 131 = .ok (.getfield 38, 3) := by decide +kernel
theorem d_M_halt_134 : decode prog_8_method_35_code 134 = .ok (.iload_n 3, 1) := by decide +kernel
theorem d_M_halt_135 : decode prog_8_method_35_code 135 = .ok (.iaload, 1) := by decide +kernel
theorem d_M_halt_136 : decode prog_8_method_35_code 136 = .ok (.iastore, 1) := by decide +kernel
theorem d_M_halt_137 : decode prog_8_method_35_code 137 = .ok (.iinc 3 1, 3) := by decide +kernel
theorem d_M_halt_140 : decode prog_8_method_35_code 140 = .ok (.goto (-21), 3) := by decide +kernel
theorem d_M_halt_143 : decode prog_8_method_35_code 143 = .ok (.iload_n 2, 1) := by decide +kernel
theorem d_M_halt_144 : decode prog_8_method_35_code 144 = .ok (.ireturn, 1) := by decide +kernel
theorem d_M_collect_0 : decode prog_8_method_36_code 0 = .ok (.aload_n 0, 1) := by decide +kernel
theorem d_M_collect_1 : decode prog_8_method_36_code 1 = .ok (.iconst 1, 1) := by decide +kernel
theorem d_M_collect_2 : decode prog_8_method_36_code 2 = .ok (.invokevirtual 199, 3) := by decide +kernel
theorem d_M_collect_5 : decode prog_8_method_36_code 5 = .ok (.pop, 1) := by decide +kernel
theorem d_M_collect_6 : decode prog_8_method_36_code 6 = .ok (.aload_n 0, 1) := by decide +kernel
theorem d_M_collect_7 : decode prog_8_method_36_code 7 = .ok (.invokevirtual 184, 3) := by decide +kernel
theorem d_M_collect_10 : decode prog_8_method_36_code 10 = .ok (.ifCond .le 10, 3) := by decide +kernel
theorem d_M_collect_13 : decode prog_8_method_36_code 13 = .ok (.aload_n 0, 1) := by decide +kernel
theorem d_M_collect_14 : decode prog_8_method_36_code 14 = .ok (.invokevirtual 203, 3) := by decide +kernel
theorem d_M_collect_17 : decode prog_8_method_36_code 17 = .ok (.goto (-11), 3) := by decide +kernel
theorem d_M_collect_20 : decode prog_8_method_36_code 20 = .ok (.aload_n 0, 1) := by decide +kernel
theorem d_M_collect_21 : decode prog_8_method_36_code 21 = .ok (.iconst 0, 1) := by decide +kernel
theorem d_M_collect_22 : decode prog_8_method_36_code 22 = .ok (.invokevirtual 199, 3) := by decide +kernel
theorem d_M_collect_25 : decode prog_8_method_36_code 25 = .ok (.pop, 1) := by decide +kernel
theorem d_M_collect_26 : decode prog_8_method_36_code 26 = .ok (.aload_n 0, 1) := by decide +kernel
theorem d_M_collect_27 : decode prog_8_method_36_code 27 = .ok (.invokevirtual 174, 3) := by decide +kernel
theorem d_M_collect_30 : decode prog_8_method_36_code 30 = .ok (.return_, 1) := by decide +kernel
theorem d_M_isRoot_0 : decode prog_8_method_37_code 0 = .ok (.iload_n 0, 1) := by decide +kernel
theorem d_M_isRoot_1 : decode prog_8_method_37_code 1 = .ok (.ifCond .lt 13, 3) := by decide +kernel
theorem d_M_isRoot_4 : decode prog_8_method_37_code 4 = .ok (.iload_n 0, 1) := by decide +kernel
theorem d_M_isRoot_5 : decode prog_8_method_37_code 5 = .ok (.bipush 6, 2) := by decide +kernel
theorem d_M_isRoot_7 : decode prog_8_method_37_code 7 = .ok (.if_icmp .ge 7, 3) := by decide +kernel
theorem d_M_isRoot_10 : decode prog_8_method_37_code 10 = .ok (.iconst 1, 1) := by decide +kernel
theorem d_M_isRoot_11 : decode prog_8_method_37_code 11 = .ok (.goto 4, 3) := by decide +kernel
theorem d_M_isRoot_14 : decode prog_8_method_37_code 14 = .ok (.iconst 0, 1) := by decide +kernel
theorem d_M_isRoot_15 : decode prog_8_method_37_code 15 = .ok (.ireturn, 1) := by decide +kernel
theorem d_M_allocate_0 : decode prog_8_method_38_code 0 = .ok (.aload_n 0, 1) := by decide +kernel
theorem d_M_allocate_1 : decode prog_8_method_38_code 1 = .ok (.iload_n 1, 1) := by decide +kernel
theorem d_M_allocate_2 : decode prog_8_method_38_code 2 = .ok (.invokestatic 206, 3) := by decide +kernel
theorem d_M_allocate_5 : decode prog_8_method_38_code 5 = .ok (.ifCond .eq 18, 3) := by decide +kernel
theorem d_M_allocate_8 : decode prog_8_method_38_code 8 = .ok (.iload_n 2, 1) := by decide +kernel
theorem d_M_allocate_9 : decode prog_8_method_38_code 9 = .ok (.iconst 1, 1) := by decide +kernel
theorem d_M_allocate_10 : decode prog_8_method_38_code 10 = .ok (.if_icmp .lt 13, 3) := by decide +kernel
theorem d_M_allocate_13 : decode prog_8_method_38_code 13 = .ok (.iload_n 2, 1) := by decide +kernel
theorem d_M_allocate_14 : decode prog_8_method_38_code 14 = .ok (.bipush 12, 2) := by decide +kernel
theorem d_M_allocate_16 : decode prog_8_method_38_code 16 = .ok (.if_icmp .gt 7, 3) := by decide +kernel
theorem d_M_allocate_19 : decode prog_8_method_38_code 19 = .ok (.iconst 0, 1) := by decide +kernel
theorem d_M_allocate_20 : decode prog_8_method_38_code 20 = .ok (.goto 4, 3) := by decide +kernel
theorem d_M_allocate_23 : decode prog_8_method_38_code 23 = .ok (.iconst 1, 1) := by decide +kernel
theorem d_M_allocate_24 : decode prog_8_method_38_code 24 = .ok (.putfield 69, 3) := by decide +kernel
theorem d_M_allocate_27 : decode prog_8_method_38_code 27 = .ok (.aload_n 0, 1) := by decide +kernel
theorem d_M_allocate_28 : decode prog_8_method_38_code 28 = .ok (.getfield 69, 3) := by decide +kernel
theorem d_M_allocate_31 : decode prog_8_method_38_code 31 = .ok (.ifCond .le 5, 3) := by decide +kernel
theorem d_M_allocate_34 : decode prog_8_method_38_code 34 = .ok (.iconst 0, 1) := by decide +kernel
theorem d_M_allocate_35 : decode prog_8_method_38_code 35 = .ok (.ireturn, 1) := by decide +kernel
theorem d_M_allocate_36 : decode prog_8_method_38_code 36 = .ok (.aload_n 0, 1) := by decide +kernel
theorem d_M_allocate_37 : decode prog_8_method_38_code 37 = .ok (.iload_n 2, 1) := by decide +kernel
theorem d_M_allocate_38 : decode prog_8_method_38_code 38 = .ok (.invokevirtual 101, 3) := by decide +kernel
theorem d_M_allocate_41 : decode prog_8_method_38_code 41 = .ok (.istore 4, 2) := by decide +kernel
theorem d_M_allocate_43 : decode prog_8_method_38_code 43 = .ok (.iload 4, 2) := by decide +kernel
theorem d_M_allocate_45 : decode prog_8_method_38_code 45 = .ok (.ifCond .ge 14, 3) := by decide +kernel
theorem d_M_allocate_48 : decode prog_8_method_38_code 48 = .ok (.aload_n 0, 1) := by decide +kernel
theorem d_M_allocate_49 : decode prog_8_method_38_code 49 = .ok (.invokevirtual 209, 3) := by decide +kernel
theorem d_M_allocate_52 : decode prog_8_method_38_code 52 = .ok (.aload_n 0, 1) := by decide +kernel
theorem d_M_allocate_53 : decode prog_8_method_38_code 53 = .ok (.iload_n 2, 1) := by decide +kernel
theorem d_M_allocate_54 : decode prog_8_method_38_code 54 = .ok (.invokevirtual 101, 3) := by decide +kernel
theorem d_M_allocate_57 : decode prog_8_method_38_code 57 = .ok (.istore 4, 2) := by decide +kernel
theorem d_M_allocate_59 : decode prog_8_method_38_code 59 = .ok (.iload 4, 2) := by decide +kernel
theorem d_M_allocate_61 : decode prog_8_method_38_code 61 = .ok (.ifCond .ge 10, 3) := by decide +kernel
theorem d_M_allocate_64 : decode prog_8_method_38_code 64 = .ok (.aload_n 0, 1) := by decide +kernel
theorem d_M_allocate_65 : decode prog_8_method_38_code 65 = .ok (.iconst 2, 1) := by decide +kernel
theorem d_M_allocate_66 : decode prog_8_method_38_code 66 = .ok (.putfield 69, 3) := by decide +kernel
theorem d_M_allocate_69 : decode prog_8_method_38_code 69 = .ok (.iconst 0, 1) := by decide +kernel
theorem d_M_allocate_70 : decode prog_8_method_38_code 70 = .ok (.ireturn, 1) := by decide +kernel
theorem d_M_allocate_71 : decode prog_8_method_38_code 71 = .ok (.aload_n 0, 1) := by decide +kernel
theorem d_M_allocate_72 : decode prog_8_method_38_code 72 = .ok (.iload_n 2, 1) := by decide +kernel
theorem d_M_allocate_73 : decode prog_8_method_38_code 73 = .ok (.iload_n 3, 1) := by decide +kernel
theorem d_M_allocate_74 : decode prog_8_method_38_code 74 = .ok (.invokevirtual 212, 3) := by decide +kernel
theorem d_M_allocate_77 : decode prog_8_method_38_code 77 = .ok (.istore 5, 2) := by decide +kernel
theorem d_M_allocate_79 : decode prog_8_method_38_code 79 = .ok (.aload_n 0, 1) := by decide +kernel
theorem d_M_allocate_80 : decode prog_8_method_38_code 80 = .ok (.iload 5, 2) := by decide +kernel
theorem d_M_allocate_82 : decode prog_8_method_38_code 82 = .ok (.iload 4, 2) := by decide +kernel
theorem d_M_allocate_84 : decode prog_8_method_38_code 84 = .ok (.invokevirtual 108, 3) := by decide +kernel
theorem d_M_allocate_87 : decode prog_8_method_38_code 87 = .ok (.aload_n 0, 1) := by decide +kernel
theorem d_M_allocate_88 : decode prog_8_method_38_code 88 = .ok (.getfield 38, 3) := by decide +kernel
theorem d_M_allocate_91 : decode prog_8_method_38_code 91 = .ok (.iload_n 1, 1) := by decide +kernel
theorem d_M_allocate_92 : decode prog_8_method_38_code 92 = .ok (.iload 5, 2) := by decide +kernel
theorem d_M_allocate_94 : decode prog_8_method_38_code 94 = .ok (.iastore, 1) := by decide +kernel
theorem d_M_allocate_95 : decode prog_8_method_38_code 95 = .ok (.iload 4, 2) := by decide +kernel
theorem d_M_allocate_97 : decode prog_8_method_38_code 97 = .ok (.ireturn, 1) := by decide +kernel
theorem d_M_drop_0 : decode prog_8_method_39_code 0 = .ok (.aload_n 0, 1) := by decide +kernel
theorem d_M_drop_1 : decode prog_8_method_39_code 1 = .ok (.iload_n 1, 1) := by decide +kernel
theorem d_M_drop_2 : decode prog_8_method_39_code 2 = .ok (.invokestatic 206, 3) := by decide +kernel
theorem d_M_drop_5 : decode prog_8_method_39_code 5 = .ok (.ifCond .eq 7, 3) := by decide +kernel
theorem d_M_drop_8 : decode prog_8_method_39_code 8 = .ok (.iconst 0, 1) := by decide +kernel
theorem d_M_drop_9 : decode prog_8_method_39_code 9 = .ok (.goto 4, 3) := by decide +kernel
theorem d_M_drop_12 : decode prog_8_method_39_code 12 = .ok (.iconst 1, 1) := by decide +kernel
theorem d_M_drop_13 : decode prog_8_method_39_code 13 = .ok (.putfield 69, 3) := by decide +kernel
theorem d_M_drop_16 : decode prog_8_method_39_code 16 = .ok (.aload_n 0, 1) := by decide +kernel
theorem d_M_drop_17 : decode prog_8_method_39_code 17 = .ok (.getfield 69, 3) := by decide +kernel
theorem d_M_drop_20 : decode prog_8_method_39_code 20 = .ok (.ifCond .ne 10, 3) := by decide +kernel
theorem d_M_drop_23 : decode prog_8_method_39_code 23 = .ok (.aload_n 0, 1) := by decide +kernel
theorem d_M_drop_24 : decode prog_8_method_39_code 24 = .ok (.getfield 38, 3) := by decide +kernel
theorem d_M_drop_27 : decode prog_8_method_39_code 27 = .ok (.iload_n 1, 1) := by decide +kernel
theorem d_M_drop_28 : decode prog_8_method_39_code 28 = .ok (.iconst (-1), 1) := by decide +kernel
theorem d_M_drop_29 : decode prog_8_method_39_code 29 = .ok (.iastore, 1) := by decide +kernel
theorem d_M_drop_30 : decode prog_8_method_39_code 30 = .ok (.return_, 1) := by decide +kernel
theorem d_M_copy_0 : decode prog_8_method_40_code 0 = .ok (.aload_n 0, 1) := by decide +kernel
theorem d_M_copy_1 : decode prog_8_method_40_code 1 = .ok (.iload_n 1, 1) := by decide +kernel
theorem d_M_copy_2 : decode prog_8_method_40_code 2 = .ok (.invokestatic 206, 3) := by decide +kernel
theorem d_M_copy_5 : decode prog_8_method_40_code 5 = .ok (.ifCond .eq 14, 3) := by decide +kernel
theorem d_M_copy_8 : decode prog_8_method_40_code 8 = .ok (.iload_n 2, 1) := by decide +kernel
theorem d_M_copy_9 : decode prog_8_method_40_code 9 = .ok (.invokestatic 206, 3) := by decide +kernel
theorem d_M_copy_12 : decode prog_8_method_40_code 12 = .ok (.ifCond .eq 7, 3) := by decide +kernel
theorem d_M_copy_15 : decode prog_8_method_40_code 15 = .ok (.iconst 0, 1) := by decide +kernel
theorem d_M_copy_16 : decode prog_8_method_40_code 16 = .ok (.goto 4, 3) := by decide +kernel
theorem d_M_copy_19 : decode prog_8_method_40_code 19 = .ok (.iconst 1, 1) := by decide +kernel
theorem d_M_copy_20 : decode prog_8_method_40_code 20 = .ok (.putfield 69, 3) := by decide +kernel
theorem d_M_copy_23 : decode prog_8_method_40_code 23 = .ok (.aload_n 0, 1) := by decide +kernel
theorem d_M_copy_24 : decode prog_8_method_40_code 24 = .ok (.getfield 69, 3) := by decide +kernel
theorem d_M_copy_27 : decode prog_8_method_40_code 27 = .ok (.ifCond .ne 15, 3) := by decide +kernel
theorem d_M_copy_30 : decode prog_8_method_40_code 30 = .ok (.aload_n 0, 1) := by decide +kernel
theorem d_M_copy_31 : decode prog_8_method_40_code 31 = .ok (.getfield 38, 3) := by decide +kernel
theorem d_M_copy_34 : decode prog_8_method_40_code 34 = .ok (.iload_n 1, 1) := by decide +kernel
theorem d_M_copy_35 : decode prog_8_method_40_code 35 = .ok (.aload_n 0, 1) := by decide +kernel
theorem d_M_copy_36 : decode prog_8_method_40_code 36 = .ok (.getfield 38, 3) := by decide +kernel
theorem d_M_copy_39 : decode prog_8_method_40_code 39 = .ok (.iload_n 2, 1) := by decide +kernel
theorem d_M_copy_40 : decode prog_8_method_40_code 40 = .ok (.iaload, 1) := by decide +kernel
theorem d_M_copy_41 : decode prog_8_method_40_code 41 = .ok (.iastore, 1) := by decide +kernel
theorem d_M_copy_42 : decode prog_8_method_40_code 42 = .ok (.return_, 1) := by decide +kernel
theorem d_M_reach_0 : decode prog_8_method_41_code 0 = .ok (.aload_n 0, 1) := by decide +kernel
theorem d_M_reach_1 : decode prog_8_method_41_code 1 = .ok (.iload_n 1, 1) := by decide +kernel
theorem d_M_reach_2 : decode prog_8_method_41_code 2 = .ok (.invokestatic 206, 3) := by decide +kernel
theorem d_M_reach_5 : decode prog_8_method_41_code 5 = .ok (.ifCond .eq 10, 3) := by decide +kernel
theorem d_M_reach_8 : decode prog_8_method_41_code 8 = .ok (.iload_n 2, 1) := by decide +kernel
theorem d_M_reach_9 : decode prog_8_method_41_code 9 = .ok (.invokestatic 206, 3) := by decide +kernel
theorem d_M_reach_12 : decode prog_8_method_41_code 12 = .ok (.ifCond .ne 7, 3) := by decide +kernel
theorem d_M_reach_15 : decode prog_8_method_41_code 15 = .ok (.iconst 1, 1) := by decide +kernel
theorem d_M_reach_16 : decode prog_8_method_41_code 16 = .ok (.goto 17, 3) := by decide +kernel
theorem d_M_reach_19 : decode prog_8_method_41_code 19 = .ok (.aload_n 0, 1) := by decide +kernel
theorem d_M_reach_20 : decode prog_8_method_41_code 20 = .ok (.getfield 38, 3) := by decide +kernel
theorem d_M_reach_23 : decode prog_8_method_41_code 23 = .ok (.iload_n 1, 1) := by decide +kernel
theorem d_M_reach_24 : decode prog_8_method_41_code 24 = .ok (.iaload, 1) := by decide +kernel
theorem d_M_reach_25 : decode prog_8_method_41_code 25 = .ok (.ifCond .ge 7, 3) := by decide +kernel
theorem d_M_reach_28 : decode prog_8_method_41_code 28 = .ok (.iconst 2, 1) := by decide +kernel
theorem d_M_reach_29 : decode prog_8_method_41_code 29 = .ok (.goto 4, 3) := by decide +kernel
theorem d_M_reach_32 : decode prog_8_method_41_code 32 = .ok (.iconst 0, 1) := by decide +kernel
theorem d_M_reach_33 : decode prog_8_method_41_code 33 = .ok (.putfield 69, 3) := by decide +kernel
theorem d_M_reach_36 : decode prog_8_method_41_code 36 = .ok (.aload_n 0, 1) := by decide +kernel
theorem d_M_reach_37 : decode prog_8_method_41_code 37 = .ok (.getfield 69, 3) := by decide +kernel
theorem d_M_reach_40 : decode prog_8_method_41_code 40 = .ok (.ifCond .ne 31, 3) := by decide +kernel
theorem d_M_reach_43 : decode prog_8_method_41_code 43 = .ok (.aload_n 0, 1) := by decide +kernel
theorem d_M_reach_44 : decode prog_8_method_41_code 44 = .ok (.iload_n 3, 1) := by decide +kernel
theorem d_M_reach_45 : decode prog_8_method_41_code 45 = .ok (.ifCond .lt 22, 3) := by decide +kernel
theorem d_M_reach_48 : decode prog_8_method_41_code 48 = .ok (.iload_n 3, 1) := by decide +kernel
theorem d_M_reach_49 : decode prog_8_method_41_code 49 = .ok (.aload_n 0, 1) := by decide +kernel
theorem d_M_reach_50 : decode prog_8_method_41_code 50 = .ok (.getfield 19, 3) := by decide +kernel
theorem d_M_reach_53 : decode prog_8_method_41_code 53 = .ok (.aload_n 0, 1) := by decide +kernel
theorem d_M_reach_54 : decode prog_8_method_41_code 54 = .ok (.getfield 38, 3) := by decide +kernel
end
section
/-! Instructions (written by a program) -/
theorem d_M_reach_57 : decode prog_8_method_41_code 57 = .ok (.iload_n 1, 1) := by decide +kernel
theorem d_M_reach_58 : decode prog_8_method_41_code 58 = .ok (.iaload, 1) := by decide +kernel
theorem d_M_reach_59 : decode prog_8_method_41_code 59 = .ok (.iaload, 1) := by decide +kernel
theorem d_M_reach_60 : decode prog_8_method_41_code 60 = .ok (.if_icmp .ge 7, 3) := by decide +kernel
theorem d_M_reach_63 : decode prog_8_method_41_code 63 = .ok (.iconst 0, 1) := by decide +kernel
theorem d_M_reach_64 : decode prog_8_method_41_code 64 = .ok (.goto 4, 3) := by decide +kernel
theorem d_M_reach_67 : decode prog_8_method_41_code 67 = .ok (.iconst 3, 1) := by decide +kernel
theorem d_M_reach_68 : decode prog_8_method_41_code 68 = .ok (.putfield 69, 3) := by decide +kernel
theorem d_M_reach_71 : decode prog_8_method_41_code 71 = .ok (.return_, 1) := by decide +kernel
theorem d_M_load_0 : decode prog_8_method_42_code 0 = .ok (.aload_n 0, 1) := by decide +kernel
theorem d_M_load_1 : decode prog_8_method_42_code 1 = .ok (.iload_n 2, 1) := by decide +kernel
theorem d_M_load_2 : decode prog_8_method_42_code 2 = .ok (.iload_n 1, 1) := by decide +kernel
theorem d_M_load_3 : decode prog_8_method_42_code 3 = .ok (.iload_n 3, 1) := by decide +kernel
theorem d_M_load_4 : decode prog_8_method_42_code 4 = .ok (.invokevirtual 216, 3) := by decide +kernel
theorem d_M_load_7 : decode prog_8_method_42_code 7 = .ok (.aload_n 0, 1) := by decide +kernel
theorem d_M_load_8 : decode prog_8_method_42_code 8 = .ok (.getfield 69, 3) := by decide +kernel
theorem d_M_load_11 : decode prog_8_method_42_code 11 = .ok (.ifCond .le 5, 3) := by decide +kernel
theorem d_M_load_14 : decode prog_8_method_42_code 14 = .ok (.iconst 0, 1) := by decide +kernel
theorem d_M_load_15 : decode prog_8_method_42_code 15 = .ok (.ireturn, 1) := by decide +kernel
theorem d_M_load_16 : decode prog_8_method_42_code 16 = .ok (.aload_n 0, 1) := by decide +kernel
theorem d_M_load_17 : decode prog_8_method_42_code 17 = .ok (.getfield 38, 3) := by decide +kernel
theorem d_M_load_20 : decode prog_8_method_42_code 20 = .ok (.iload_n 1, 1) := by decide +kernel
theorem d_M_load_21 : decode prog_8_method_42_code 21 = .ok (.aload_n 0, 1) := by decide +kernel
theorem d_M_load_22 : decode prog_8_method_42_code 22 = .ok (.getfield 31, 3) := by decide +kernel
theorem d_M_load_25 : decode prog_8_method_42_code 25 = .ok (.bipush 12, 2) := by decide +kernel
theorem d_M_load_27 : decode prog_8_method_42_code 27 = .ok (.aload_n 0, 1) := by decide +kernel
theorem d_M_load_28 : decode prog_8_method_42_code 28 = .ok (.getfield 38, 3) := by decide +kernel
theorem d_M_load_31 : decode prog_8_method_42_code 31 = .ok (.iload_n 2, 1) := by decide +kernel
theorem d_M_load_32 : decode prog_8_method_42_code 32 = .ok (.iaload, 1) := by decide +kernel
theorem d_M_load_33 : decode prog_8_method_42_code 33 = .ok (.imul, 1) := by decide +kernel
theorem d_M_load_34 : decode prog_8_method_42_code 34 = .ok (.iload_n 3, 1) := by decide +kernel
theorem d_M_load_35 : decode prog_8_method_42_code 35 = .ok (.iadd, 1) := by decide +kernel
theorem d_M_load_36 : decode prog_8_method_42_code 36 = .ok (.iaload, 1) := by decide +kernel
theorem d_M_load_37 : decode prog_8_method_42_code 37 = .ok (.iastore, 1) := by decide +kernel
theorem d_M_load_38 : decode prog_8_method_42_code 38 = .ok (.aload_n 0, 1) := by decide +kernel
theorem d_M_load_39 : decode prog_8_method_42_code 39 = .ok (.aload_n 0, 1) := by decide +kernel
theorem d_M_load_40 : decode prog_8_method_42_code 40 = .ok (.getfield 38, 3) := by decide +kernel
theorem d_M_load_43 : decode prog_8_method_42_code 43 = .ok (.iload_n 1, 1) := by decide +kernel
theorem d_M_load_44 : decode prog_8_method_42_code 44 = .ok (.iaload, 1) := by decide +kernel
theorem d_M_load_45 : decode prog_8_method_42_code 45 = .ok (.invokevirtual 220, 3) := by decide +kernel
theorem d_M_load_48 : decode prog_8_method_42_code 48 = .ok (.ireturn, 1) := by decide +kernel
theorem d_M_store_0 : decode prog_8_method_43_code 0 = .ok (.aload_n 0, 1) := by decide +kernel
theorem d_M_store_1 : decode prog_8_method_43_code 1 = .ok (.iload_n 1, 1) := by decide +kernel
theorem d_M_store_2 : decode prog_8_method_43_code 2 = .ok (.iload_n 3, 1) := by decide +kernel
theorem d_M_store_3 : decode prog_8_method_43_code 3 = .ok (.iload_n 2, 1) := by decide +kernel
theorem d_M_store_4 : decode prog_8_method_43_code 4 = .ok (.invokevirtual 216, 3) := by decide +kernel
theorem d_M_store_7 : decode prog_8_method_43_code 7 = .ok (.aload_n 0, 1) := by decide +kernel
theorem d_M_store_8 : decode prog_8_method_43_code 8 = .ok (.getfield 69, 3) := by decide +kernel
theorem d_M_store_11 : decode prog_8_method_43_code 11 = .ok (.ifCond .le 4, 3) := by decide +kernel
theorem d_M_store_14 : decode prog_8_method_43_code 14 = .ok (.return_, 1) := by decide +kernel
theorem d_M_store_15 : decode prog_8_method_43_code 15 = .ok (.aload_n 0, 1) := by decide +kernel
theorem d_M_store_16 : decode prog_8_method_43_code 16 = .ok (.getfield 38, 3) := by decide +kernel
theorem d_M_store_19 : decode prog_8_method_43_code 19 = .ok (.iload_n 1, 1) := by decide +kernel
theorem d_M_store_20 : decode prog_8_method_43_code 20 = .ok (.iaload, 1) := by decide +kernel
theorem d_M_store_21 : decode prog_8_method_43_code 21 = .ok (.istore 4, 2) := by decide +kernel
theorem d_M_store_23 : decode prog_8_method_43_code 23 = .ok (.bipush 12, 2) := by decide +kernel
theorem d_M_store_25 : decode prog_8_method_43_code 25 = .ok (.iload 4, 2) := by decide +kernel
theorem d_M_store_27 : decode prog_8_method_43_code 27 = .ok (.imul, 1) := by decide +kernel
theorem d_M_store_28 : decode prog_8_method_43_code 28 = .ok (.iload_n 2, 1) := by decide +kernel
theorem d_M_store_29 : decode prog_8_method_43_code 29 = .ok (.iadd, 1) := by decide +kernel
theorem d_M_store_30 : decode prog_8_method_43_code 30 = .ok (.istore 5, 2) := by decide +kernel
theorem d_M_store_32 : decode prog_8_method_43_code 32 = .ok (.aload_n 0, 1) := by decide +kernel
theorem d_M_store_33 : decode prog_8_method_43_code 33 = .ok (.getfield 13, 3) := by decide +kernel
theorem d_M_store_36 : decode prog_8_method_43_code 36 = .ok (.iload 4, 2) := by decide +kernel
theorem d_M_store_38 : decode prog_8_method_43_code 38 = .ok (.iaload, 1) := by decide +kernel
theorem d_M_store_39 : decode prog_8_method_43_code 39 = .ok (.iconst 2, 1) := by decide +kernel
theorem d_M_store_40 : decode prog_8_method_43_code 40 = .ok (.if_icmp .ne 58, 3) := by decide +kernel
theorem d_M_store_43 : decode prog_8_method_43_code 43 = .ok (.aload_n 0, 1) := by decide +kernel
theorem d_M_store_44 : decode prog_8_method_43_code 44 = .ok (.getfield 34, 3) := by decide +kernel
theorem d_M_store_47 : decode prog_8_method_43_code 47 = .ok (.iload 5, 2) := by decide +kernel
theorem d_M_store_49 : decode prog_8_method_43_code 49 = .ok (.baload, 1) := by decide +kernel
theorem d_M_store_50 : decode prog_8_method_43_code 50 = .ok (.ifCond .ne 48, 3) := by decide +kernel
theorem d_M_store_53 : decode prog_8_method_43_code 53 = .ok (.aload_n 0, 1) := by decide +kernel
theorem d_M_store_54 : decode prog_8_method_43_code 54 = .ok (.getfield 34, 3) := by decide +kernel
theorem d_M_store_57 : decode prog_8_method_43_code 57 = .ok (.iload 5, 2) := by decide +kernel
theorem d_M_store_59 : decode prog_8_method_43_code 59 = .ok (.iconst 1, 1) := by decide +kernel
theorem d_M_store_60 : decode prog_8_method_43_code 60 = .ok (.bastore, 1) := by decide +kernel
theorem d_M_store_61 : decode prog_8_method_43_code 61 = .ok (.aload_n 0, 1) := by decide +kernel
theorem d_M_store_62 : decode prog_8_method_43_code 62 = .ok (.getfield 60, 3) := by decide +kernel
theorem d_M_store_65 : decode prog_8_method_43_code 65 = .ok (.aload_n 0, 1) := by decide +kernel
theorem d_M_store_66 : decode prog_8_method_43_code 66 = .ok (.getfield 153, 3) := by decide +kernel
theorem d_M_store_69 : decode prog_8_method_43_code 69 = .ok (.iload 5, 2) := by decide +kernel
theorem d_M_store_71 : decode prog_8_method_43_code 71 = .ok (.iastore, 1) := by decide +kernel
theorem d_M_store_72 : decode prog_8_method_43_code 72 = .ok (.aload_n 0, 1) := by decide +kernel
theorem d_M_store_73 : decode prog_8_method_43_code 73 = .ok (.getfield 63, 3) := by decide +kernel
theorem d_M_store_76 : decode prog_8_method_43_code 76 = .ok (.aload_n 0, 1) := by decide +kernel
theorem d_M_store_77 : decode prog_8_method_43_code 77 = .ok (.getfield 153, 3) := by decide +kernel
theorem d_M_store_80 : decode prog_8_method_43_code 80 = .ok (.aload_n 0, 1) := by decide +kernel
theorem d_M_store_81 : decode prog_8_method_43_code 81 = .ok (.getfield 31, 3) := by decide +kernel
theorem d_M_store_84 : decode prog_8_method_43_code 84 = .ok (.iload 5, 2) := by decide +kernel
theorem d_M_store_86 : decode prog_8_method_43_code 86 = .ok (.iaload, 1) := by decide +kernel
theorem d_M_store_87 : decode prog_8_method_43_code 87 = .ok (.iastore, 1) := by decide +kernel
theorem d_M_store_88 : decode prog_8_method_43_code 88 = .ok (.aload_n 0, 1) := by decide +kernel
theorem d_M_store_89 : decode prog_8_method_43_code 89 = .ok (.dup, 1) := by decide +kernel
theorem d_M_store_90 : decode prog_8_method_43_code 90 = .ok (.getfield 153, 3) := by decide +kernel
theorem d_M_store_93 : decode prog_8_method_43_code 93 = .ok (.iconst 1, 1) := by decide +kernel
theorem d_M_store_94 : decode prog_8_method_43_code 94 = .ok (.iadd, 1) := by decide +kernel
theorem d_M_store_95 : decode prog_8_method_43_code 95 = .ok (.putfield 153, 3) := by decide +kernel
theorem d_M_store_98 : decode prog_8_method_43_code 98 = .ok (.aload_n 0, 1) := by decide +kernel
theorem d_M_store_99 : decode prog_8_method_43_code 99 = .ok (.getfield 31, 3) := by decide +kernel
theorem d_M_store_102 : decode prog_8_method_43_code 102 = .ok (.iload 5, 2) := by decide +kernel
theorem d_M_store_104 : decode prog_8_method_43_code 104 = .ok (.aload_n 0, 1) := by decide +kernel
theorem d_M_store_105 : decode prog_8_method_43_code 105 = .ok (.getfield 38, 3) := by decide +kernel
theorem d_M_store_108 : decode prog_8_method_43_code 108 = .ok (.iload_n 3, 1) := by decide +kernel
theorem d_M_store_109 : decode prog_8_method_43_code 109 = .ok (.iaload, 1) := by decide +kernel
theorem d_M_store_110 : decode prog_8_method_43_code 110 = .ok (.iastore, 1) := by decide +kernel
theorem d_M_store_111 : decode prog_8_method_43_code 111 = .ok (.return_, 1) := by decide +kernel
theorem d_M_drain_0 : decode prog_8_method_44_code 0 = .ok (.aload_n 0, 1) := by decide +kernel
theorem d_M_drain_1 : decode prog_8_method_44_code 1 = .ok (.iload_n 1, 1) := by decide +kernel
theorem d_M_drain_2 : decode prog_8_method_44_code 2 = .ok (.ifCond .ge 7, 3) := by decide +kernel
theorem d_M_drain_5 : decode prog_8_method_44_code 5 = .ok (.iconst 1, 1) := by decide +kernel
theorem d_M_drain_6 : decode prog_8_method_44_code 6 = .ok (.goto 4, 3) := by decide +kernel
theorem d_M_drain_9 : decode prog_8_method_44_code 9 = .ok (.iconst 0, 1) := by decide +kernel
theorem d_M_drain_10 : decode prog_8_method_44_code 10 = .ok (.putfield 69, 3) := by decide +kernel
theorem d_M_drain_13 : decode prog_8_method_44_code 13 = .ok (.iconst 0, 1) := by decide +kernel
theorem d_M_drain_14 : decode prog_8_method_44_code 14 = .ok (.istore_n 2, 1) := by decide +kernel
theorem d_M_drain_15 : decode prog_8_method_44_code 15 = .ok (.iload_n 2, 1) := by decide +kernel
theorem d_M_drain_16 : decode prog_8_method_44_code 16 = .ok (.iload_n 1, 1) := by decide +kernel
theorem d_M_drain_17 : decode prog_8_method_44_code 17 = .ok (.if_icmp .ge 20, 3) := by decide +kernel
theorem d_M_drain_20 : decode prog_8_method_44_code 20 = .ok (.aload_n 0, 1) := by decide +kernel
theorem d_M_drain_21 : decode prog_8_method_44_code 21 = .ok (.getfield 118, 3) := by decide +kernel
theorem d_M_drain_24 : decode prog_8_method_44_code 24 = .ok (.ifCond .le 13, 3) := by decide +kernel
theorem d_M_drain_27 : decode prog_8_method_44_code 27 = .ok (.aload_n 0, 1) := by decide +kernel
theorem d_M_drain_28 : decode prog_8_method_44_code 28 = .ok (.invokevirtual 134, 3) := by decide +kernel
theorem d_M_drain_31 : decode prog_8_method_44_code 31 = .ok (.iinc 2 1, 3) := by decide +kernel
theorem d_M_drain_34 : decode prog_8_method_44_code 34 = .ok (.goto (-19), 3) := by decide +kernel
theorem d_M_drain_37 : decode prog_8_method_44_code 37 = .ok (.aload_n 0, 1) := by decide +kernel
theorem d_M_drain_38 : decode prog_8_method_44_code 38 = .ok (.getfield 69, 3) := by decide +kernel
theorem d_M_drain_41 : decode prog_8_method_44_code 41 = .ok (.ifCond .le 7, 3) := by decide +kernel
theorem d_M_drain_44 : decode prog_8_method_44_code 44 = .ok (.iconst 0, 1) := by decide +kernel
theorem d_M_drain_45 : decode prog_8_method_44_code 45 = .ok (.goto 7, 3) := by decide +kernel
theorem d_M_drain_48 : decode prog_8_method_44_code 48 = .ok (.aload_n 0, 1) := by decide +kernel
theorem d_M_drain_49 : decode prog_8_method_44_code 49 = .ok (.getfield 118, 3) := by decide +kernel
theorem d_M_drain_52 : decode prog_8_method_44_code 52 = .ok (.ireturn, 1) := by decide +kernel
theorem d_M_trace_0 : decode prog_8_method_45_code 0 = .ok (.aload_n 0, 1) := by decide +kernel
theorem d_M_trace_1 : decode prog_8_method_45_code 1 = .ok (.iload_n 1, 1) := by decide +kernel
theorem d_M_trace_2 : decode prog_8_method_45_code 2 = .ok (.ifCond .ge 7, 3) := by decide +kernel
theorem d_M_trace_5 : decode prog_8_method_45_code 5 = .ok (.iconst 1, 1) := by decide +kernel
theorem d_M_trace_6 : decode prog_8_method_45_code 6 = .ok (.goto 15, 3) := by decide +kernel
theorem d_M_trace_9 : decode prog_8_method_45_code 9 = .ok (.aload_n 0, 1) := by decide +kernel
theorem d_M_trace_10 : decode prog_8_method_45_code 10 = .ok (.getfield 143, 3) := by decide +kernel
theorem d_M_trace_13 : decode prog_8_method_45_code 13 = .ok (.ifCond .eq 7, 3) := by decide +kernel
theorem d_M_trace_16 : decode prog_8_method_45_code 16 = .ok (.iconst 0, 1) := by decide +kernel
theorem d_M_trace_17 : decode prog_8_method_45_code 17 = .ok (.goto 4, 3) := by decide +kernel
theorem d_M_trace_20 : decode prog_8_method_45_code 20 = .ok (.iconst 2, 1) := by decide +kernel
theorem d_M_trace_21 : decode prog_8_method_45_code 21 = .ok (.putfield 69, 3) := by decide +kernel
theorem d_M_trace_24 : decode prog_8_method_45_code 24 = .ok (.aload_n 0, 1) := by decide +kernel
theorem d_M_trace_25 : decode prog_8_method_45_code 25 = .ok (.getfield 69, 3) := by decide +kernel
theorem d_M_trace_28 : decode prog_8_method_45_code 28 = .ok (.ifCond .le 5, 3) := by decide +kernel
theorem d_M_trace_31 : decode prog_8_method_45_code 31 = .ok (.iconst 0, 1) := by decide +kernel
theorem d_M_trace_32 : decode prog_8_method_45_code 32 = .ok (.ireturn, 1) := by decide +kernel
theorem d_M_trace_33 : decode prog_8_method_45_code 33 = .ok (.iconst 0, 1) := by decide +kernel
theorem d_M_trace_34 : decode prog_8_method_45_code 34 = .ok (.istore_n 2, 1) := by decide +kernel
theorem d_M_trace_35 : decode prog_8_method_45_code 35 = .ok (.iload_n 2, 1) := by decide +kernel
theorem d_M_trace_36 : decode prog_8_method_45_code 36 = .ok (.iload_n 1, 1) := by decide +kernel
theorem d_M_trace_37 : decode prog_8_method_45_code 37 = .ok (.if_icmp .ge 20, 3) := by decide +kernel
theorem d_M_trace_40 : decode prog_8_method_45_code 40 = .ok (.aload_n 0, 1) := by decide +kernel
theorem d_M_trace_41 : decode prog_8_method_45_code 41 = .ok (.invokevirtual 184, 3) := by decide +kernel
theorem d_M_trace_44 : decode prog_8_method_45_code 44 = .ok (.ifCond .le 13, 3) := by decide +kernel
theorem d_M_trace_47 : decode prog_8_method_45_code 47 = .ok (.aload_n 0, 1) := by decide +kernel
theorem d_M_trace_48 : decode prog_8_method_45_code 48 = .ok (.invokevirtual 203, 3) := by decide +kernel
theorem d_M_trace_51 : decode prog_8_method_45_code 51 = .ok (.iinc 2 1, 3) := by decide +kernel
theorem d_M_trace_54 : decode prog_8_method_45_code 54 = .ok (.goto (-19), 3) := by decide +kernel
theorem d_M_trace_57 : decode prog_8_method_45_code 57 = .ok (.aload_n 0, 1) := by decide +kernel
theorem d_M_trace_58 : decode prog_8_method_45_code 58 = .ok (.invokevirtual 184, 3) := by decide +kernel
theorem d_M_trace_61 : decode prog_8_method_45_code 61 = .ok (.ireturn, 1) := by decide +kernel
theorem d_M_pause_0 : decode prog_8_method_46_code 0 = .ok (.aload_n 0, 1) := by decide +kernel
theorem d_M_pause_1 : decode prog_8_method_46_code 1 = .ok (.iconst 0, 1) := by decide +kernel
theorem d_M_pause_2 : decode prog_8_method_46_code 2 = .ok (.putfield 69, 3) := by decide +kernel
theorem d_M_pause_5 : decode prog_8_method_46_code 5 = .ok (.aload_n 0, 1) := by decide +kernel
theorem d_M_pause_6 : decode prog_8_method_46_code 6 = .ok (.iload_n 1, 1) := by decide +kernel
theorem d_M_pause_7 : decode prog_8_method_46_code 7 = .ok (.invokevirtual 199, 3) := by decide +kernel
theorem d_M_pause_10 : decode prog_8_method_46_code 10 = .ok (.ireturn, 1) := by decide +kernel
theorem d_M_root_0 : decode prog_8_method_47_code 0 = .ok (.aload_n 0, 1) := by decide +kernel
theorem d_M_root_1 : decode prog_8_method_47_code 1 = .ok (.iload_n 1, 1) := by decide +kernel
theorem d_M_root_2 : decode prog_8_method_47_code 2 = .ok (.invokestatic 206, 3) := by decide +kernel
theorem d_M_root_5 : decode prog_8_method_47_code 5 = .ok (.ifCond .eq 7, 3) := by decide +kernel
theorem d_M_root_8 : decode prog_8_method_47_code 8 = .ok (.iconst 0, 1) := by decide +kernel
theorem d_M_root_9 : decode prog_8_method_47_code 9 = .ok (.goto 4, 3) := by decide +kernel
theorem d_M_root_12 : decode prog_8_method_47_code 12 = .ok (.iconst 1, 1) := by decide +kernel
theorem d_M_root_13 : decode prog_8_method_47_code 13 = .ok (.putfield 69, 3) := by decide +kernel
theorem d_M_root_16 : decode prog_8_method_47_code 16 = .ok (.aload_n 0, 1) := by decide +kernel
theorem d_M_root_17 : decode prog_8_method_47_code 17 = .ok (.getfield 69, 3) := by decide +kernel
theorem d_M_root_20 : decode prog_8_method_47_code 20 = .ok (.ifCond .le 7, 3) := by decide +kernel
theorem d_M_root_23 : decode prog_8_method_47_code 23 = .ok (.iconst 0, 1) := by decide +kernel
theorem d_M_root_24 : decode prog_8_method_47_code 24 = .ok (.goto 13, 3) := by decide +kernel
theorem d_M_root_27 : decode prog_8_method_47_code 27 = .ok (.aload_n 0, 1) := by decide +kernel
theorem d_M_root_28 : decode prog_8_method_47_code 28 = .ok (.aload_n 0, 1) := by decide +kernel
theorem d_M_root_29 : decode prog_8_method_47_code 29 = .ok (.getfield 38, 3) := by decide +kernel
theorem d_M_root_32 : decode prog_8_method_47_code 32 = .ok (.iload_n 1, 1) := by decide +kernel
theorem d_M_root_33 : decode prog_8_method_47_code 33 = .ok (.iaload, 1) := by decide +kernel
theorem d_M_root_34 : decode prog_8_method_47_code 34 = .ok (.invokevirtual 220, 3) := by decide +kernel
theorem d_M_root_37 : decode prog_8_method_47_code 37 = .ok (.ireturn, 1) := by decide +kernel
theorem d_M_field_0 : decode prog_8_method_48_code 0 = .ok (.aload_n 0, 1) := by decide +kernel
theorem d_M_field_1 : decode prog_8_method_48_code 1 = .ok (.iload_n 1, 1) := by decide +kernel
theorem d_M_field_2 : decode prog_8_method_48_code 2 = .ok (.invokevirtual 137, 3) := by decide +kernel
theorem d_M_field_5 : decode prog_8_method_48_code 5 = .ok (.istore_n 3, 1) := by decide +kernel
theorem d_M_field_6 : decode prog_8_method_48_code 6 = .ok (.aload_n 0, 1) := by decide +kernel
theorem d_M_field_7 : decode prog_8_method_48_code 7 = .ok (.iload_n 3, 1) := by decide +kernel
theorem d_M_field_8 : decode prog_8_method_48_code 8 = .ok (.ifCond .ge 7, 3) := by decide +kernel
theorem d_M_field_11 : decode prog_8_method_48_code 11 = .ok (.iconst 1, 1) := by decide +kernel
theorem d_M_field_12 : decode prog_8_method_48_code 12 = .ok (.goto 4, 3) := by decide +kernel
theorem d_M_field_15 : decode prog_8_method_48_code 15 = .ok (.iconst 0, 1) := by decide +kernel
theorem d_M_field_16 : decode prog_8_method_48_code 16 = .ok (.putfield 69, 3) := by decide +kernel
theorem d_M_field_19 : decode prog_8_method_48_code 19 = .ok (.aload_n 0, 1) := by decide +kernel
theorem d_M_field_20 : decode prog_8_method_48_code 20 = .ok (.getfield 69, 3) := by decide +kernel
theorem d_M_field_23 : decode prog_8_method_48_code 23 = .ok (.ifCond .ne 26, 3) := by decide +kernel
theorem d_M_field_26 : decode prog_8_method_48_code 26 = .ok (.aload_n 0, 1) := by decide +kernel
theorem d_M_field_27 : decode prog_8_method_48_code 27 = .ok (.iload_n 2, 1) := by decide +kernel
theorem d_M_field_28 : decode prog_8_method_48_code 28 = .ok (.ifCond .lt 17, 3) := by decide +kernel
theorem d_M_field_31 : decode prog_8_method_48_code 31 = .ok (.iload_n 2, 1) := by decide +kernel
theorem d_M_field_32 : decode prog_8_method_48_code 32 = .ok (.aload_n 0, 1) := by decide +kernel
theorem d_M_field_33 : decode prog_8_method_48_code 33 = .ok (.getfield 19, 3) := by decide +kernel
theorem d_M_field_36 : decode prog_8_method_48_code 36 = .ok (.iload_n 3, 1) := by decide +kernel
theorem d_M_field_37 : decode prog_8_method_48_code 37 = .ok (.iaload, 1) := by decide +kernel
theorem d_M_field_38 : decode prog_8_method_48_code 38 = .ok (.if_icmp .ge 7, 3) := by decide +kernel
theorem d_M_field_41 : decode prog_8_method_48_code 41 = .ok (.iconst 0, 1) := by decide +kernel
theorem d_M_field_42 : decode prog_8_method_48_code 42 = .ok (.goto 4, 3) := by decide +kernel
theorem d_M_field_45 : decode prog_8_method_48_code 45 = .ok (.iconst 2, 1) := by decide +kernel
theorem d_M_field_46 : decode prog_8_method_48_code 46 = .ok (.putfield 69, 3) := by decide +kernel
theorem d_M_field_49 : decode prog_8_method_48_code 49 = .ok (.aload_n 0, 1) := by decide +kernel
theorem d_M_field_50 : decode prog_8_method_48_code 50 = .ok (.getfield 69, 3) := by decide +kernel
theorem d_M_field_53 : decode prog_8_method_48_code 53 = .ok (.ifCond .le 7, 3) := by decide +kernel
theorem d_M_field_56 : decode prog_8_method_48_code 56 = .ok (.iconst 0, 1) := by decide +kernel
theorem d_M_field_57 : decode prog_8_method_48_code 57 = .ok (.goto 18, 3) := by decide +kernel
theorem d_M_field_60 : decode prog_8_method_48_code 60 = .ok (.aload_n 0, 1) := by decide +kernel
theorem d_M_field_61 : decode prog_8_method_48_code 61 = .ok (.aload_n 0, 1) := by decide +kernel
theorem d_M_field_62 : decode prog_8_method_48_code 62 = .ok (.getfield 31, 3) := by decide +kernel
theorem d_M_field_65 : decode prog_8_method_48_code 65 = .ok (.bipush 12, 2) := by decide +kernel
theorem d_M_field_67 : decode prog_8_method_48_code 67 = .ok (.iload_n 3, 1) := by decide +kernel
theorem d_M_field_68 : decode prog_8_method_48_code 68 = .ok (.imul, 1) := by decide +kernel
theorem d_M_field_69 : decode prog_8_method_48_code 69 = .ok (.iload_n 2, 1) := by decide +kernel
theorem d_M_field_70 : decode prog_8_method_48_code 70 = .ok (.iadd, 1) := by decide +kernel
theorem d_M_field_71 : decode prog_8_method_48_code 71 = .ok (.iaload, 1) := by decide +kernel
theorem d_M_field_72 : decode prog_8_method_48_code 72 = .ok (.invokevirtual 220, 3) := by decide +kernel
theorem d_M_field_75 : decode prog_8_method_48_code 75 = .ok (.ireturn, 1) := by decide +kernel
theorem d_M_object_0 : decode prog_8_method_49_code 0 = .ok (.aload_n 0, 1) := by decide +kernel
theorem d_M_object_1 : decode prog_8_method_49_code 1 = .ok (.iload_n 1, 1) := by decide +kernel
theorem d_M_object_2 : decode prog_8_method_49_code 2 = .ok (.invokevirtual 137, 3) := by decide +kernel
theorem d_M_object_5 : decode prog_8_method_49_code 5 = .ok (.istore_n 3, 1) := by decide +kernel
theorem d_M_object_6 : decode prog_8_method_49_code 6 = .ok (.aload_n 0, 1) := by decide +kernel
theorem d_M_object_7 : decode prog_8_method_49_code 7 = .ok (.iload_n 2, 1) := by decide +kernel
theorem d_M_object_8 : decode prog_8_method_49_code 8 = .ok (.ifCond .lt 8, 3) := by decide +kernel
theorem d_M_object_11 : decode prog_8_method_49_code 11 = .ok (.iload_n 2, 1) := by decide +kernel
theorem d_M_object_12 : decode prog_8_method_49_code 12 = .ok (.iconst 3, 1) := by decide +kernel
theorem d_M_object_13 : decode prog_8_method_49_code 13 = .ok (.if_icmp .le 7, 3) := by decide +kernel
theorem d_M_object_16 : decode prog_8_method_49_code 16 = .ok (.iconst 1, 1) := by decide +kernel
theorem d_M_object_17 : decode prog_8_method_49_code 17 = .ok (.goto 12, 3) := by decide +kernel
theorem d_M_object_20 : decode prog_8_method_49_code 20 = .ok (.iload_n 3, 1) := by decide +kernel
theorem d_M_object_21 : decode prog_8_method_49_code 21 = .ok (.ifCond .ge 7, 3) := by decide +kernel
theorem d_M_object_24 : decode prog_8_method_49_code 24 = .ok (.iconst 2, 1) := by decide +kernel
theorem d_M_object_25 : decode prog_8_method_49_code 25 = .ok (.goto 4, 3) := by decide +kernel
theorem d_M_object_28 : decode prog_8_method_49_code 28 = .ok (.iconst 0, 1) := by decide +kernel
theorem d_M_object_29 : decode prog_8_method_49_code 29 = .ok (.putfield 69, 3) := by decide +kernel
theorem d_M_object_32 : decode prog_8_method_49_code 32 = .ok (.aload_n 0, 1) := by decide +kernel
theorem d_M_object_33 : decode prog_8_method_49_code 33 = .ok (.getfield 69, 3) := by decide +kernel
theorem d_M_object_36 : decode prog_8_method_49_code 36 = .ok (.ifCond .le 5, 3) := by decide +kernel
theorem d_M_object_39 : decode prog_8_method_49_code 39 = .ok (.iconst 0, 1) := by decide +kernel
theorem d_M_object_40 : decode prog_8_method_49_code 40 = .ok (.ireturn, 1) := by decide +kernel
theorem d_M_object_41 : decode prog_8_method_49_code 41 = .ok (.iload_n 2, 1) := by decide +kernel
theorem d_M_object_42 : decode prog_8_method_49_code 42 = .ok (.ifCond .ne 12, 3) := by decide +kernel
theorem d_M_object_45 : decode prog_8_method_49_code 45 = .ok (.aload_n 0, 1) := by decide +kernel
theorem d_M_object_46 : decode prog_8_method_49_code 46 = .ok (.getfield 19, 3) := by decide +kernel
theorem d_M_object_49 : decode prog_8_method_49_code 49 = .ok (.iload_n 3, 1) := by decide +kernel
theorem d_M_object_50 : decode prog_8_method_49_code 50 = .ok (.iaload, 1) := by decide +kernel
theorem d_M_object_51 : decode prog_8_method_49_code 51 = .ok (.goto 37, 3) := by decide +kernel
theorem d_M_object_54 : decode prog_8_method_49_code 54 = .ok (.iload_n 2, 1) := by decide +kernel
theorem d_M_object_55 : decode prog_8_method_49_code 55 = .ok (.iconst 1, 1) := by decide +kernel
theorem d_M_object_56 : decode prog_8_method_49_code 56 = .ok (.if_icmp .ne 12, 3) := by decide +kernel
theorem d_M_object_59 : decode prog_8_method_49_code 59 = .ok (.aload_n 0, 1) := by decide +kernel
theorem d_M_object_60 : decode prog_8_method_49_code 60 = .ok (.getfield 22, 3) := by decide +kernel
theorem d_M_object_63 : decode prog_8_method_49_code 63 = .ok (.iload_n 3, 1) := by decide +kernel
theorem d_M_object_64 : decode prog_8_method_49_code 64 = .ok (.iaload, 1) := by decide +kernel
theorem d_M_object_65 : decode prog_8_method_49_code 65 = .ok (.goto 23, 3) := by decide +kernel
theorem d_M_object_68 : decode prog_8_method_49_code 68 = .ok (.iload_n 2, 1) := by decide +kernel
theorem d_M_object_69 : decode prog_8_method_49_code 69 = .ok (.iconst 2, 1) := by decide +kernel
theorem d_M_object_70 : decode prog_8_method_49_code 70 = .ok (.if_icmp .ne 12, 3) := by decide +kernel
theorem d_M_object_73 : decode prog_8_method_49_code 73 = .ok (.aload_n 0, 1) := by decide +kernel
theorem d_M_object_74 : decode prog_8_method_49_code 74 = .ok (.getfield 25, 3) := by decide +kernel
theorem d_M_object_77 : decode prog_8_method_49_code 77 = .ok (.iload_n 3, 1) := by decide +kernel
theorem d_M_object_78 : decode prog_8_method_49_code 78 = .ok (.iaload, 1) := by decide +kernel
theorem d_M_object_79 : decode prog_8_method_49_code 79 = .ok (.goto 9, 3) := by decide +kernel
theorem d_M_object_82 : decode prog_8_method_49_code 82 = .ok (.aload_n 0, 1) := by decide +kernel
theorem d_M_object_83 : decode prog_8_method_49_code 83 = .ok (.getfield 28, 3) := by decide +kernel
theorem d_M_object_86 : decode prog_8_method_49_code 86 = .ok (.iload_n 3, 1) := by decide +kernel
theorem d_M_object_87 : decode prog_8_method_49_code 87 = .ok (.iaload, 1) := by decide +kernel
theorem d_M_object_88 : decode prog_8_method_49_code 88 = .ok (.ireturn, 1) := by decide +kernel
theorem d_M_line_0 : decode prog_8_method_50_code 0 = .ok (.aload_n 0, 1) := by decide +kernel
theorem d_M_line_1 : decode prog_8_method_50_code 1 = .ok (.iload_n 1, 1) := by decide +kernel
theorem d_M_line_2 : decode prog_8_method_50_code 2 = .ok (.ifCond .lt 13, 3) := by decide +kernel
theorem d_M_line_5 : decode prog_8_method_50_code 5 = .ok (.iload_n 1, 1) := by decide +kernel
theorem d_M_line_6 : decode prog_8_method_50_code 6 = .ok (.bipush 32, 2) := by decide +kernel
theorem d_M_line_8 : decode prog_8_method_50_code 8 = .ok (.if_icmp .ge 7, 3) := by decide +kernel
theorem d_M_line_11 : decode prog_8_method_50_code 11 = .ok (.iconst 0, 1) := by decide +kernel
theorem d_M_line_12 : decode prog_8_method_50_code 12 = .ok (.goto 4, 3) := by decide +kernel
theorem d_M_line_15 : decode prog_8_method_50_code 15 = .ok (.iconst 1, 1) := by decide +kernel
theorem d_M_line_16 : decode prog_8_method_50_code 16 = .ok (.putfield 69, 3) := by decide +kernel
theorem d_M_line_19 : decode prog_8_method_50_code 19 = .ok (.aload_n 0, 1) := by decide +kernel
theorem d_M_line_20 : decode prog_8_method_50_code 20 = .ok (.getfield 69, 3) := by decide +kernel
theorem d_M_line_23 : decode prog_8_method_50_code 23 = .ok (.ifCond .le 7, 3) := by decide +kernel
theorem d_M_line_26 : decode prog_8_method_50_code 26 = .ok (.iconst 0, 1) := by decide +kernel
theorem d_M_line_27 : decode prog_8_method_50_code 27 = .ok (.goto 28, 3) := by decide +kernel
theorem d_M_line_30 : decode prog_8_method_50_code 30 = .ok (.aload_n 0, 1) := by decide +kernel
theorem d_M_line_31 : decode prog_8_method_50_code 31 = .ok (.iload_n 1, 1) := by decide +kernel
theorem d_M_line_32 : decode prog_8_method_50_code 32 = .ok (.invokevirtual 75, 3) := by decide +kernel
theorem d_M_line_35 : decode prog_8_method_50_code 35 = .ok (.ifCond .eq 7, 3) := by decide +kernel
theorem d_M_line_38 : decode prog_8_method_50_code 38 = .ok (.iconst 1, 1) := by decide +kernel
theorem d_M_line_39 : decode prog_8_method_50_code 39 = .ok (.goto 16, 3) := by decide +kernel
theorem d_M_line_42 : decode prog_8_method_50_code 42 = .ok (.aload_n 0, 1) := by decide +kernel
theorem d_M_line_43 : decode prog_8_method_50_code 43 = .ok (.iload_n 1, 1) := by decide +kernel
theorem d_M_line_44 : decode prog_8_method_50_code 44 = .ok (.invokevirtual 79, 3) := by decide +kernel
theorem d_M_line_47 : decode prog_8_method_50_code 47 = .ok (.ifCond .eq 7, 3) := by decide +kernel
theorem d_M_line_50 : decode prog_8_method_50_code 50 = .ok (.iconst 2, 1) := by decide +kernel
theorem d_M_line_51 : decode prog_8_method_50_code 51 = .ok (.goto 4, 3) := by decide +kernel
theorem d_M_line_54 : decode prog_8_method_50_code 54 = .ok (.iconst 0, 1) := by decide +kernel
theorem d_M_line_55 : decode prog_8_method_50_code 55 = .ok (.ireturn, 1) := by decide +kernel
theorem d_M_objects_0 : decode prog_8_method_51_code 0 = .ok (.iconst 0, 1) := by decide +kernel
theorem d_M_objects_1 : decode prog_8_method_51_code 1 = .ok (.istore_n 2, 1) := by decide +kernel
theorem d_M_objects_2 : decode prog_8_method_51_code 2 = .ok (.iconst 0, 1) := by decide +kernel
theorem d_M_objects_3 : decode prog_8_method_51_code 3 = .ok (.istore_n 3, 1) := by decide +kernel
theorem d_M_objects_4 : decode prog_8_method_51_code 4 = .ok (.iload_n 3, 1) := by decide +kernel
theorem d_M_objects_5 : decode prog_8_method_51_code 5 = .ok (.sipush 256, 3) := by decide +kernel
theorem d_M_objects_8 : decode prog_8_method_51_code 8 = .ok (.if_icmp .ge 37, 3) := by decide +kernel
theorem d_M_objects_11 : decode prog_8_method_51_code 11 = .ok (.aload_n 0, 1) := by decide +kernel
theorem d_M_objects_12 : decode prog_8_method_51_code 12 = .ok (.getfield 13, 3) := by decide +kernel
theorem d_M_objects_15 : decode prog_8_method_51_code 15 = .ok (.iload_n 3, 1) := by decide +kernel
theorem d_M_objects_16 : decode prog_8_method_51_code 16 = .ok (.iaload, 1) := by decide +kernel
theorem d_M_objects_17 : decode prog_8_method_51_code 17 = .ok (.iconst 1, 1) := by decide +kernel
theorem d_M_objects_18 : decode prog_8_method_51_code 18 = .ok (.if_icmp .eq 13, 3) := by decide +kernel
theorem d_M_objects_21 : decode prog_8_method_51_code 21 = .ok (.aload_n 0, 1) := by decide +kernel
theorem d_M_objects_22 : decode prog_8_method_51_code 22 = .ok (.getfield 13, 3) := by decide +kernel
theorem d_M_objects_25 : decode prog_8_method_51_code 25 = .ok (.iload_n 3, 1) := by decide +kernel
theorem d_M_objects_26 : decode prog_8_method_51_code 26 = .ok (.iaload, 1) := by decide +kernel
theorem d_M_objects_27 : decode prog_8_method_51_code 27 = .ok (.iload_n 1, 1) := by decide +kernel
theorem d_M_objects_28 : decode prog_8_method_51_code 28 = .ok (.if_icmp .le 9, 3) := by decide +kernel
theorem d_M_objects_31 : decode prog_8_method_51_code 31 = .ok (.iload_n 2, 1) := by decide +kernel
theorem d_M_objects_32 : decode prog_8_method_51_code 32 = .ok (.iconst 1, 1) := by decide +kernel
theorem d_M_objects_33 : decode prog_8_method_51_code 33 = .ok (.iadd, 1) := by decide +kernel
theorem d_M_objects_34 : decode prog_8_method_51_code 34 = .ok (.goto 4, 3) := by decide +kernel
theorem d_M_objects_37 : decode prog_8_method_51_code 37 = .ok (.iload_n 2, 1) := by decide +kernel
theorem d_M_objects_38 : decode prog_8_method_51_code 38 = .ok (.istore_n 2, 1) := by decide +kernel
theorem d_M_objects_39 : decode prog_8_method_51_code 39 = .ok (.iinc 3 1, 3) := by decide +kernel
theorem d_M_objects_42 : decode prog_8_method_51_code 42 = .ok (.goto (-38), 3) := by decide +kernel
theorem d_M_objects_45 : decode prog_8_method_51_code 45 = .ok (.iload_n 2, 1) := by decide +kernel
theorem d_M_objects_46 : decode prog_8_method_51_code 46 = .ok (.ireturn, 1) := by decide +kernel
theorem d_M_figure_0 : decode prog_8_method_52_code 0 = .ok (.aload_n 0, 1) := by decide +kernel
theorem d_M_figure_1 : decode prog_8_method_52_code 1 = .ok (.iload_n 1, 1) := by decide +kernel
theorem d_M_figure_2 : decode prog_8_method_52_code 2 = .ok (.ifCond .lt 13, 3) := by decide +kernel
theorem d_M_figure_5 : decode prog_8_method_52_code 5 = .ok (.iload_n 1, 1) := by decide +kernel
theorem d_M_figure_6 : decode prog_8_method_52_code 6 = .ok (.bipush 8, 2) := by decide +kernel
theorem d_M_figure_8 : decode prog_8_method_52_code 8 = .ok (.if_icmp .gt 7, 3) := by decide +kernel
theorem d_M_figure_11 : decode prog_8_method_52_code 11 = .ok (.iconst 0, 1) := by decide +kernel
theorem d_M_figure_12 : decode prog_8_method_52_code 12 = .ok (.goto 4, 3) := by decide +kernel
theorem d_M_figure_15 : decode prog_8_method_52_code 15 = .ok (.iconst 1, 1) := by decide +kernel
theorem d_M_figure_16 : decode prog_8_method_52_code 16 = .ok (.putfield 69, 3) := by decide +kernel
theorem d_M_figure_19 : decode prog_8_method_52_code 19 = .ok (.iload_n 1, 1) := by decide +kernel
theorem d_M_figure_20 : decode prog_8_method_52_code 20 = .ok (.tableswitch 107 0 8 #[52, 58, 64, 69, 74, 79, 92, 97, 102], 52) := by decide +kernel
theorem d_M_figure_72 : decode prog_8_method_52_code 72 = .ok (.aload_n 0, 1) := by decide +kernel
theorem d_M_figure_73 : decode prog_8_method_52_code 73 = .ok (.iconst 1, 1) := by decide +kernel
theorem d_M_figure_74 : decode prog_8_method_52_code 74 = .ok (.invokevirtual 223, 3) := by decide +kernel
theorem d_M_figure_77 : decode prog_8_method_52_code 77 = .ok (.ireturn, 1) := by decide +kernel
theorem d_M_figure_78 : decode prog_8_method_52_code 78 = .ok (.aload_n 0, 1) := by decide +kernel
theorem d_M_figure_79 : decode prog_8_method_52_code 79 = .ok (.iconst 2, 1) := by decide +kernel
theorem d_M_figure_80 : decode prog_8_method_52_code 80 = .ok (.invokevirtual 223, 3) := by decide +kernel
theorem d_M_figure_83 : decode prog_8_method_52_code 83 = .ok (.ireturn, 1) := by decide +kernel
theorem d_M_figure_84 : decode prog_8_method_52_code 84 = .ok (.aload_n 0, 1) := by decide +kernel
theorem d_M_figure_85 : decode prog_8_method_52_code 85 = .ok (.getfield 118, 3) := by decide +kernel
theorem d_M_figure_88 : decode prog_8_method_52_code 88 = .ok (.ireturn, 1) := by decide +kernel
theorem d_M_figure_89 : decode prog_8_method_52_code 89 = .ok (.aload_n 0, 1) := by decide +kernel
theorem d_M_figure_90 : decode prog_8_method_52_code 90 = .ok (.getfield 153, 3) := by decide +kernel
theorem d_M_figure_93 : decode prog_8_method_52_code 93 = .ok (.ireturn, 1) := by decide +kernel
theorem d_M_figure_94 : decode prog_8_method_52_code 94 = .ok (.aload_n 0, 1) := by decide +kernel
theorem d_M_figure_95 : decode prog_8_method_52_code 95 = .ok (.getfield 196, 3) := by decide +kernel
theorem d_M_figure_98 : decode prog_8_method_52_code 98 = .ok (.ireturn, 1) := by decide +kernel
theorem d_M_figure_99 : decode prog_8_method_52_code 99 = .ok (.aload_n 0, 1) := by decide +kernel
theorem d_M_figure_100 : decode prog_8_method_52_code 100 = .ok (.getfield 143, 3) := by decide +kernel
theorem d_M_figure_103 : decode prog_8_method_52_code 103 = .ok (.ifCond .eq 7, 3) := by decide +kernel
theorem d_M_figure_106 : decode prog_8_method_52_code 106 = .ok (.iconst 1, 1) := by decide +kernel
theorem d_M_figure_107 : decode prog_8_method_52_code 107 = .ok (.goto 4, 3) := by decide +kernel
theorem d_M_figure_110 : decode prog_8_method_52_code 110 = .ok (.iconst 0, 1) := by decide +kernel
theorem d_M_figure_111 : decode prog_8_method_52_code 111 = .ok (.ireturn, 1) := by decide +kernel
theorem d_M_figure_112 : decode prog_8_method_52_code 112 = .ok (.aload_n 0, 1) := by decide +kernel
theorem d_M_figure_113 : decode prog_8_method_52_code 113 = .ok (.getfield 112, 3) := by decide +kernel
theorem d_M_figure_116 : decode prog_8_method_52_code 116 = .ok (.ireturn, 1) := by decide +kernel
theorem d_M_figure_117 : decode prog_8_method_52_code 117 = .ok (.aload_n 0, 1) := by decide +kernel
theorem d_M_figure_118 : decode prog_8_method_52_code 118 = .ok (.getfield 159, 3) := by decide +kernel
theorem d_M_figure_121 : decode prog_8_method_52_code 121 = .ok (.ireturn, 1) := by decide +kernel
theorem d_M_figure_122 : decode prog_8_method_52_code 122 = .ok (.aload_n 0, 1) := by decide +kernel
theorem d_M_figure_123 : decode prog_8_method_52_code 123 = .ok (.invokevirtual 184, 3) := by decide +kernel
theorem d_M_figure_126 : decode prog_8_method_52_code 126 = .ok (.ireturn, 1) := by decide +kernel
theorem d_M_figure_127 : decode prog_8_method_52_code 127 = .ok (.iconst 0, 1) := by decide +kernel
theorem d_M_figure_128 : decode prog_8_method_52_code 128 = .ok (.ireturn, 1) := by decide +kernel
theorem d_L_allocate_0 : decode method_3_code 0 = .ok (.aload 4, 2) := by decide +kernel
theorem d_L_allocate_2 : decode method_3_code 2 = .ok (.iconst 0, 1) := by decide +kernel
theorem d_L_allocate_3 : decode method_3_code 3 = .ok (.aload_n 0, 1) := by decide +kernel
theorem d_L_allocate_4 : decode method_3_code 4 = .ok (.iload_n 1, 1) := by decide +kernel
theorem d_L_allocate_5 : decode method_3_code 5 = .ok (.iload_n 2, 1) := by decide +kernel
theorem d_L_allocate_6 : decode method_3_code 6 = .ok (.iload_n 3, 1) := by decide +kernel
theorem d_L_allocate_7 : decode method_3_code 7 = .ok (.invokevirtual 7, 3) := by decide +kernel
theorem d_L_allocate_10 : decode method_3_code 10 = .ok (.i2l, 1) := by decide +kernel
theorem d_L_allocate_11 : decode method_3_code 11 = .ok (.lastore, 1) := by decide +kernel
theorem d_L_allocate_12 : decode method_3_code 12 = .ok (.goto 11, 3) := by decide +kernel
theorem d_L_allocate_15 : decode method_3_code 15 = .ok (.astore 5, 2) := by decide +kernel
theorem d_L_allocate_17 : decode method_3_code 17 = .ok (.iconst 1, 1) := by decide +kernel
theorem d_L_allocate_18 : decode method_3_code 18 = .ok (.ireturn, 1) := by decide +kernel
theorem d_L_allocate_19 : decode method_3_code 19 = .ok (.astore 5, 2) := by decide +kernel
theorem d_L_allocate_21 : decode method_3_code 21 = .ok (.iconst 2, 1) := by decide +kernel
theorem d_L_allocate_22 : decode method_3_code 22 = .ok (.ireturn, 1) := by decide +kernel
theorem d_L_allocate_23 : decode method_3_code 23 = .ok (.iconst 0, 1) := by decide +kernel
theorem d_L_allocate_24 : decode method_3_code 24 = .ok (.ireturn, 1) := by decide +kernel
theorem d_L_drop_0 : decode method_4_code 0 = .ok (.aload_n 0, 1) := by decide +kernel
theorem d_L_drop_1 : decode method_4_code 1 = .ok (.iload_n 1, 1) := by decide +kernel
theorem d_L_drop_2 : decode method_4_code 2 = .ok (.invokevirtual 17, 3) := by decide +kernel
theorem d_L_drop_5 : decode method_4_code 5 = .ok (.goto 6, 3) := by decide +kernel
theorem d_L_drop_8 : decode method_4_code 8 = .ok (.astore_n 2, 1) := by decide +kernel
theorem d_L_drop_9 : decode method_4_code 9 = .ok (.iconst 1, 1) := by decide +kernel
theorem d_L_drop_10 : decode method_4_code 10 = .ok (.ireturn, 1) := by decide +kernel
theorem d_L_drop_11 : decode method_4_code 11 = .ok (.iconst 0, 1) := by decide +kernel
theorem d_L_drop_12 : decode method_4_code 12 = .ok (.ireturn, 1) := by decide +kernel
theorem d_L_copy_0 : decode method_5_code 0 = .ok (.aload_n 0, 1) := by decide +kernel
theorem d_L_copy_1 : decode method_5_code 1 = .ok (.iload_n 1, 1) := by decide +kernel
theorem d_L_copy_2 : decode method_5_code 2 = .ok (.iload_n 2, 1) := by decide +kernel
theorem d_L_copy_3 : decode method_5_code 3 = .ok (.invokevirtual 21, 3) := by decide +kernel
theorem d_L_copy_6 : decode method_5_code 6 = .ok (.goto 6, 3) := by decide +kernel
theorem d_L_copy_9 : decode method_5_code 9 = .ok (.astore_n 3, 1) := by decide +kernel
theorem d_L_copy_10 : decode method_5_code 10 = .ok (.iconst 1, 1) := by decide +kernel
theorem d_L_copy_11 : decode method_5_code 11 = .ok (.ireturn, 1) := by decide +kernel
theorem d_L_copy_12 : decode method_5_code 12 = .ok (.iconst 0, 1) := by decide +kernel
theorem d_L_copy_13 : decode method_5_code 13 = .ok (.ireturn, 1) := by decide +kernel
theorem d_L_load_0 : decode method_6_code 0 = .ok (.aload 4, 2) := by decide +kernel
theorem d_L_load_2 : decode method_6_code 2 = .ok (.iconst 0, 1) := by decide +kernel
theorem d_L_load_3 : decode method_6_code 3 = .ok (.aload_n 0, 1) := by decide +kernel
theorem d_L_load_4 : decode method_6_code 4 = .ok (.iload_n 1, 1) := by decide +kernel
theorem d_L_load_5 : decode method_6_code 5 = .ok (.iload_n 2, 1) := by decide +kernel
theorem d_L_load_6 : decode method_6_code 6 = .ok (.iload_n 3, 1) := by decide +kernel
theorem d_L_load_7 : decode method_6_code 7 = .ok (.invokevirtual 25, 3) := by decide +kernel
theorem d_L_load_10 : decode method_6_code 10 = .ok (.i2l, 1) := by decide +kernel
theorem d_L_load_11 : decode method_6_code 11 = .ok (.lastore, 1) := by decide +kernel
theorem d_L_load_12 : decode method_6_code 12 = .ok (.goto 15, 3) := by decide +kernel
theorem d_L_load_15 : decode method_6_code 15 = .ok (.astore 5, 2) := by decide +kernel
theorem d_L_load_17 : decode method_6_code 17 = .ok (.iconst 1, 1) := by decide +kernel
theorem d_L_load_18 : decode method_6_code 18 = .ok (.ireturn, 1) := by decide +kernel
theorem d_L_load_19 : decode method_6_code 19 = .ok (.astore 5, 2) := by decide +kernel
theorem d_L_load_21 : decode method_6_code 21 = .ok (.iconst 2, 1) := by decide +kernel
theorem d_L_load_22 : decode method_6_code 22 = .ok (.ireturn, 1) := by decide +kernel
theorem d_L_load_23 : decode method_6_code 23 = .ok (.astore 5, 2) := by decide +kernel
theorem d_L_load_25 : decode method_6_code 25 = .ok (.iconst 3, 1) := by decide +kernel
theorem d_L_load_26 : decode method_6_code 26 = .ok (.ireturn, 1) := by decide +kernel
theorem d_L_load_27 : decode method_6_code 27 = .ok (.iconst 0, 1) := by decide +kernel
theorem d_L_load_28 : decode method_6_code 28 = .ok (.ireturn, 1) := by decide +kernel
theorem d_L_store_0 : decode method_7_code 0 = .ok (.aload_n 0, 1) := by decide +kernel
theorem d_L_store_1 : decode method_7_code 1 = .ok (.iload_n 1, 1) := by decide +kernel
theorem d_L_store_2 : decode method_7_code 2 = .ok (.iload_n 2, 1) := by decide +kernel
theorem d_L_store_3 : decode method_7_code 3 = .ok (.iload_n 3, 1) := by decide +kernel
theorem d_L_store_4 : decode method_7_code 4 = .ok (.invokevirtual 32, 3) := by decide +kernel
theorem d_L_store_7 : decode method_7_code 7 = .ok (.goto 15, 3) := by decide +kernel
theorem d_L_store_10 : decode method_7_code 10 = .ok (.astore 4, 2) := by decide +kernel
theorem d_L_store_12 : decode method_7_code 12 = .ok (.iconst 1, 1) := by decide +kernel
theorem d_L_store_13 : decode method_7_code 13 = .ok (.ireturn, 1) := by decide +kernel
theorem d_L_store_14 : decode method_7_code 14 = .ok (.astore 4, 2) := by decide +kernel
theorem d_L_store_16 : decode method_7_code 16 = .ok (.iconst 2, 1) := by decide +kernel
theorem d_L_store_17 : decode method_7_code 17 = .ok (.ireturn, 1) := by decide +kernel
theorem d_L_store_18 : decode method_7_code 18 = .ok (.astore 4, 2) := by decide +kernel
theorem d_L_store_20 : decode method_7_code 20 = .ok (.iconst 3, 1) := by decide +kernel
theorem d_L_store_21 : decode method_7_code 21 = .ok (.ireturn, 1) := by decide +kernel
theorem d_L_store_22 : decode method_7_code 22 = .ok (.iconst 0, 1) := by decide +kernel
theorem d_L_store_23 : decode method_7_code 23 = .ok (.ireturn, 1) := by decide +kernel
theorem d_L_drain_0 : decode method_8_code 0 = .ok (.aload_n 2, 1) := by decide +kernel
theorem d_L_drain_1 : decode method_8_code 1 = .ok (.iconst 0, 1) := by decide +kernel
theorem d_L_drain_2 : decode method_8_code 2 = .ok (.aload_n 0, 1) := by decide +kernel
theorem d_L_drain_3 : decode method_8_code 3 = .ok (.iload_n 1, 1) := by decide +kernel
theorem d_L_drain_4 : decode method_8_code 4 = .ok (.invokevirtual 36, 3) := by decide +kernel
theorem d_L_drain_7 : decode method_8_code 7 = .ok (.i2l, 1) := by decide +kernel
theorem d_L_drain_8 : decode method_8_code 8 = .ok (.lastore, 1) := by decide +kernel
theorem d_L_drain_9 : decode method_8_code 9 = .ok (.goto 6, 3) := by decide +kernel
theorem d_L_drain_12 : decode method_8_code 12 = .ok (.astore_n 3, 1) := by decide +kernel
theorem d_L_drain_13 : decode method_8_code 13 = .ok (.iconst 1, 1) := by decide +kernel
theorem d_L_drain_14 : decode method_8_code 14 = .ok (.ireturn, 1) := by decide +kernel
theorem d_L_drain_15 : decode method_8_code 15 = .ok (.iconst 0, 1) := by decide +kernel
theorem d_L_drain_16 : decode method_8_code 16 = .ok (.ireturn, 1) := by decide +kernel
theorem d_L_trace_0 : decode method_9_code 0 = .ok (.aload_n 2, 1) := by decide +kernel
theorem d_L_trace_1 : decode method_9_code 1 = .ok (.iconst 0, 1) := by decide +kernel
theorem d_L_trace_2 : decode method_9_code 2 = .ok (.aload_n 0, 1) := by decide +kernel
theorem d_L_trace_3 : decode method_9_code 3 = .ok (.iload_n 1, 1) := by decide +kernel
theorem d_L_trace_4 : decode method_9_code 4 = .ok (.invokevirtual 40, 3) := by decide +kernel
theorem d_L_trace_7 : decode method_9_code 7 = .ok (.i2l, 1) := by decide +kernel
theorem d_L_trace_8 : decode method_9_code 8 = .ok (.lastore, 1) := by decide +kernel
theorem d_L_trace_9 : decode method_9_code 9 = .ok (.goto 9, 3) := by decide +kernel
theorem d_L_trace_12 : decode method_9_code 12 = .ok (.astore_n 3, 1) := by decide +kernel
theorem d_L_trace_13 : decode method_9_code 13 = .ok (.iconst 1, 1) := by decide +kernel
theorem d_L_trace_14 : decode method_9_code 14 = .ok (.ireturn, 1) := by decide +kernel
theorem d_L_trace_15 : decode method_9_code 15 = .ok (.astore_n 3, 1) := by decide +kernel
theorem d_L_trace_16 : decode method_9_code 16 = .ok (.iconst 2, 1) := by decide +kernel
theorem d_L_trace_17 : decode method_9_code 17 = .ok (.ireturn, 1) := by decide +kernel
theorem d_L_trace_18 : decode method_9_code 18 = .ok (.iconst 0, 1) := by decide +kernel
theorem d_L_trace_19 : decode method_9_code 19 = .ok (.ireturn, 1) := by decide +kernel
theorem d_L_root_0 : decode method_10_code 0 = .ok (.aload_n 2, 1) := by decide +kernel
theorem d_L_root_1 : decode method_10_code 1 = .ok (.iconst 0, 1) := by decide +kernel
theorem d_L_root_2 : decode method_10_code 2 = .ok (.aload_n 0, 1) := by decide +kernel
theorem d_L_root_3 : decode method_10_code 3 = .ok (.iload_n 1, 1) := by decide +kernel
theorem d_L_root_4 : decode method_10_code 4 = .ok (.invokevirtual 43, 3) := by decide +kernel
theorem d_L_root_7 : decode method_10_code 7 = .ok (.i2l, 1) := by decide +kernel
theorem d_L_root_8 : decode method_10_code 8 = .ok (.lastore, 1) := by decide +kernel
theorem d_L_root_9 : decode method_10_code 9 = .ok (.goto 6, 3) := by decide +kernel
theorem d_L_root_12 : decode method_10_code 12 = .ok (.astore_n 3, 1) := by decide +kernel
theorem d_L_root_13 : decode method_10_code 13 = .ok (.iconst 1, 1) := by decide +kernel
theorem d_L_root_14 : decode method_10_code 14 = .ok (.ireturn, 1) := by decide +kernel
theorem d_L_root_15 : decode method_10_code 15 = .ok (.iconst 0, 1) := by decide +kernel
theorem d_L_root_16 : decode method_10_code 16 = .ok (.ireturn, 1) := by decide +kernel
theorem d_L_field_0 : decode method_11_code 0 = .ok (.aload_n 3, 1) := by decide +kernel
theorem d_L_field_1 : decode method_11_code 1 = .ok (.iconst 0, 1) := by decide +kernel
theorem d_L_field_2 : decode method_11_code 2 = .ok (.aload_n 0, 1) := by decide +kernel
theorem d_L_field_3 : decode method_11_code 3 = .ok (.iload_n 1, 1) := by decide +kernel
theorem d_L_field_4 : decode method_11_code 4 = .ok (.iload_n 2, 1) := by decide +kernel
theorem d_L_field_5 : decode method_11_code 5 = .ok (.invokevirtual 46, 3) := by decide +kernel
theorem d_L_field_8 : decode method_11_code 8 = .ok (.i2l, 1) := by decide +kernel
theorem d_L_field_9 : decode method_11_code 9 = .ok (.lastore, 1) := by decide +kernel
theorem d_L_field_10 : decode method_11_code 10 = .ok (.goto 11, 3) := by decide +kernel
theorem d_L_field_13 : decode method_11_code 13 = .ok (.astore 4, 2) := by decide +kernel
theorem d_L_field_15 : decode method_11_code 15 = .ok (.iconst 1, 1) := by decide +kernel
theorem d_L_field_16 : decode method_11_code 16 = .ok (.ireturn, 1) := by decide +kernel
theorem d_L_field_17 : decode method_11_code 17 = .ok (.astore 4, 2) := by decide +kernel
theorem d_L_field_19 : decode method_11_code 19 = .ok (.iconst 2, 1) := by decide +kernel
theorem d_L_field_20 : decode method_11_code 20 = .ok (.ireturn, 1) := by decide +kernel
theorem d_L_field_21 : decode method_11_code 21 = .ok (.iconst 0, 1) := by decide +kernel
theorem d_L_field_22 : decode method_11_code 22 = .ok (.ireturn, 1) := by decide +kernel
theorem d_L_object_0 : decode method_12_code 0 = .ok (.aload_n 3, 1) := by decide +kernel
theorem d_L_object_1 : decode method_12_code 1 = .ok (.iconst 0, 1) := by decide +kernel
theorem d_L_object_2 : decode method_12_code 2 = .ok (.aload_n 0, 1) := by decide +kernel
theorem d_L_object_3 : decode method_12_code 3 = .ok (.iload_n 1, 1) := by decide +kernel
theorem d_L_object_4 : decode method_12_code 4 = .ok (.iload_n 2, 1) := by decide +kernel
theorem d_L_object_5 : decode method_12_code 5 = .ok (.invokevirtual 52, 3) := by decide +kernel
theorem d_L_object_8 : decode method_12_code 8 = .ok (.i2l, 1) := by decide +kernel
theorem d_L_object_9 : decode method_12_code 9 = .ok (.lastore, 1) := by decide +kernel
theorem d_L_object_10 : decode method_12_code 10 = .ok (.goto 11, 3) := by decide +kernel
theorem d_L_object_13 : decode method_12_code 13 = .ok (.astore 4, 2) := by decide +kernel
theorem d_L_object_15 : decode method_12_code 15 = .ok (.iconst 1, 1) := by decide +kernel
theorem d_L_object_16 : decode method_12_code 16 = .ok (.ireturn, 1) := by decide +kernel
theorem d_L_object_17 : decode method_12_code 17 = .ok (.astore 4, 2) := by decide +kernel
theorem d_L_object_19 : decode method_12_code 19 = .ok (.iconst 2, 1) := by decide +kernel
theorem d_L_object_20 : decode method_12_code 20 = .ok (.ireturn, 1) := by decide +kernel
theorem d_L_object_21 : decode method_12_code 21 = .ok (.iconst 0, 1) := by decide +kernel
theorem d_L_object_22 : decode method_12_code 22 = .ok (.ireturn, 1) := by decide +kernel
theorem d_L_line_0 : decode method_13_code 0 = .ok (.aload_n 2, 1) := by decide +kernel
theorem d_L_line_1 : decode method_13_code 1 = .ok (.iconst 0, 1) := by decide +kernel
theorem d_L_line_2 : decode method_13_code 2 = .ok (.aload_n 0, 1) := by decide +kernel
theorem d_L_line_3 : decode method_13_code 3 = .ok (.iload_n 1, 1) := by decide +kernel
theorem d_L_line_4 : decode method_13_code 4 = .ok (.invokevirtual 55, 3) := by decide +kernel
theorem d_L_line_7 : decode method_13_code 7 = .ok (.i2l, 1) := by decide +kernel
theorem d_L_line_8 : decode method_13_code 8 = .ok (.lastore, 1) := by decide +kernel
theorem d_L_line_9 : decode method_13_code 9 = .ok (.goto 6, 3) := by decide +kernel
theorem d_L_line_12 : decode method_13_code 12 = .ok (.astore_n 3, 1) := by decide +kernel
theorem d_L_line_13 : decode method_13_code 13 = .ok (.iconst 1, 1) := by decide +kernel
theorem d_L_line_14 : decode method_13_code 14 = .ok (.ireturn, 1) := by decide +kernel
theorem d_L_line_15 : decode method_13_code 15 = .ok (.iconst 0, 1) := by decide +kernel
theorem d_L_line_16 : decode method_13_code 16 = .ok (.ireturn, 1) := by decide +kernel
theorem d_L_figure_0 : decode method_14_code 0 = .ok (.aload_n 2, 1) := by decide +kernel
theorem d_L_figure_1 : decode method_14_code 1 = .ok (.iconst 0, 1) := by decide +kernel
theorem d_L_figure_2 : decode method_14_code 2 = .ok (.aload_n 0, 1) := by decide +kernel
theorem d_L_figure_3 : decode method_14_code 3 = .ok (.iload_n 1, 1) := by decide +kernel
theorem d_L_figure_4 : decode method_14_code 4 = .ok (.invokevirtual 58, 3) := by decide +kernel
theorem d_L_figure_7 : decode method_14_code 7 = .ok (.i2l, 1) := by decide +kernel
theorem d_L_figure_8 : decode method_14_code 8 = .ok (.lastore, 1) := by decide +kernel
theorem d_L_figure_9 : decode method_14_code 9 = .ok (.goto 6, 3) := by decide +kernel
theorem d_L_figure_12 : decode method_14_code 12 = .ok (.astore_n 3, 1) := by decide +kernel
theorem d_L_figure_13 : decode method_14_code 13 = .ok (.iconst 1, 1) := by decide +kernel
theorem d_L_figure_14 : decode method_14_code 14 = .ok (.ireturn, 1) := by decide +kernel
theorem d_L_figure_15 : decode method_14_code 15 = .ok (.iconst 0, 1) := by decide +kernel
theorem d_L_figure_16 : decode method_14_code 16 = .ok (.ireturn, 1) := by decide +kernel
end
section
/-! What each method needs of the memory, and what it does to it: weakest preconditions (written by a program) -/
def wC_isRoot (a1 : Int32) (post : Int32 → Mem → Prop) (μ : Mem) : Prop :=
  ((a1 < 0 → post 0 μ) ∧
  (¬ a1 < 0 → ((6 ≤ a1 → post 0 μ) ∧
  (¬ 6 ≤ a1 → post 1 μ))))
def wS_has (x : Nat) (a1 : Int32) (post : Int32 → Mem → Prop) (μ : Mem) : Prop :=
  okO μ x 2 ∧ ((((mI μ x 2) - (mI μ x 1)) < a1 → post 0 μ) ∧
  (¬ ((mI μ x 2) - (mI μ x 1)) < a1 → post 1 μ))
def wS_take (x : Nat) (a1 : Int32) (post : Int32 → Mem → Prop) (μ : Mem) : Prop :=
  okO μ x 2 ∧ ∀ μ2, μ2 = sI μ x 1 ((mI μ x 1) + a1) →
  post (mI μ x 1) μ2
def wS_covers (x : Nat) (a1 : Int32) (post : Int32 → Mem → Prop) (μ : Mem) : Prop :=
  okO μ x 2 ∧ (((a1 * 4) < (mI μ x 0) → post 0 μ) ∧
  (¬ (a1 * 4) < (mI μ x 0) → (((mI μ x 2) ≤ (a1 * 4) → post 0 μ) ∧
  (¬ (mI μ x 2) ≤ (a1 * 4) → post 1 μ))))
def wP_isFree (a1 : Int32) (post : Int32 → Mem → Prop) (μ : Mem) : Prop :=
  vp_in a1 32 ∧ (((mI μ 5 (a1).toNatClampNeg) = 0 → (((mI μ 6 (a1).toNatClampNeg) = 0 → (((a1 / 8) = (mI μ 4 4) → post 0 μ) ∧
  (¬ (a1 / 8) = (mI μ 4 4) → wS_covers 7 a1 (fun r3 μ2 => ((r3 = 0 → wS_covers 8 a1 (fun r5 μ4 => ((r5 = 0 → post 1 μ4) ∧
  (¬ r5 = 0 → post 0 μ4))) μ2) ∧
  (¬ r3 = 0 → post 0 μ2))) μ))) ∧
  (¬ (mI μ 6 (a1).toNatClampNeg) = 0 → post 0 μ))) ∧
  (¬ (mI μ 5 (a1).toNatClampNeg) = 0 → post 0 μ))
def wS_open (x : Nat) (a1 : Int32) (a2 : Int32) (post : Mem → Prop) (μ : Mem) : Prop :=
  okO μ x 2 ∧ ∀ μ2, μ2 = sI μ x 0 (a1 * 4) →
  ∀ μ3, μ3 = sI μ2 x 1 (mI μ2 x 0) →
  ∀ μ4, μ4 = sI μ3 x 2 (a2 * 4) →
  post μ4
def wP_openOverflow_14 (l1 : Int32) (k : Int32 → Int32 → Mem → Prop) : Nat → Int32 → Int32 → Mem → Prop
  | 0, _, _, _ => False
  | n + 1, l2, l3, μ =>
  ((((l1 + 1) * 8) ≤ l3 → k l2 l3 μ) ∧
  (¬ ((l1 + 1) * 8) ≤ l3 → wP_isFree l3 (fun r2 μ1 => ((r2 = 0 → wP_openOverflow_14 l1 k n l2 (l3 + 1) μ1) ∧
  (¬ r2 = 0 → wP_openOverflow_14 l1 k n (l2 + 1) (l3 + 1) μ1))) μ))
def wP_openOverflow_2 (k : Int32 → Mem → Prop) (post : Int32 → Mem → Prop) : Nat → Int32 → Mem → Prop
  | 0, _, _ => False
  | n + 1, l1, μ =>
  ((4 ≤ l1 → k l1 μ) ∧
  (¬ 4 ≤ l1 → ∃ n7, wP_openOverflow_14 l1 (fun v4 v5 μ3 => ((v4 = 8 → wS_open 8 (l1 * 8) ((l1 + 1) * 8) (fun μ6 => post 1 μ6) μ3) ∧
  (¬ v4 = 8 → wP_openOverflow_2 k post n (l1 + 1) μ3))) n7 0 (l1 * 8) μ))
def wP_openOverflow (post : Int32 → Mem → Prop) (μ : Mem) : Prop :=
  ∃ n10, wP_openOverflow_2 (fun v9 μ8 => post 0 μ8) post n10 0 μ
def wS_endLine (x : Nat) (post : Int32 → Mem → Prop) (μ : Mem) : Prop :=
  okO μ x 2 ∧ post ((mI μ x 2) / 4) μ
def wP_openHole_47 (l4 : Int32) (k : Int32 → Mem → Prop) : Nat → Int32 → Mem → Prop
  | 0, _, _ => False
  | n + 1, l5, μ =>
  ((l4 ≤ l5 → k l5 μ) ∧
  (¬ l4 ≤ l5 → wP_isFree l5 (fun r6 μ5 => ((r6 = 0 → k l5 μ5) ∧
  (¬ r6 = 0 → wP_openHole_47 l4 k n (l5 + 1) μ5))) μ))
def wP_openHole_10 (l1 : Int32) (k : Int32 → Mem → Prop) (post : Int32 → Mem → Prop) : Nat → Int32 → Mem → Prop
  | 0, _, _ => False
  | n + 1, l2, μ =>
  ((32 ≤ l2 → k l2 μ) ∧
  (¬ 32 ≤ l2 → wP_isFree ((l1 + l2) - (l1 + l2) / 32 * 32) (fun r4 μ3 => ((r4 = 0 → wP_openHole_10 l1 k post n (l2 + 1) μ3) ∧
  (¬ r4 = 0 → ∃ n10, wP_openHole_47 (((((l1 + l2) - (l1 + l2) / 32 * 32) / 8) + 1) * 8) (fun v8 μ7 => wS_open 7 ((l1 + l2) - (l1 + l2) / 32 * 32) v8 (fun μ9 => post 1 μ9) μ7) n10 (((l1 + l2) - (l1 + l2) / 32 * 32) + 1) μ3))) μ))
def wP_openHole (post : Int32 → Mem → Prop) (μ : Mem) : Prop :=
  wS_endLine 7 (fun r2 μ1 => ∃ n13, wP_openHole_10 r2 (fun v12 μ11 => post 0 μ11) post n13 0 μ1) μ
def wP_find (a1 : Int32) (post : Int32 → Mem → Prop) (μ : Mem) : Prop :=
  wS_has 7 a1 (fun r2 μ1 => ((r2 = 0 → ((4 < a1 → wS_has 8 a1 (fun r4 μ3 => ((r4 = 0 → wP_openOverflow (fun r8 μ7 => ((r8 = 0 → post (-1) μ7) ∧
  (¬ r8 = 0 → wS_take 8 a1 (fun r10 μ9 => post r10 μ9) μ7))) μ3) ∧
  (¬ r4 = 0 → wS_take 8 a1 (fun r6 μ5 => post r6 μ5) μ3))) μ1) ∧
  (¬ 4 < a1 → wP_openHole (fun r12 μ11 => ((r12 = 0 → post (-1) μ11) ∧
  (¬ r12 = 0 → wS_take 7 a1 (fun r14 μ13 => post r14 μ13) μ11))) μ1))) ∧
  (¬ r2 = 0 → wS_take 7 a1 (fun r16 μ15 => post r16 μ15) μ1))) μ
def wP_occupy_2 (l1 : Int32) (l2 : Int32) (k : Int32 → Mem → Prop) : Nat → Int32 → Mem → Prop
  | 0, _, _ => False
  | n + 1, l3, μ =>
  (((l1 + l2) ≤ l3 → k l3 μ) ∧
  (¬ (l1 + l2) ≤ l3 → vp_in (l3 / 4) 32 ∧ ∀ μ2, μ2 = sI μ 5 (l3 / 4).toNatClampNeg ((mI μ 5 (l3 / 4).toNatClampNeg) + 1) →
  wP_occupy_2 l1 l2 k n (l3 + 1) μ2))
def wP_occupy (a1 : Int32) (a2 : Int32) (post : Mem → Prop) (μ : Mem) : Prop :=
  ∃ n5, wP_occupy_2 a1 a2 (fun v4 μ3 => post μ3) n5 a1 μ
def wC_settle (a1 : Nat) (a2 : Int32) (post : Mem → Prop) (μ : Mem) : Prop :=
  okO μ a1 5 ∧ ∀ μ2, μ2 = sI μ a1 4 a2 →
  vp_in a2 128 ∧ ∀ μ4, μ4 = sR μ2 3 (a2).toNatClampNeg (some a1) →
  wP_occupy a2 (mI μ4 a1 0) (fun μ5 => post μ5) μ4
def wW_takeFirst (x : Nat) (post : Option Nat → Mem → Prop) (μ : Mem) : Prop :=
  okO μ x 4 ∧ (((mI μ x 2) = 0 → post none μ) ∧
  (¬ (mI μ x 2) = 0 → okO μ (x + 1) 22 ∧ vp_in (mI μ x 1) (mL μ (x + 1)) ∧ ∀ e4, e4 = mR μ (x + 1) (mI μ x 1).toNatClampNeg →
  ∀ μ5, μ5 = sI μ x 1 (((mI μ x 1) + 1) - ((mI μ x 1) + 1) / 262 * 262) →
  ∀ μ6, μ6 = sI μ5 x 2 ((mI μ5 x 2) - 1) →
  post e4 μ6))
def wP_vacate_2 (l1 : Int32) (l2 : Int32) (k : Int32 → Mem → Prop) : Nat → Int32 → Mem → Prop
  | 0, _, _ => False
  | n + 1, l3, μ =>
  (((l1 + l2) ≤ l3 → k l3 μ) ∧
  (¬ (l1 + l2) ≤ l3 → vp_in (l3 / 4) 32 ∧ ∀ μ2, μ2 = sI μ 5 (l3 / 4).toNatClampNeg ((mI μ 5 (l3 / 4).toNatClampNeg) - 1) →
  wP_vacate_2 l1 l2 k n (l3 + 1) μ2))
def wP_vacate (a1 : Int32) (a2 : Int32) (post : Mem → Prop) (μ : Mem) : Prop :=
  ∃ n5, wP_vacate_2 a1 a2 (fun v4 μ3 => post μ3) n5 a1 μ
def wC_remove (a1 : Nat) (post : Mem → Prop) (μ : Mem) : Prop :=
  okO μ a1 5 ∧ vp_in (mI μ a1 4) 128 ∧ ∀ μ3, μ3 = sR μ 3 (mI μ a1 4).toNatClampNeg none →
  wP_vacate (mI μ3 a1 4) (mI μ3 a1 0) (fun μ4 => post μ4) μ3
def wW_add (x : Nat) (a1 : Option Nat) (post : Mem → Prop) (μ : Mem) : Prop :=
  okO μ x 4 ∧ ((262 ≤ (mI μ x 2) → post μ) ∧
  (¬ 262 ≤ (mI μ x 2) → okO μ (x + 1) 22 ∧ vp_in (((mI μ x 1) + (mI μ x 2)) - ((mI μ x 1) + (mI μ x 2)) / 262 * 262) (mL μ (x + 1)) ∧ (∀ y, a1 = some y → okO μ y 5) ∧ ∀ μ4, μ4 = sR μ (x + 1) (((mI μ x 1) + (mI μ x 2)) - ((mI μ x 1) + (mI μ x 2)) / 262 * 262).toNatClampNeg a1 →
  ∀ μ6, μ6 = sI μ4 x 2 ((mI μ4 x 2) + 1) →
  post μ6))
def wI_isOld (x : Nat) (post : Int32 → Mem → Prop) (μ : Mem) : Prop :=
  okO μ x 5 ∧ (((mI μ x 5) ≤ 0 → post 0 μ) ∧
  (¬ (mI μ x 5) ≤ 0 → post 1 μ))
def wI_isWhite (x : Nat) (post : Int32 → Mem → Prop) (μ : Mem) : Prop :=
  okO μ x 5 ∧ wI_isOld x (fun r3 μ2 => ((r3 = 0 → post 0 μ2) ∧
  (¬ r3 = 0 → okO μ2 x 5 ∧ (((mI μ2 x 6) = 0 → post 1 μ2) ∧
  (¬ (mI μ2 x 6) = 0 → post 0 μ2))))) μ
def wI_turnGreyIfWhite (x : Nat) (post : Mem → Prop) (μ : Mem) : Prop :=
  okO μ x 5 ∧ wI_isWhite x (fun r3 μ2 => ((r3 = 0 → post μ2) ∧
  (¬ r3 = 0 → okO μ2 x 5 ∧ ∀ μ5, μ5 = sI μ2 x 6 1 →
  post μ5))) μ
def wC_letGo_16 (l1 : Nat) (l2 : Nat) (l3 : Int32) (k : Int32 → Mem → Prop) : Nat → Int32 → Mem → Prop
  | 0, _, _ => False
  | n + 1, l4, μ =>
  ((l3 ≤ l4 → k l4 μ) ∧
  (¬ l3 ≤ l4 → okO μ l2 22 ∧ vp_in l4 (mL μ l2) ∧ ∀ e6, e6 = mR μ l2 (l4).toNatClampNeg →
  ((e6 = none → wC_letGo_16 l1 l2 l3 k n (l4 + 1) μ) ∧
  (∀ y7, e6 = some y7 → wW_add 13 (some y7) (fun μ8 => okO μ8 l1 5 ∧ (((mI μ8 l1 6) = 1 → okO μ8 y7 5 ∧ wI_turnGreyIfWhite y7 (fun μ11 => wC_letGo_16 l1 l2 l3 k n (l4 + 1) μ11) μ8) ∧
  (¬ (mI μ8 l1 6) = 1 → wC_letGo_16 l1 l2 l3 k n (l4 + 1) μ8))) μ))))
def wC_letGo (a1 : Nat) (post : Mem → Prop) (μ : Mem) : Prop :=
  wC_remove a1 (fun μ1 => okO μ1 a1 5 ∧ okO μ1 (a1 + 1) 22 ∧ ∃ n14, wC_letGo_16 a1 (a1 + 1) (nI (mL μ1 (a1 + 1))) (fun v13 μ12 => post μ12) n14 0 μ1) μ
def wC_drainUpTo_2 (l1 : Int32) (k : Int32 → Mem → Prop) : Nat → Int32 → Mem → Prop
  | 0, _, _ => False
  | n + 1, l2, μ =>
  ((l1 ≤ l2 → k l2 μ) ∧
  (¬ l1 ≤ l2 → (((mI μ 13 2) ≤ 0 → k l2 μ) ∧
  (¬ (mI μ 13 2) ≤ 0 → wW_takeFirst 13 (fun r2 μ1 => ((r2 = none → wC_drainUpTo_2 l1 k n (l2 + 1) μ1) ∧
  (∀ y3, r2 = some y3 → okO μ1 y3 5 ∧ (((mI μ1 y3 5) = 3 → wC_drainUpTo_2 l1 k n (l2 + 1) μ1) ∧
  (¬ (mI μ1 y3 5) = 3 → ∀ μ5, μ5 = sI μ1 y3 5 ((mI μ1 y3 5) - 1) →
  (((mI μ5 y3 5) = 0 → wC_letGo y3 (fun μ6 => wC_drainUpTo_2 l1 k n (l2 + 1) μ6) μ5) ∧
  (¬ (mI μ5 y3 5) = 0 → wC_drainUpTo_2 l1 k n (l2 + 1) μ5))))))) μ))))
def wC_drainUpTo (a1 : Int32) (post : Mem → Prop) (μ : Mem) : Prop :=
  ∃ n9, wC_drainUpTo_2 a1 (fun v8 μ7 => post μ7) n9 0 μ
def wP_close (post : Mem → Prop) (μ : Mem) : Prop :=
  wS_open 7 0 0 (fun μ1 => wS_open 8 0 0 (fun μ2 => post μ2) μ1) μ
def wW_clear (x : Nat) (post : Mem → Prop) (μ : Mem) : Prop :=
  okO μ x 4 ∧ ∀ μ2, μ2 = sI μ x 1 0 →
  ∀ μ3, μ3 = sI μ2 x 2 0 →
  post μ3
def wG_heldNow (a1 : Int32) (post : Option Nat → Mem → Prop) (μ : Mem) : Prop :=
  vp_in a1 128 ∧ ∀ e2, e2 = mR μ 10 (a1).toNatClampNeg →
  ∃ y3, e2 = some y3 ∧ okO μ y3 5 ∧ okO μ (y3 + 1) 22 ∧ vp_in (mI μ 11 (a1).toNatClampNeg) (mL μ (y3 + 1)) ∧ ∀ e7, e7 = mR μ (y3 + 1) (mI μ 11 (a1).toNatClampNeg).toNatClampNeg →
  post e7 μ
def wC_gatherSlots_17 (l2 : Int32) (k : Int32 → Mem → Prop) : Nat → Int32 → Mem → Prop
  | 0, _, _ => False
  | n + 1, l3, μ =>
  ((l2 ≤ l3 → k l3 μ) ∧
  (¬ l2 ≤ l3 → vp_in l3 6 ∧ ∀ e3, e3 = mR μ 1 (l3).toNatClampNeg →
  wW_add 15 e3 (fun μ4 => wC_gatherSlots_17 l2 k n (l3 + 1) μ4) μ))
def wC_gatherSlots_44 (k : Int32 → Mem → Prop) : Nat → Int32 → Mem → Prop
  | 0, _, _ => False
  | n + 1, l1, μ =>
  (((mI μ 9 3) ≤ l1 → k l1 μ) ∧
  (¬ (mI μ 9 3) ≤ l1 → wG_heldNow l1 (fun r8 μ7 => wW_add 15 r8 (fun μ9 => wC_gatherSlots_44 k n (l1 + 1) μ9) μ7) μ))
def wC_gatherSlots (post : Mem → Prop) (μ : Mem) : Prop :=
  wW_clear 15 (fun μ1 => ∃ n13, wC_gatherSlots_17 6 (fun v6 μ5 => ∃ n12, wC_gatherSlots_44 (fun v11 μ10 => post μ10) n12 0 μ5) n13 0 μ1) μ
def wW_get (x : Nat) (a1 : Int32) (post : Option Nat → Mem → Prop) (μ : Mem) : Prop :=
  ((a1 < 0 → post none μ) ∧
  (¬ a1 < 0 → okO μ x 4 ∧ (((mI μ x 2) ≤ a1 → post none μ) ∧
  (¬ (mI μ x 2) ≤ a1 → okO μ (x + 1) 22 ∧ vp_in (((mI μ x 1) + a1) - ((mI μ x 1) + a1) / 262 * 262) (mL μ (x + 1)) ∧ ∀ e4, e4 = mR μ (x + 1) (((mI μ x 1) + a1) - ((mI μ x 1) + a1) / 262 * 262).toNatClampNeg →
  post e4 μ))))
def wI_growOld (x : Nat) (a1 : Int32) (post : Mem → Prop) (μ : Mem) : Prop :=
  okO μ x 5 ∧ ∀ μ2, μ2 = sI μ x 5 1 →
  ∀ μ3, μ3 = sI μ2 x 6 a1 →
  post μ3
def wP_moveOut_2 (l1 : Int32) (l2 : Int32) (k : Int32 → Mem → Prop) : Nat → Int32 → Mem → Prop
  | 0, _, _ => False
  | n + 1, l3, μ =>
  (((l1 + l2) ≤ l3 → k l3 μ) ∧
  (¬ (l1 + l2) ≤ l3 → vp_in (l3 / 4) 32 ∧ ∀ μ2, μ2 = sI μ 5 (l3 / 4).toNatClampNeg ((mI μ 5 (l3 / 4).toNatClampNeg) - 1) →
  ∀ μ3, μ3 = sI μ2 6 (l3 / 4).toNatClampNeg 1 →
  wP_moveOut_2 l1 l2 k n (l3 + 1) μ3))
def wP_moveOut (a1 : Int32) (a2 : Int32) (post : Mem → Prop) (μ : Mem) : Prop :=
  ∃ n6, wP_moveOut_2 a1 a2 (fun v5 μ4 => post μ4) n6 a1 μ
def wC_moveTo (a1 : Nat) (a2 : Int32) (post : Mem → Prop) (μ : Mem) : Prop :=
  ((a2 = (-1) → post μ) ∧
  (¬ a2 = (-1) → okO μ a1 5 ∧ vp_in (mI μ a1 4) 128 ∧ ∀ μ3, μ3 = sR μ 3 (mI μ a1 4).toNatClampNeg none →
  wP_moveOut (mI μ3 a1 4) (mI μ3 a1 0) (fun μ4 => wC_settle a1 a2 (fun μ5 => ∀ μ6, μ6 = sI μ5 0 9 ((mI μ5 0 9) + 1) →
  post μ6) μ4) μ3))
def wC_addFieldsToSlots_11 (l2 : Nat) (l3 : Int32) (k : Int32 → Mem → Prop) : Nat → Int32 → Mem → Prop
  | 0, _, _ => False
  | n + 1, l4, μ =>
  ((l3 ≤ l4 → k l4 μ) ∧
  (¬ l3 ≤ l4 → okO μ l2 22 ∧ vp_in l4 (mL μ l2) ∧ ∀ e5, e5 = mR μ l2 (l4).toNatClampNeg →
  wW_add 15 e5 (fun μ6 => wC_addFieldsToSlots_11 l2 l3 k n (l4 + 1) μ6) μ))
def wC_addFieldsToSlots (a1 : Nat) (post : Mem → Prop) (μ : Mem) : Prop :=
  okO μ a1 5 ∧ okO μ (a1 + 1) 22 ∧ ∃ n9, wC_addFieldsToSlots_11 (a1 + 1) (nI (mL μ (a1 + 1))) (fun v8 μ7 => post μ7) n9 0 μ
def wP_forgetMovedOut_2 (k : Int32 → Mem → Prop) : Nat → Int32 → Mem → Prop
  | 0, _, _ => False
  | n + 1, l1, μ =>
  ((32 ≤ l1 → k l1 μ) ∧
  (¬ 32 ≤ l1 → vp_in l1 32 ∧ ∀ μ2, μ2 = sI μ 6 (l1).toNatClampNeg 0 →
  wP_forgetMovedOut_2 k n (l1 + 1) μ2))
def wP_forgetMovedOut (post : Mem → Prop) (μ : Mem) : Prop :=
  ∃ n5, wP_forgetMovedOut_2 (fun v4 μ3 => post μ3) n5 0 μ
def wC_countSlots_82 (l1 : Int32) (l2 : Int32) (l3 : Nat) (t0 : Nat) (t1 : Int32) (k8 : Int32 → Int32 → Mem → Prop) (μ : Mem) : Prop :=
  okO μ t0 5 ∧ wI_growOld t0 t1 (fun μ9 => okO μ9 l3 5 ∧ wP_find (mI μ9 l3 0) (fun r12 μ11 => wC_moveTo l3 r12 (fun μ13 => wC_addFieldsToSlots l3 (fun μ14 => k8 l1 (l2 + 1) μ14) μ13) μ11) μ9) μ
def wC_countSlots_8 (k : Int32 → Int32 → Mem → Prop) : Nat → Int32 → Int32 → Mem → Prop
  | 0, _, _, _ => False
  | n + 1, l1, l2, μ =>
  ((262 ≤ l2 → k l1 l2 μ) ∧
  (¬ 262 ≤ l2 → (((mI μ 15 2) ≤ l2 → k l1 l2 μ) ∧
  (¬ (mI μ 15 2) ≤ l2 → wW_get 15 l2 (fun r3 μ2 => ((r3 = none → wC_countSlots_8 k n l1 (l2 + 1) μ2) ∧
  (∀ y4, r3 = some y4 → okO μ2 y4 5 ∧ wI_isOld y4 (fun r7 μ6 => ((r7 = 0 → (((mI μ6 0 7) = 0 → wC_countSlots_82 (l1 + 1) l2 y4 y4 0 (wC_countSlots_8 k n) μ6) ∧
  (¬ (mI μ6 0 7) = 0 → wC_countSlots_82 (l1 + 1) l2 y4 y4 2 (wC_countSlots_8 k n) μ6))) ∧
  (¬ r7 = 0 → okO μ6 y4 5 ∧ ∀ μ16, μ16 = sI μ6 y4 5 (jmin ((mI μ6 y4 5) + 1) 3) →
  wC_countSlots_8 k n l1 (l2 + 1) μ16))) μ2))) μ))))
def wC_countSlots (post : Int32 → Mem → Prop) (μ : Mem) : Prop :=
  wC_gatherSlots (fun μ1 => ∃ n21, wC_countSlots_8 (fun v18 v19 μ17 => wP_forgetMovedOut (fun μ20 => post v18 μ20) μ17) n21 0 0 μ1) μ
def wC_loseYoung_10 (l2 : Int32) (k : Int32 → Mem → Prop) : Nat → Int32 → Mem → Prop
  | 0, _, _ => False
  | n + 1, l3, μ =>
  ((l2 ≤ l3 → k l3 μ) ∧
  (¬ l2 ≤ l3 → vp_in l3 128 ∧ ∀ e2, e2 = mR μ 3 (l3).toNatClampNeg →
  ((e2 = none → wC_loseYoung_10 l2 k n (l3 + 1) μ) ∧
  (∀ y3, e2 = some y3 → okO μ y3 5 ∧ wI_isOld y3 (fun r6 μ5 => ((r6 = 0 → wC_remove y3 (fun μ7 => wC_loseYoung_10 l2 k n (l3 + 1) μ7) μ5) ∧
  (¬ r6 = 0 → wC_loseYoung_10 l2 k n (l3 + 1) μ5))) μ))))
def wC_loseYoung (post : Mem → Prop) (μ : Mem) : Prop :=
  ∃ n10, wC_loseYoung_10 128 (fun v9 μ8 => post μ8) n10 0 μ
def wG_heldBefore (a1 : Int32) (post : Option Nat → Mem → Prop) (μ : Mem) : Prop :=
  vp_in a1 128 ∧ ∀ e2, e2 = mR μ 12 (a1).toNatClampNeg →
  post e2 μ
def wG_clear_2 (k : Int32 → Mem → Prop) : Nat → Int32 → Mem → Prop
  | 0, _, _ => False
  | n + 1, l1, μ =>
  (((mI μ 9 3) ≤ l1 → k l1 μ) ∧
  (¬ (mI μ 9 3) ≤ l1 → vp_in l1 128 ∧ ∀ e2, e2 = mR μ 10 (l1).toNatClampNeg →
  ∃ y3, e2 = some y3 ∧ okO μ y3 5 ∧ okO μ (y3 + 2) 21 ∧ vp_in (mI μ 11 (l1).toNatClampNeg) (mL μ (y3 + 2)) ∧ ∀ μ7, μ7 = sI μ (y3 + 2) (mI μ 11 (l1).toNatClampNeg).toNatClampNeg 0 →
  wG_clear_2 k n (l1 + 1) μ7))
def wG_clear (post : Mem → Prop) (μ : Mem) : Prop :=
  ∃ n11, wG_clear_2 (fun v9 μ8 => ∀ μ10, μ10 = sI μ8 9 3 0 →
  post μ10) n11 0 μ
def wC_queueRootsAndLog_10 (l2 : Int32) (k : Int32 → Mem → Prop) : Nat → Int32 → Mem → Prop
  | 0, _, _ => False
  | n + 1, l3, μ =>
  ((l2 ≤ l3 → k l3 μ) ∧
  (¬ l2 ≤ l3 → vp_in l3 6 ∧ ∀ e2, e2 = mR μ 2 (l3).toNatClampNeg →
  ((e2 = none → wC_queueRootsAndLog_10 l2 k n (l3 + 1) μ) ∧
  (∀ y3, e2 = some y3 → wW_add 13 (some y3) (fun μ4 => wC_queueRootsAndLog_10 l2 k n (l3 + 1) μ4) μ))))
def wC_queueRootsAndLog_42 (k : Int32 → Mem → Prop) : Nat → Int32 → Mem → Prop
  | 0, _, _ => False
  | n + 1, l1, μ =>
  (((mI μ 9 3) ≤ l1 → k l1 μ) ∧
  (¬ (mI μ 9 3) ≤ l1 → wG_heldBefore l1 (fun r8 μ7 => ((r8 = none → wC_queueRootsAndLog_42 k n (l1 + 1) μ7) ∧
  (∀ y9, r8 = some y9 → wW_add 13 (some y9) (fun μ10 => (((mI μ10 0 7) = 0 → wC_queueRootsAndLog_42 k n (l1 + 1) μ10) ∧
  (¬ (mI μ10 0 7) = 0 → okO μ10 y9 5 ∧ wI_turnGreyIfWhite y9 (fun μ12 => wC_queueRootsAndLog_42 k n (l1 + 1) μ12) μ10))) μ7))) μ))
def wC_queueRootsAndLog (post : Mem → Prop) (μ : Mem) : Prop :=
  ∃ n17, wC_queueRootsAndLog_10 6 (fun v6 μ5 => ∃ n16, wC_queueRootsAndLog_42 (fun v14 μ13 => wG_clear (fun μ15 => post μ15) μ13) n16 0 μ5) n17 0 μ
def wC_rememberRoots_2 (k : Int32 → Mem → Prop) : Nat → Int32 → Mem → Prop
  | 0, _, _ => False
  | n + 1, l1, μ =>
  ((6 ≤ l1 → k l1 μ) ∧
  (¬ 6 ≤ l1 → vp_in l1 6 ∧ ∀ e2, e2 = mR μ 1 (l1).toNatClampNeg →
  (∀ y, e2 = some y → okO μ y 5) ∧ ∀ μ3, μ3 = sR μ 2 (l1).toNatClampNeg e2 →
  wC_rememberRoots_2 k n (l1 + 1) μ3))
def wC_rememberRoots (post : Mem → Prop) (μ : Mem) : Prop :=
  ∃ n7, wC_rememberRoots_2 (fun v6 μ5 => post μ5) n7 0 μ
def wC_beginTrace_15 (l2 : Int32) (k : Int32 → Mem → Prop) : Nat → Int32 → Mem → Prop
  | 0, _, _ => False
  | n + 1, l3, μ =>
  ((l2 ≤ l3 → k l3 μ) ∧
  (¬ l2 ≤ l3 → vp_in l3 6 ∧ ∀ e3, e3 = mR μ 1 (l3).toNatClampNeg →
  ((e3 = none → wC_beginTrace_15 l2 k n (l3 + 1) μ) ∧
  (∀ y4, e3 = some y4 → okO μ y4 5 ∧ wI_turnGreyIfWhite y4 (fun μ6 => wC_beginTrace_15 l2 k n (l3 + 1) μ6) μ))))
def wC_beginTrace (post : Mem → Prop) (μ : Mem) : Prop :=
  ∀ μ1, μ1 = sI μ 0 7 1 →
  ∃ n9, wC_beginTrace_15 6 (fun v8 μ7 => post μ7) n9 0 μ1
def wC_countGrey_13 (l3 : Int32) (k : Int32 → Int32 → Mem → Prop) : Nat → Int32 → Int32 → Mem → Prop
  | 0, _, _, _ => False
  | n + 1, l1, l4, μ =>
  ((l3 ≤ l4 → k l1 l4 μ) ∧
  (¬ l3 ≤ l4 → vp_in l4 128 ∧ ∀ e2, e2 = mR μ 3 (l4).toNatClampNeg →
  ((e2 = none → wC_countGrey_13 l3 k n l1 (l4 + 1) μ) ∧
  (∀ y3, e2 = some y3 → okO μ y3 5 ∧ (((mI μ y3 6) = 1 → wC_countGrey_13 l3 k n (l1 + 1) (l4 + 1) μ) ∧
  (¬ (mI μ y3 6) = 1 → wC_countGrey_13 l3 k n l1 (l4 + 1) μ))))))
def wC_countGrey (post : Int32 → Mem → Prop) (μ : Mem) : Prop :=
  ∃ n8, wC_countGrey_13 128 (fun v6 v7 μ5 => post v6 μ5) n8 0 0 μ
def wC_loseWhite_67 (l5 : Nat) (l6 : Int32) (k : Int32 → Mem → Prop) : Nat → Int32 → Mem → Prop
  | 0, _, _ => False
  | n + 1, l7, μ =>
  ((l6 ≤ l7 → k l7 μ) ∧
  (¬ l6 ≤ l7 → okO μ l5 22 ∧ vp_in l7 (mL μ l5) ∧ ∀ e13, e13 = mR μ l5 (l7).toNatClampNeg →
  ((e13 = none → wC_loseWhite_67 l5 l6 k n (l7 + 1) μ) ∧
  (∀ y14, e13 = some y14 → okO μ y14 5 ∧ wI_isWhite y14 (fun r17 μ16 => ((r17 = 0 → wW_add 13 (some y14) (fun μ18 => wC_loseWhite_67 l5 l6 k n (l7 + 1) μ18) μ16) ∧
  (¬ r17 = 0 → wC_loseWhite_67 l5 l6 k n (l7 + 1) μ16))) μ))))
def wC_loseWhite_10 (l2 : Int32) (k : Int32 → Mem → Prop) : Nat → Int32 → Mem → Prop
  | 0, _, _ => False
  | n + 1, l3, μ =>
  ((l2 ≤ l3 → k l3 μ) ∧
  (¬ l2 ≤ l3 → vp_in l3 128 ∧ ∀ e2, e2 = mR μ 3 (l3).toNatClampNeg →
  ((e2 = none → wC_loseWhite_10 l2 k n (l3 + 1) μ) ∧
  (∀ y3, e2 = some y3 → okO μ y3 5 ∧ wI_isWhite y3 (fun r6 μ5 => ((r6 = 0 → wC_loseWhite_10 l2 k n (l3 + 1) μ5) ∧
  (¬ r6 = 0 → wC_remove y3 (fun μ7 => ∀ μ8, μ8 = sI μ7 0 10 ((mI μ7 0 10) + 1) →
  okO μ8 y3 5 ∧ okO μ8 (y3 + 1) 22 ∧ ∃ n21, wC_loseWhite_67 (y3 + 1) (nI (mL μ8 (y3 + 1))) (fun v20 μ19 => wC_loseWhite_10 l2 k n (l3 + 1) μ19) n21 0 μ8) μ5))) μ))))
def wC_loseWhite (post : Mem → Prop) (μ : Mem) : Prop :=
  ∃ n24, wC_loseWhite_10 128 (fun v23 μ22 => post μ22) n24 0 μ
def wW_countOf_4 (l0 : Nat) (l1 : Nat) (k : Int32 → Int32 → Mem → Prop) : Nat → Int32 → Int32 → Mem → Prop
  | 0, _, _, _ => False
  | n + 1, l2, l3, μ =>
  okO μ l0 4 ∧ (((mI μ l0 2) ≤ l3 → k l2 l3 μ) ∧
  (¬ (mI μ l0 2) ≤ l3 → okO μ (l0 + 1) 22 ∧ vp_in (((mI μ l0 1) + l3) - ((mI μ l0 1) + l3) / 262 * 262) (mL μ (l0 + 1)) ∧ ∀ e4, e4 = mR μ (l0 + 1) (((mI μ l0 1) + l3) - ((mI μ l0 1) + l3) / 262 * 262).toNatClampNeg →
  ((e4 = (some l1) → wW_countOf_4 l0 l1 k n (l2 + 1) (l3 + 1) μ) ∧
  (¬ e4 = (some l1) → wW_countOf_4 l0 l1 k n l2 (l3 + 1) μ))))
def wW_countOf (x : Nat) (a1 : Nat) (post : Int32 → Mem → Prop) (μ : Mem) : Prop :=
  ∃ n8, wW_countOf_4 x a1 (fun v6 v7 μ5 => post v6 μ5) n8 0 0 μ
def wI_countFieldsHolding_14 (l1 : Nat) (l3 : Nat) (l4 : Int32) (k : Int32 → Int32 → Mem → Prop) : Nat → Int32 → Int32 → Mem → Prop
  | 0, _, _, _ => False
  | n + 1, l2, l5, μ =>
  ((l4 ≤ l5 → k l2 l5 μ) ∧
  (¬ l4 ≤ l5 → okO μ l3 22 ∧ vp_in l5 (mL μ l3) ∧ ∀ e5, e5 = mR μ l3 (l5).toNatClampNeg →
  ((e5 = (some l1) → wI_countFieldsHolding_14 l1 l3 l4 k n (l2 + 1) (l5 + 1) μ) ∧
  (¬ e5 = (some l1) → wI_countFieldsHolding_14 l1 l3 l4 k n l2 (l5 + 1) μ))))
def wI_countFieldsHolding (x : Nat) (a1 : Nat) (post : Int32 → Mem → Prop) (μ : Mem) : Prop :=
  okO μ x 5 ∧ okO μ (x + 1) 22 ∧ ∃ n9, wI_countFieldsHolding_14 a1 (x + 1) (nI (mL μ (x + 1))) (fun v7 v8 μ6 => post v7 μ6) n9 0 0 μ
def wC_countHolders_21 (l1 : Nat) (l4 : Int32) (k : Int32 → Int32 → Mem → Prop) : Nat → Int32 → Int32 → Mem → Prop
  | 0, _, _, _ => False
  | n + 1, l2, l5, μ =>
  ((l4 ≤ l5 → k l2 l5 μ) ∧
  (¬ l4 ≤ l5 → vp_in l5 6 ∧ ∀ e4, e4 = mR μ 1 (l5).toNatClampNeg →
  ((e4 = (some l1) → wC_countHolders_21 l1 l4 k n (l2 + 1) (l5 + 1) μ) ∧
  (¬ e4 = (some l1) → wC_countHolders_21 l1 l4 k n l2 (l5 + 1) μ))))
def wC_countHolders_61 (l1 : Nat) (l4 : Int32) (k : Int32 → Int32 → Mem → Prop) : Nat → Int32 → Int32 → Mem → Prop
  | 0, _, _, _ => False
  | n + 1, l2, l5, μ =>
  ((l4 ≤ l5 → k l2 l5 μ) ∧
  (¬ l4 ≤ l5 → vp_in l5 128 ∧ ∀ e9, e9 = mR μ 3 (l5).toNatClampNeg →
  ((e9 = none → wC_countHolders_61 l1 l4 k n l2 (l5 + 1) μ) ∧
  (∀ y10, e9 = some y10 → okO μ y10 5 ∧ wI_countFieldsHolding y10 l1 (fun r13 μ12 => wC_countHolders_61 l1 l4 k n (l2 + r13) (l5 + 1) μ12) μ))))
def wC_countHolders (a1 : Nat) (post : Int32 → Mem → Prop) (μ : Mem) : Prop :=
  wW_countOf 13 a1 (fun r2 μ1 => ∃ n18, wC_countHolders_21 a1 6 (fun v6 v7 μ5 => ∃ n17, wC_countHolders_61 a1 128 (fun v15 v16 μ14 => post v15 μ14) n17 v6 0 μ5) n18 r2 0 μ1) μ
def wC_recountStuck_10 (l2 : Int32) (k : Int32 → Mem → Prop) : Nat → Int32 → Mem → Prop
  | 0, _, _ => False
  | n + 1, l3, μ =>
  ((l2 ≤ l3 → k l3 μ) ∧
  (¬ l2 ≤ l3 → vp_in l3 128 ∧ ∀ e2, e2 = mR μ 3 (l3).toNatClampNeg →
  ((e2 = none → wC_recountStuck_10 l2 k n (l3 + 1) μ) ∧
  (∀ y3, e2 = some y3 → okO μ y3 5 ∧ (((mI μ y3 5) = 3 → wC_countHolders y3 (fun r6 μ5 => okO μ5 y3 5 ∧ ∀ μ8, μ8 = sI μ5 y3 5 (jmin r6 3) →
  (((mI μ8 y3 5) = 0 → wC_letGo y3 (fun μ9 => wC_recountStuck_10 l2 k n (l3 + 1) μ9) μ8) ∧
  (¬ (mI μ8 y3 5) = 0 → wC_recountStuck_10 l2 k n (l3 + 1) μ8))) μ) ∧
  (¬ (mI μ y3 5) = 3 → wC_recountStuck_10 l2 k n (l3 + 1) μ))))))
def wC_recountStuck (post : Mem → Prop) (μ : Mem) : Prop :=
  ∃ n12, wC_recountStuck_10 128 (fun v11 μ10 => post μ10) n12 0 μ
def wC_whitenAll_10 (l2 : Int32) (k : Int32 → Mem → Prop) : Nat → Int32 → Mem → Prop
  | 0, _, _ => False
  | n + 1, l3, μ =>
  ((l2 ≤ l3 → k l3 μ) ∧
  (¬ l2 ≤ l3 → vp_in l3 128 ∧ ∀ e2, e2 = mR μ 3 (l3).toNatClampNeg →
  ((e2 = none → wC_whitenAll_10 l2 k n (l3 + 1) μ) ∧
  (∀ y3, e2 = some y3 → okO μ y3 5 ∧ ∀ μ5, μ5 = sI μ y3 6 0 →
  wC_whitenAll_10 l2 k n (l3 + 1) μ5))))
def wC_whitenAll (post : Mem → Prop) (μ : Mem) : Prop :=
  ∃ n8, wC_whitenAll_10 128 (fun v7 μ6 => post μ6) n8 0 μ
def wP_isUsed (a1 : Int32) (post : Int32 → Mem → Prop) (μ : Mem) : Prop :=
  vp_in a1 32 ∧ ((0 < (mI μ 5 (a1).toNatClampNeg) → post 1 μ) ∧
  (¬ 0 < (mI μ 5 (a1).toNatClampNeg) → (((mI μ 6 (a1).toNatClampNeg) = 0 → post 0 μ) ∧
  (¬ (mI μ 6 (a1).toNatClampNeg) = 0 → post 1 μ))))
def wP_usedLines_7 (l1 : Int32) (k : Int32 → Int32 → Mem → Prop) : Nat → Int32 → Int32 → Mem → Prop
  | 0, _, _, _ => False
  | n + 1, l2, l3, μ =>
  ((((l1 + 1) * 8) ≤ l3 → k l2 l3 μ) ∧
  (¬ ((l1 + 1) * 8) ≤ l3 → wP_isUsed l3 (fun r2 μ1 => ((r2 = 0 → wP_usedLines_7 l1 k n l2 (l3 + 1) μ1) ∧
  (¬ r2 = 0 → wP_usedLines_7 l1 k n (l2 + 1) (l3 + 1) μ1))) μ))
def wP_usedLines (a1 : Int32) (post : Int32 → Mem → Prop) (μ : Mem) : Prop :=
  ∃ n6, wP_usedLines_7 a1 (fun v4 v5 μ3 => post v4 μ3) n6 0 (a1 * 8) μ
def wP_sparsestBlock_6 (k : Int32 → Int32 → Int32 → Mem → Prop) : Nat → Int32 → Int32 → Int32 → Mem → Prop
  | 0, _, _, _, _ => False
  | n + 1, l1, l2, l3, μ =>
  ((4 ≤ l3 → k l1 l2 l3 μ) ∧
  (¬ 4 ≤ l3 → wP_usedLines l3 (fun r2 μ1 => ((r2 ≤ 0 → wP_sparsestBlock_6 k n l1 l2 (l3 + 1) μ1) ∧
  (¬ r2 ≤ 0 → ((l2 ≤ r2 → wP_sparsestBlock_6 k n l1 l2 (l3 + 1) μ1) ∧
  (¬ l2 ≤ r2 → wP_sparsestBlock_6 k n l3 r2 (l3 + 1) μ1))))) μ))
def wP_sparsestBlock (post : Int32 → Mem → Prop) (μ : Mem) : Prop :=
  ∃ n7, wP_sparsestBlock_6 (fun v4 v5 v6 μ3 => post v4 μ3) n7 (-1) 4 0 μ
def wP_shut (a1 : Int32) (post : Mem → Prop) (μ : Mem) : Prop :=
  ∀ μ1, μ1 = sI μ 4 4 a1 →
  post μ1
def wC_clearSparsestBlock_31 (l1 : Int32) (k : Int32 → Mem → Prop) : Nat → Int32 → Mem → Prop
  | 0, _, _ => False
  | n + 1, l2, μ =>
  ((32 ≤ l2 → k l2 μ) ∧
  (¬ 32 ≤ l2 → vp_in ((l1 * 32) + l2) 128 ∧ ∀ e6, e6 = mR μ 3 ((l1 * 32) + l2).toNatClampNeg →
  ((e6 = none → wC_clearSparsestBlock_31 l1 k n (l2 + 1) μ) ∧
  (∀ y7, e6 = some y7 → okO μ y7 5 ∧ wP_find (mI μ y7 0) (fun r10 μ9 => wC_moveTo y7 r10 (fun μ11 => wC_clearSparsestBlock_31 l1 k n (l2 + 1) μ11) μ9) μ))))
def wC_clearSparsestBlock (post : Mem → Prop) (μ : Mem) : Prop :=
  wP_sparsestBlock (fun r2 μ1 => ((r2 = (-1) → post μ1) ∧
  (¬ r2 = (-1) → wP_close (fun μ3 => wP_shut r2 (fun μ4 => ∃ n16, wC_clearSparsestBlock_31 r2 (fun v13 μ12 => wP_shut (-1) (fun μ14 => wP_forgetMovedOut (fun μ15 => post μ15) μ14) μ12) n16 0 μ4) μ3) μ1))) μ
def wC_pause_71 (l1 : Int32) (l2 : Int32) (post : Int32 → Mem → Prop) (μ : Mem) : Prop :=
  ((l1 = 0 → wP_close (fun μ8 => wC_rememberRoots (fun μ9 => post l2 μ9) μ8) μ) ∧
  (¬ l1 = 0 → (((mI μ 0 7) = 0 → wC_beginTrace (fun μ12 => wP_close (fun μ13 => wC_rememberRoots (fun μ14 => post l2 μ14) μ13) μ12) μ) ∧
  (¬ (mI μ 0 7) = 0 → wP_close (fun μ10 => wC_rememberRoots (fun μ11 => post l2 μ11) μ10) μ))))
def wC_pause (a1 : Int32) (post : Int32 → Mem → Prop) (μ : Mem) : Prop :=
  ∀ μ1, μ1 = sI μ 0 8 ((mI μ 0 8) + 1) →
  wC_drainUpTo 1000000 (fun μ2 => wP_close (fun μ3 => wC_countSlots (fun r5 μ4 => wC_loseYoung (fun μ6 => wC_queueRootsAndLog (fun μ7 => (((mI μ7 0 7) = 0 → wC_pause_71 a1 r5 post μ7) ∧
  (¬ (mI μ7 0 7) = 0 → wC_countGrey (fun r16 μ15 => ((r16 = 0 → wC_loseWhite (fun μ17 => wC_recountStuck (fun μ18 => wC_whitenAll (fun μ19 => wC_clearSparsestBlock (fun μ20 => ∀ μ21, μ21 = sI μ20 0 7 0 →
  wC_pause_71 a1 r5 post μ21) μ19) μ18) μ17) μ15) ∧
  (¬ r16 = 0 → wC_pause_71 a1 r5 post μ15))) μ7))) μ6) μ4) μ3) μ2) μ1
def wC_blacken_15 (l1 : Nat) (l2 : Int32) (k : Int32 → Mem → Prop) : Nat → Int32 → Mem → Prop
  | 0, _, _ => False
  | n + 1, l3, μ =>
  ((l2 ≤ l3 → k l3 μ) ∧
  (¬ l2 ≤ l3 → okO μ l1 22 ∧ vp_in l3 (mL μ l1) ∧ ∀ e6, e6 = mR μ l1 (l3).toNatClampNeg →
  ((e6 = none → wC_blacken_15 l1 l2 k n (l3 + 1) μ) ∧
  (∀ y7, e6 = some y7 → okO μ y7 5 ∧ wI_turnGreyIfWhite y7 (fun μ9 => wC_blacken_15 l1 l2 k n (l3 + 1) μ9) μ))))
def wC_blacken (a1 : Nat) (post : Mem → Prop) (μ : Mem) : Prop :=
  okO μ a1 5 ∧ ∀ μ2, μ2 = sI μ a1 6 2 →
  okO μ2 (a1 + 1) 22 ∧ ∃ n12, wC_blacken_15 (a1 + 1) (nI (mL μ2 (a1 + 1))) (fun v11 μ10 => post μ10) n12 0 μ2
def wC_blackenFirstGrey_10 (l2 : Int32) (k : Int32 → Mem → Prop) (post : Int32 → Mem → Prop) : Nat → Int32 → Mem → Prop
  | 0, _, _ => False
  | n + 1, l3, μ =>
  ((l2 ≤ l3 → k l3 μ) ∧
  (¬ l2 ≤ l3 → vp_in l3 128 ∧ ∀ e2, e2 = mR μ 3 (l3).toNatClampNeg →
  ((e2 = none → wC_blackenFirstGrey_10 l2 k post n (l3 + 1) μ) ∧
  (∀ y3, e2 = some y3 → okO μ y3 5 ∧ (((mI μ y3 6) = 1 → wC_blacken y3 (fun μ5 => post 1 μ5) μ) ∧
  (¬ (mI μ y3 6) = 1 → wC_blackenFirstGrey_10 l2 k post n (l3 + 1) μ))))))
def wC_blackenFirstGrey (post : Int32 → Mem → Prop) (μ : Mem) : Prop :=
  ∃ n8, wC_blackenFirstGrey_10 128 (fun v7 μ6 => post 0 μ6) post n8 0 μ
def wC_stepUpTo_4 (l1 : Int32) (k : Int32 → Int32 → Mem → Prop) : Nat → Int32 → Int32 → Mem → Prop
  | 0, _, _, _ => False
  | n + 1, l2, l3, μ =>
  ((l1 ≤ l3 → k l2 l3 μ) ∧
  (¬ l1 ≤ l3 → ((l2 = 0 → k l2 l3 μ) ∧
  (¬ l2 = 0 → wC_blackenFirstGrey (fun r2 μ1 => wC_stepUpTo_4 l1 k n r2 (l3 + 1) μ1) μ))))
def wC_stepUpTo (a1 : Int32) (post : Mem → Prop) (μ : Mem) : Prop :=
  ∃ n6, wC_stepUpTo_4 a1 (fun v4 v5 μ3 => post μ3) n6 1 0 μ
def wC_collect (post : Mem → Prop) (μ : Mem) : Prop :=
  wC_pause 1 (fun r2 μ1 => wC_stepUpTo 1000000 (fun μ3 => wC_pause 0 (fun r5 μ4 => wC_drainUpTo 1000000 (fun μ6 => post μ6) μ4) μ3) μ1) μ
def wC_allocate_56 (l1 : Int32) (l2 : Int32) (l3 : Int32) (l4 : Int32) (pe : Nat → Mem → Prop) (post : Int32 → Mem → Prop) (μ : Mem) : Prop :=
  ((l4 = (-1) → pe 10 (bump μ 10)) ∧
  (¬ l4 = (-1) → 0 < l2 ∧ l2 ≤ 12 ∧ ∀ μ5, μ5 = mkItem μ l2 l3 →
  wC_settle (mN μ) l4 (fun μ6 => vp_in l1 6 ∧ okO μ6 (mN μ) 5 ∧ ∀ μ8, μ8 = sR μ6 1 (l1).toNatClampNeg (some (mN μ)) →
  post l4 μ8) μ5))
def wC_allocate (a1 : Int32) (a2 : Int32) (a3 : Int32) (pe : Nat → Mem → Prop) (post : Int32 → Mem → Prop) (μ : Mem) : Prop :=
  wC_isRoot a1 (fun r2 μ1 => ((r2 = 0 → pe 7 (bump μ1 7)) ∧
  (¬ r2 = 0 → ((a2 < 1 → pe 7 (bump μ1 7)) ∧
  (¬ a2 < 1 → ((a2 ≤ 12 → wP_find a2 (fun r4 μ3 => ((r4 = (-1) → wC_collect (fun μ10 => wP_find a2 (fun r12 μ11 => wC_allocate_56 a1 a2 a3 r12 pe post μ11) μ10) μ3) ∧
  (¬ r4 = (-1) → wC_allocate_56 a1 a2 a3 r4 pe post μ3))) μ1) ∧
  (¬ a2 ≤ 12 → pe 7 (bump μ1 7)))))))) μ
def wC_drop (a1 : Int32) (pe : Nat → Mem → Prop) (post : Mem → Prop) (μ : Mem) : Prop :=
  wC_isRoot a1 (fun r2 μ1 => ((r2 = 0 → pe 7 (bump μ1 7)) ∧
  (¬ r2 = 0 → vp_in a1 6 ∧ ∀ μ4, μ4 = sR μ1 1 (a1).toNatClampNeg none →
  post μ4))) μ
def wC_copy (a1 : Int32) (a2 : Int32) (pe : Nat → Mem → Prop) (post : Mem → Prop) (μ : Mem) : Prop :=
  wC_isRoot a1 (fun r2 μ1 => ((r2 = 0 → pe 7 (bump μ1 7)) ∧
  (¬ r2 = 0 → wC_isRoot a2 (fun r4 μ3 => ((r4 = 0 → pe 7 (bump μ3 7)) ∧
  (¬ r4 = 0 → vp_in a2 6 ∧ ∀ e6, e6 = mR μ3 1 (a2).toNatClampNeg →
  vp_in a1 6 ∧ (∀ y, e6 = some y → okO μ3 y 5) ∧ ∀ μ8, μ8 = sR μ3 1 (a1).toNatClampNeg e6 →
  post μ8))) μ1))) μ
def wI_hasField (x : Nat) (a1 : Int32) (post : Int32 → Mem → Prop) (μ : Mem) : Prop :=
  ((a1 < 0 → post 0 μ) ∧
  (¬ a1 < 0 → okO μ x 5 ∧ (((mI μ x 0) ≤ a1 → post 0 μ) ∧
  (¬ (mI μ x 0) ≤ a1 → post 1 μ))))
def wC_itemWithField (a1 : Int32) (a2 : Int32) (a3 : Int32) (pe : Nat → Mem → Prop) (post : Nat → Mem → Prop) (μ : Mem) : Prop :=
  wC_isRoot a1 (fun r2 μ1 => ((r2 = 0 → pe 7 (bump μ1 7)) ∧
  (¬ r2 = 0 → wC_isRoot a3 (fun r4 μ3 => ((r4 = 0 → pe 7 (bump μ3 7)) ∧
  (¬ r4 = 0 → vp_in a1 6 ∧ ∀ e6, e6 = mR μ3 1 (a1).toNatClampNeg →
  ((e6 = none → pe 8 (bump μ3 8)) ∧
  (∀ y7, e6 = some y7 → okO μ3 y7 5 ∧ wI_hasField y7 a2 (fun r10 μ9 => ((r10 = 0 → pe 9 (bump μ9 9)) ∧
  (¬ r10 = 0 → post y7 μ9))) μ3))))) μ1))) μ
def wC_addressOf (a1 : Option Nat) (post : Int32 → Mem → Prop) (μ : Mem) : Prop :=
  ((a1 = none → post (-1) μ) ∧
  (∀ y1, a1 = some y1 → okO μ y1 5 ∧ post (mI μ y1 4) μ))
def wC_load (a1 : Int32) (a2 : Int32) (a3 : Int32) (pe : Nat → Mem → Prop) (post : Int32 → Mem → Prop) (μ : Mem) : Prop :=
  wC_itemWithField a2 a3 a1 pe (fun y2 μ1 => okO μ1 y2 5 ∧ okO μ1 (y2 + 1) 22 ∧ vp_in a3 (mL μ1 (y2 + 1)) ∧ ∀ e6, e6 = mR μ1 (y2 + 1) (a3).toNatClampNeg →
  vp_in a1 6 ∧ (∀ y, e6 = some y → okO μ1 y 5) ∧ ∀ μ8, μ8 = sR μ1 1 (a1).toNatClampNeg e6 →
  ∀ e10, e10 = mR μ8 1 (a1).toNatClampNeg →
  wC_addressOf e10 (fun r12 μ11 => post r12 μ11) μ8) μ
def wG_add (a1 : Nat) (a2 : Int32) (post : Mem → Prop) (μ : Mem) : Prop :=
  ((128 ≤ (mI μ 9 3) → post μ) ∧
  (¬ 128 ≤ (mI μ 9 3) → vp_in (mI μ 9 3) 128 ∧ okO μ a1 5 ∧ ∀ μ2, μ2 = sR μ 10 (mI μ 9 3).toNatClampNeg (some a1) →
  vp_in (mI μ2 9 3) 128 ∧ ∀ μ5, μ5 = sI μ2 11 (mI μ2 9 3).toNatClampNeg a2 →
  okO μ5 (a1 + 1) 22 ∧ vp_in a2 (mL μ5 (a1 + 1)) ∧ ∀ e8, e8 = mR μ5 (a1 + 1) (a2).toNatClampNeg →
  vp_in (mI μ5 9 3) 128 ∧ (∀ y, e8 = some y → okO μ5 y 5) ∧ ∀ μ10, μ10 = sR μ5 12 (mI μ5 9 3).toNatClampNeg e8 →
  okO μ10 (a1 + 2) 21 ∧ vp_in a2 (mL μ10 (a1 + 2)) ∧ ∀ μ14, μ14 = sI μ10 (a1 + 2) (a2).toNatClampNeg 1 →
  ∀ μ15, μ15 = sI μ14 9 3 ((mI μ14 9 3) + 1) →
  post μ15))
def wC_store (a1 : Int32) (a2 : Int32) (a3 : Int32) (pe : Nat → Mem → Prop) (post : Mem → Prop) (μ : Mem) : Prop :=
  wC_itemWithField a1 a2 a3 pe (fun y2 μ1 => okO μ1 y2 5 ∧ wI_isOld y2 (fun r5 μ4 => ((r5 = 0 → okO μ4 y2 5 ∧ vp_in a3 6 ∧ ∀ e8, e8 = mR μ4 1 (a3).toNatClampNeg →
  okO μ4 (y2 + 1) 22 ∧ vp_in a2 (mL μ4 (y2 + 1)) ∧ (∀ y, e8 = some y → okO μ4 y 5) ∧ ∀ μ11, μ11 = sR μ4 (y2 + 1) (a2).toNatClampNeg e8 →
  post μ11) ∧
  (¬ r5 = 0 → okO μ4 y2 5 ∧ okO μ4 (y2 + 2) 21 ∧ vp_in a2 (mL μ4 (y2 + 2)) ∧ (((mI μ4 (y2 + 2) (a2).toNatClampNeg) = 0 → wG_add y2 a2 (fun μ22 => okO μ22 y2 5 ∧ vp_in a3 6 ∧ ∀ e25, e25 = mR μ22 1 (a3).toNatClampNeg →
  okO μ22 (y2 + 1) 22 ∧ vp_in a2 (mL μ22 (y2 + 1)) ∧ (∀ y, e25 = some y → okO μ22 y 5) ∧ ∀ μ28, μ28 = sR μ22 (y2 + 1) (a2).toNatClampNeg e25 →
  post μ28) μ4) ∧
  (¬ (mI μ4 (y2 + 2) (a2).toNatClampNeg) = 0 → vp_in a3 6 ∧ ∀ e17, e17 = mR μ4 1 (a3).toNatClampNeg →
  okO μ4 (y2 + 1) 22 ∧ vp_in a2 (mL μ4 (y2 + 1)) ∧ (∀ y, e17 = some y → okO μ4 y 5) ∧ ∀ μ20, μ20 = sR μ4 (y2 + 1) (a2).toNatClampNeg e17 →
  post μ20))))) μ1) μ
def wC_drain (a1 : Int32) (pe : Nat → Mem → Prop) (post : Int32 → Mem → Prop) (μ : Mem) : Prop :=
  ((0 ≤ a1 → wC_drainUpTo a1 (fun μ1 => post (mI μ1 13 2) μ1) μ) ∧
  (¬ 0 ≤ a1 → pe 7 (bump μ 7)))
def wC_trace (a1 : Int32) (pe : Nat → Mem → Prop) (post : Int32 → Mem → Prop) (μ : Mem) : Prop :=
  ((0 ≤ a1 → (((mI μ 0 7) = 0 → pe 8 (bump μ 8)) ∧
  (¬ (mI μ 0 7) = 0 → wC_stepUpTo a1 (fun μ1 => wC_countGrey (fun r3 μ2 => post r3 μ2) μ1) μ))) ∧
  (¬ 0 ≤ a1 → pe 7 (bump μ 7)))
def wC_root (a1 : Int32) (pe : Nat → Mem → Prop) (post : Int32 → Mem → Prop) (μ : Mem) : Prop :=
  wC_isRoot a1 (fun r2 μ1 => ((r2 = 0 → pe 7 (bump μ1 7)) ∧
  (¬ r2 = 0 → vp_in a1 6 ∧ ∀ e4, e4 = mR μ1 1 (a1).toNatClampNeg →
  wC_addressOf e4 (fun r6 μ5 => post r6 μ5) μ1))) μ
def wC_itemOrNull (a1 : Int32) (post : Option Nat → Mem → Prop) (μ : Mem) : Prop :=
  ((a1 < 0 → post none μ) ∧
  (¬ a1 < 0 → ((128 ≤ a1 → post none μ) ∧
  (¬ 128 ≤ a1 → vp_in a1 128 ∧ ∀ e2, e2 = mR μ 3 (a1).toNatClampNeg →
  post e2 μ))))
def wC_field (a1 : Int32) (a2 : Int32) (pe : Nat → Mem → Prop) (post : Int32 → Mem → Prop) (μ : Mem) : Prop :=
  wC_itemOrNull a1 (fun r2 μ1 => ((r2 = none → pe 11 (bump μ1 11)) ∧
  (∀ y3, r2 = some y3 → okO μ1 y3 5 ∧ wI_hasField y3 a2 (fun r6 μ5 => ((r6 = 0 → pe 9 (bump μ5 9)) ∧
  (¬ r6 = 0 → okO μ5 y3 5 ∧ okO μ5 (y3 + 1) 22 ∧ vp_in a2 (mL μ5 (y3 + 1)) ∧ ∀ e10, e10 = mR μ5 (y3 + 1) (a2).toNatClampNeg →
  wC_addressOf e10 (fun r12 μ11 => post r12 μ11) μ5))) μ1))) μ
def wC_object (a1 : Int32) (a2 : Int32) (pe : Nat → Mem → Prop) (post : Int32 → Mem → Prop) (μ : Mem) : Prop :=
  ((a2 < 0 → pe 7 (bump μ 7)) ∧
  (¬ a2 < 0 → ((a2 ≤ 3 → wC_itemOrNull a1 (fun r2 μ1 => ((r2 = none → pe 11 (bump μ1 11)) ∧
  (∀ y3, r2 = some y3 → ((a2 = 0 → okO μ1 y3 5 ∧ post (mI μ1 y3 0) μ1) ∧
  (a2 = 1 → okO μ1 y3 5 ∧ post (mI μ1 y3 1) μ1) ∧
  (a2 = 2 → okO μ1 y3 5 ∧ post (mI μ1 y3 5) μ1) ∧
  (¬ a2 = 0 → ¬ a2 = 1 → ¬ a2 = 2 → okO μ1 y3 5 ∧ post (mI μ1 y3 6) μ1))))) μ) ∧
  (¬ a2 ≤ 3 → pe 7 (bump μ 7)))))
def wC_line (a1 : Int32) (pe : Nat → Mem → Prop) (post : Int32 → Mem → Prop) (μ : Mem) : Prop :=
  ((a1 < 0 → pe 9 (bump μ 9)) ∧
  (¬ a1 < 0 → ((a1 < 32 → wP_isUsed a1 (fun r2 μ1 => ((r2 = 0 → wP_isFree a1 (fun r4 μ3 => ((r4 = 0 → post 2 μ3) ∧
  (¬ r4 = 0 → post 0 μ3))) μ1) ∧
  (¬ r2 = 0 → post 1 μ1))) μ) ∧
  (¬ a1 < 32 → pe 9 (bump μ 9)))))
def wC_countItems_13 (l3 : Int32) (k : Int32 → Int32 → Mem → Prop) : Nat → Int32 → Int32 → Mem → Prop
  | 0, _, _, _ => False
  | n + 1, l1, l4, μ =>
  ((l3 ≤ l4 → k l1 l4 μ) ∧
  (¬ l3 ≤ l4 → vp_in l4 128 ∧ ∀ e2, e2 = mR μ 3 (l4).toNatClampNeg →
  ((e2 = none → wC_countItems_13 l3 k n l1 (l4 + 1) μ) ∧
  (∀ y3, e2 = some y3 → wC_countItems_13 l3 k n (l1 + 1) (l4 + 1) μ))))
def wC_countItems (post : Int32 → Mem → Prop) (μ : Mem) : Prop :=
  ∃ n7, wC_countItems_13 128 (fun v5 v6 μ4 => post v5 μ4) n7 0 0 μ
def wC_countYoung_13 (l3 : Int32) (k : Int32 → Int32 → Mem → Prop) : Nat → Int32 → Int32 → Mem → Prop
  | 0, _, _, _ => False
  | n + 1, l1, l4, μ =>
  ((l3 ≤ l4 → k l1 l4 μ) ∧
  (¬ l3 ≤ l4 → vp_in l4 128 ∧ ∀ e2, e2 = mR μ 3 (l4).toNatClampNeg →
  ((e2 = none → wC_countYoung_13 l3 k n l1 (l4 + 1) μ) ∧
  (∀ y3, e2 = some y3 → okO μ y3 5 ∧ wI_isOld y3 (fun r6 μ5 => ((r6 = 0 → wC_countYoung_13 l3 k n (l1 + 1) (l4 + 1) μ5) ∧
  (¬ r6 = 0 → wC_countYoung_13 l3 k n l1 (l4 + 1) μ5))) μ))))
def wC_countYoung (post : Int32 → Mem → Prop) (μ : Mem) : Prop :=
  ∃ n10, wC_countYoung_13 128 (fun v8 v9 μ7 => post v8 μ7) n10 0 0 μ
def wC_figure (a1 : Int32) (pe : Nat → Mem → Prop) (post : Int32 → Mem → Prop) (μ : Mem) : Prop :=
  ((a1 = 0 → wC_countItems (fun r2 μ1 => post r2 μ1) μ) ∧
  (a1 = 1 → wC_countYoung (fun r4 μ3 => post r4 μ3) μ) ∧
  (a1 = 2 → post (mI μ 13 2) μ) ∧
  (a1 = 3 → post (mI μ 9 3) μ) ∧
  (a1 = 4 → post (mI μ 0 8) μ) ∧
  (a1 = 5 → (((mI μ 0 7) = 0 → post 0 μ) ∧
  (¬ (mI μ 0 7) = 0 → post 1 μ))) ∧
  (a1 = 6 → post (mI μ 0 9) μ) ∧
  (a1 = 7 → post (mI μ 0 10) μ) ∧
  (a1 = 8 → wC_countGrey (fun r6 μ5 => post r6 μ5) μ) ∧
  (¬ a1 = 0 → ¬ a1 = 1 → ¬ a1 = 2 → ¬ a1 = 3 → ¬ a1 = 4 → ¬ a1 = 5 → ¬ a1 = 6 → ¬ a1 = 7 → ¬ a1 = 8 → pe 7 (bump μ 7)))
def wM_thrown (post : Int32 → Mem → Prop) (μ : Mem) : Prop :=
  post (mI μ 17 0) μ
def wM_isUsed_11 (l1 : Int32) (k : Int32 → Int32 → Mem → Prop) : Nat → Int32 → Int32 → Mem → Prop
  | 0, _, _, _ => False
  | n + 1, l2, l3, μ =>
  ((((4 * l1) + 4) ≤ l3 → k l2 l3 μ) ∧
  (¬ ((4 * l1) + 4) ≤ l3 → ((l2 = 0 → vp_in l3 128 ∧ (((mI μ 18 (l3).toNatClampNeg) < 0 → wM_isUsed_11 l1 k n 0 (l3 + 1) μ) ∧
  (¬ (mI μ 18 (l3).toNatClampNeg) < 0 → wM_isUsed_11 l1 k n 1 (l3 + 1) μ))) ∧
  (¬ l2 = 0 → wM_isUsed_11 l1 k n 1 (l3 + 1) μ))))
def wM_isUsed (a1 : Int32) (post : Int32 → Mem → Prop) (μ : Mem) : Prop :=
  vp_in a1 32 ∧ ∃ n7, wM_isUsed_11 a1 (fun v4 v5 μ3 => zb v4 ∧ post v4 μ3) n7 (mI μ 29 (a1).toNatClampNeg) (4 * a1) μ
def wM_isTaken_23 (l1 : Int32) (post : Int32 → Mem → Prop) (μ : Mem) : Prop :=
  (((mI μ 17 16) < 0 → post 0 μ) ∧
  (¬ (mI μ 17 16) < 0 → (((l1 / 8) = (mI μ 17 16) → post 1 μ) ∧
  (¬ (l1 / 8) = (mI μ 17 16) → post 0 μ))))
def wM_isTaken (a1 : Int32) (post : Int32 → Mem → Prop) (μ : Mem) : Prop :=
  (((mI μ 17 13) < 0 → wM_isTaken_23 a1 post μ) ∧
  (¬ (mI μ 17 13) < 0 → ((a1 < (mI μ 17 13) → wM_isTaken_23 a1 post μ) ∧
  (¬ a1 < (mI μ 17 13) → ((a1 < (mI μ 17 14) → post 1 μ) ∧
  (¬ a1 < (mI μ 17 14) → wM_isTaken_23 a1 post μ))))))
def wM_isFree (a1 : Int32) (post : Int32 → Mem → Prop) (μ : Mem) : Prop :=
  wM_isUsed a1 (fun r2 μ1 => ((r2 = 0 → wM_isTaken a1 (fun r4 μ3 => ((r4 = 0 → (((a1 / 8) = (mI μ3 17 19) → post 0 μ3) ∧
  (¬ (a1 / 8) = (mI μ3 17 19) → post 1 μ3))) ∧
  (¬ r4 = 0 → post 0 μ3))) μ1) ∧
  (¬ r2 = 0 → post 0 μ1))) μ
def wM_isFreeBlock_7 (l1 : Int32) (k : Int32 → Int32 → Mem → Prop) : Nat → Int32 → Int32 → Mem → Prop
  | 0, _, _, _ => False
  | n + 1, l2, l3, μ =>
  ((((8 * l1) + 8) ≤ l3 → k l2 l3 μ) ∧
  (¬ ((8 * l1) + 8) ≤ l3 → ((l2 = 0 → wM_isFreeBlock_7 l1 k n 0 (l3 + 1) μ) ∧
  (¬ l2 = 0 → wM_isFree l3 (fun r2 μ1 => ((r2 = 0 → wM_isFreeBlock_7 l1 k n 0 (l3 + 1) μ1) ∧
  (¬ r2 = 0 → wM_isFreeBlock_7 l1 k n 1 (l3 + 1) μ1))) μ))))
def wM_isFreeBlock (a1 : Int32) (post : Int32 → Mem → Prop) (μ : Mem) : Prop :=
  ∃ n7, wM_isFreeBlock_7 a1 (fun v4 v5 μ3 => zb v4 ∧ post v4 μ3) n7 1 (8 * a1) μ
def wM_forget (post : Mem → Prop) (μ : Mem) : Prop :=
  ∀ μ1, μ1 = sI μ 17 13 (-1) →
  ∀ μ2, μ2 = sI μ1 17 16 (-1) →
  post μ2
def wM_placeInBlock_45 (k : Int32 → Mem → Prop) : Nat → Int32 → Mem → Prop
  | 0, _, _ => False
  | n + 1, l2, μ =>
  ((4 ≤ l2 → k l2 μ) ∧
  (¬ 4 ≤ l2 → wM_isFreeBlock l2 (fun r2 μ1 => ((r2 = 0 → wM_placeInBlock_45 k n (l2 + 1) μ1) ∧
  (¬ r2 = 0 → k l2 μ1))) μ))
def wM_placeInBlock_64 (l1 : Int32) (l2 : Int32) (post : Int32 → Mem → Prop) (μ : Mem) : Prop :=
  ((l2 = 4 → post (-1) μ) ∧
  (¬ l2 = 4 → ∀ μ5, μ5 = sI μ 17 16 l2 →
  ∀ μ6, μ6 = sI μ5 17 17 ((32 * l2) + l1) →
  post (32 * l2) μ6))
def wM_placeInBlock_43 (l1 : Int32) (post : Int32 → Mem → Prop) (μ : Mem) : Prop :=
  ∃ n7, wM_placeInBlock_45 (fun v4 μ3 => wM_placeInBlock_64 l1 v4 post μ3) n7 0 μ
def wM_placeInBlock (a1 : Int32) (post : Int32 → Mem → Prop) (μ : Mem) : Prop :=
  (((mI μ 17 16) < 0 → wM_placeInBlock_43 a1 post μ) ∧
  (¬ (mI μ 17 16) < 0 → ((((32 * (mI μ 17 16)) + 32) < ((mI μ 17 17) + a1) → wM_placeInBlock_43 a1 post μ) ∧
  (¬ ((32 * (mI μ 17 16)) + 32) < ((mI μ 17 17) + a1) → ∀ μ8, μ8 = sI μ 17 17 ((mI μ 17 17) + a1) →
  post ((mI μ8 17 17) - a1) μ8))))
def wM_placeInLines_18 (l2 : Int32) (k : Int32 → Mem → Prop) : Nat → Int32 → Mem → Prop
  | 0, _, _ => False
  | n + 1, l3, μ =>
  ((32 ≤ l3 → k l3 μ) ∧
  (¬ 32 ≤ l3 → wM_isFree ((l2 + l3) - (l2 + l3) / 32 * 32) (fun r2 μ1 => ((r2 = 0 → wM_placeInLines_18 l2 k n (l3 + 1) μ1) ∧
  (¬ r2 = 0 → k l3 μ1))) μ))
def wM_placeInLines_65 (l4 : Int32) (k : Int32 → Mem → Prop) : Nat → Int32 → Mem → Prop
  | 0, _, _ => False
  | n + 1, l5, μ =>
  (((l5 / 8) = (l4 / 8) → wM_isFree l5 (fun r6 μ5 => ((r6 = 0 → k l5 μ5) ∧
  (¬ r6 = 0 → wM_placeInLines_65 l4 k n (l5 + 1) μ5))) μ) ∧
  (¬ (l5 / 8) = (l4 / 8) → k l5 μ))
def wM_placeInLines_93 (l1 : Int32) (l4 : Int32) (l5 : Int32) (post : Int32 → Mem → Prop) (μ : Mem) : Prop :=
  ∀ μ9, μ9 = sI μ 17 13 l4 →
  ∀ μ10, μ10 = sI μ9 17 14 l5 →
  ∀ μ11, μ11 = sI μ10 17 15 ((4 * l4) + l1) →
  post (4 * l4) μ11
def wM_placeInLines_43 (l1 : Int32) (l2 : Int32) (l3 : Int32) (post : Int32 → Mem → Prop) (μ : Mem) : Prop :=
  ((l3 = 32 → post (-1) μ) ∧
  (¬ l3 = 32 → ∃ n12, wM_placeInLines_65 ((l2 + l3) - (l2 + l3) / 32 * 32) (fun v8 μ7 => wM_placeInLines_93 l1 ((l2 + l3) - (l2 + l3) / 32 * 32) v8 post μ7) n12 (((l2 + l3) - (l2 + l3) / 32 * 32) + 1) μ))
def wM_placeInLines_15 (l1 : Int32) (t0 : Int32) (post : Int32 → Mem → Prop) (μ : Mem) : Prop :=
  ∃ n13, wM_placeInLines_18 t0 (fun v4 μ3 => wM_placeInLines_43 l1 t0 v4 post μ3) n13 0 μ
def wM_placeInLines (a1 : Int32) (post : Int32 → Mem → Prop) (μ : Mem) : Prop :=
  ((0 ≤ (mI μ 17 13) → wM_placeInLines_15 a1 (mI μ 17 14) post μ) ∧
  (¬ 0 ≤ (mI μ 17 13) → wM_placeInLines_15 a1 0 post μ))
def wM_place_39 (l1 : Int32) (post : Int32 → Mem → Prop) (μ : Mem) : Prop :=
  ((4 < l1 → wM_placeInBlock l1 (fun r2 μ1 => post r2 μ1) μ) ∧
  (¬ 4 < l1 → wM_placeInLines l1 (fun r4 μ3 => post r4 μ3) μ))
def wM_place (a1 : Int32) (post : Int32 → Mem → Prop) (μ : Mem) : Prop :=
  (((mI μ 17 13) < 0 → wM_place_39 a1 post μ) ∧
  (¬ (mI μ 17 13) < 0 → (((4 * (mI μ 17 14)) < ((mI μ 17 15) + a1) → wM_place_39 a1 post μ) ∧
  (¬ (4 * (mI μ 17 14)) < ((mI μ 17 15) + a1) → ∀ μ5, μ5 = sI μ 17 15 ((mI μ 17 15) + a1) →
  post ((mI μ5 17 15) - a1) μ5))))
def wM_objectAt (a1 : Int32) (post : Int32 → Mem → Prop) (μ : Mem) : Prop :=
  ((a1 < 0 → post (-1) μ) ∧
  (¬ a1 < 0 → ((127 < a1 → post (-1) μ) ∧
  (¬ 127 < a1 → vp_in a1 128 ∧ ((0 ≤ (mI μ 18 (a1).toNatClampNeg) → vp_in (mI μ 18 (a1).toNatClampNeg) 256 ∧ (((mI μ 20 (mI μ 18 (a1).toNatClampNeg).toNatClampNeg) = a1 → post (mI μ 18 (a1).toNatClampNeg) μ) ∧
  (¬ (mI μ 20 (mI μ 18 (a1).toNatClampNeg).toNatClampNeg) = a1 → post (-1) μ))) ∧
  (¬ 0 ≤ (mI μ 18 (a1).toNatClampNeg) → post (-1) μ))))))
def wM_addressOf (a1 : Int32) (post : Int32 → Mem → Prop) (μ : Mem) : Prop :=
  ((0 ≤ a1 → vp_in a1 256 ∧ post (mI μ 20 (a1).toNatClampNeg) μ) ∧
  (¬ 0 ≤ a1 → post (-1) μ))
def wM_lay_9 (l1 : Int32) (l2 : Int32) (k : Int32 → Mem → Prop) : Nat → Int32 → Mem → Prop
  | 0, _, _ => False
  | n + 1, l3, μ =>
  vp_in l1 256 ∧ (((mI μ 21 (l1).toNatClampNeg) ≤ l3 → k l3 μ) ∧
  (¬ (mI μ 21 (l1).toNatClampNeg) ≤ l3 → vp_in (l2 + l3) 128 ∧ ∀ μ5, μ5 = sI μ 18 (l2 + l3).toNatClampNeg l1 →
  wM_lay_9 l1 l2 k n (l3 + 1) μ5))
def wM_lay (a1 : Int32) (a2 : Int32) (post : Mem → Prop) (μ : Mem) : Prop :=
  vp_in a1 256 ∧ ∀ μ2, μ2 = sI μ 20 (a1).toNatClampNeg a2 →
  ∃ n8, wM_lay_9 a1 a2 (fun v7 μ6 => post μ6) n8 0 μ2
def wM_lift_7 (l1 : Int32) (l2 : Int32) (k : Int32 → Mem → Prop) : Nat → Int32 → Mem → Prop
  | 0, _, _ => False
  | n + 1, l3, μ =>
  vp_in l1 256 ∧ ((((mI μ 20 (l1).toNatClampNeg) + (mI μ 21 (l1).toNatClampNeg)) ≤ l3 → k l3 μ) ∧
  (¬ ((mI μ 20 (l1).toNatClampNeg) + (mI μ 21 (l1).toNatClampNeg)) ≤ l3 → vp_in l3 128 ∧ ∀ μ4, μ4 = sI μ 18 (l3).toNatClampNeg (-1) →
  vp_in (l3 / 4) 32 ∧ (((mI μ4 29 (l3 / 4).toNatClampNeg) = 0 → ((l2 = 0 → ∀ μ7, μ7 = sI μ4 29 (l3 / 4).toNatClampNeg 0 →
  wM_lift_7 l1 l2 k n (l3 + 1) μ7) ∧
  (¬ l2 = 0 → ∀ μ8, μ8 = sI μ4 29 (l3 / 4).toNatClampNeg 1 →
  wM_lift_7 l1 l2 k n (l3 + 1) μ8))) ∧
  (¬ (mI μ4 29 (l3 / 4).toNatClampNeg) = 0 → ∀ μ6, μ6 = sI μ4 29 (l3 / 4).toNatClampNeg 1 →
  wM_lift_7 l1 l2 k n (l3 + 1) μ6))))
def wM_lift (a1 : Int32) (a2 : Int32) (post : Mem → Prop) (μ : Mem) : Prop :=
  vp_in a1 256 ∧ ∃ n11, wM_lift_7 a1 a2 (fun v10 μ9 => post μ9) n11 (mI μ 20 (a1).toNatClampNeg) μ
def wM_shift (a1 : Int32) (post : Mem → Prop) (μ : Mem) : Prop :=
  vp_in a1 256 ∧ wM_place (mI μ 21 (a1).toNatClampNeg) (fun r3 μ2 => ((r3 < 0 → post μ2) ∧
  (¬ r3 < 0 → wM_lift a1 1 (fun μ4 => wM_lay a1 r3 (fun μ5 => ∀ μ6, μ6 = sI μ5 17 29 ((mI μ5 17 29) + 1) →
  post μ6) μ4) μ2))) μ
def wM_lose (a1 : Int32) (post : Mem → Prop) (μ : Mem) : Prop :=
  vp_in a1 256 ∧ ∀ μ2, μ2 = sI μ 19 (a1).toNatClampNeg 0 →
  wM_lift a1 0 (fun μ3 => post μ3) μ2
def wM_make_0 (k : Mem → Prop) : Nat → Mem → Prop
  | 0, _ => False
  | n + 1, μ =>
  vp_in (mI μ 17 10) 256 ∧ (((mI μ 19 (mI μ 17 10).toNatClampNeg) = 0 → k μ) ∧
  (¬ (mI μ 19 (mI μ 17 10).toNatClampNeg) = 0 → ∀ μ2, μ2 = sI μ 17 10 (((mI μ 17 10) + 1) - ((mI μ 17 10) + 1) / 256 * 256) →
  wM_make_0 k n μ2))
def wM_make_86 (l3 : Int32) (k : Int32 → Mem → Prop) : Nat → Int32 → Mem → Prop
  | 0, _, _ => False
  | n + 1, l4, μ =>
  ((12 ≤ l4 → k l4 μ) ∧
  (¬ 12 ≤ l4 → vp_in ((12 * l3) + l4) 3072 ∧ ∀ μ12, μ12 = sI μ 25 ((12 * l3) + l4).toNatClampNeg (-1) →
  ∀ μ13, μ13 = sI μ12 26 ((12 * l3) + l4).toNatClampNeg 0 →
  wM_make_86 l3 k n (l4 + 1) μ13))
def wM_make (a1 : Int32) (a2 : Int32) (post : Int32 → Mem → Prop) (μ : Mem) : Prop :=
  ∃ n17, wM_make_0 (fun μ3 => ∀ μ4, μ4 = sI μ3 17 10 (((mI μ3 17 10) + 1) - ((mI μ3 17 10) + 1) / 256 * 256) →
  vp_in (mI μ3 17 10) 256 ∧ ∀ μ6, μ6 = sI μ4 19 (mI μ3 17 10).toNatClampNeg 1 →
  ∀ μ7, μ7 = sI μ6 21 (mI μ3 17 10).toNatClampNeg a1 →
  ∀ μ8, μ8 = sI μ7 22 (mI μ3 17 10).toNatClampNeg a2 →
  ∀ μ9, μ9 = sI μ8 23 (mI μ3 17 10).toNatClampNeg 0 →
  ∀ μ10, μ10 = sI μ9 24 (mI μ3 17 10).toNatClampNeg 0 →
  ∃ n16, wM_make_86 (mI μ3 17 10) (fun v15 μ14 => post (mI μ3 17 10) μ14) n16 0 μ10) n17 μ
def wM_isWhite (a1 : Int32) (post : Int32 → Mem → Prop) (μ : Mem) : Prop :=
  ((a1 < 0 → post 0 μ) ∧
  (¬ a1 < 0 → vp_in a1 256 ∧ (((mI μ 19 (a1).toNatClampNeg) = 2 → (((mI μ 24 (a1).toNatClampNeg) = 0 → post 1 μ) ∧
  (¬ (mI μ 24 (a1).toNatClampNeg) = 0 → post 0 μ))) ∧
  (¬ (mI μ 19 (a1).toNatClampNeg) = 2 → post 0 μ))))
def wM_greys_4 (k : Int32 → Int32 → Mem → Prop) : Nat → Int32 → Int32 → Mem → Prop
  | 0, _, _, _ => False
  | n + 1, l1, l2, μ =>
  ((256 ≤ l2 → k l1 l2 μ) ∧
  (¬ 256 ≤ l2 → vp_in l2 256 ∧ (((mI μ 19 (l2).toNatClampNeg) = 2 → (((mI μ 24 (l2).toNatClampNeg) = 1 → wM_greys_4 k n (l1 + 1) (l2 + 1) μ) ∧
  (¬ (mI μ 24 (l2).toNatClampNeg) = 1 → wM_greys_4 k n l1 (l2 + 1) μ))) ∧
  (¬ (mI μ 19 (l2).toNatClampNeg) = 2 → wM_greys_4 k n l1 (l2 + 1) μ))))
def wM_greys (post : Int32 → Mem → Prop) (μ : Mem) : Prop :=
  ∃ n5, wM_greys_4 (fun v3 v4 μ2 => post v3 μ2) n5 0 0 μ
def wM_wait (a1 : Int32) (post : Mem → Prop) (μ : Mem) : Prop :=
  ((a1 < 0 → post μ) ∧
  (¬ a1 < 0 → vp_in (mI μ 17 21) 700 ∧ ∀ μ2, μ2 = sI μ 30 (mI μ 17 21).toNatClampNeg a1 →
  ∀ μ3, μ3 = sI μ2 17 21 ((mI μ2 17 21) + 1) →
  post μ3))
def wM_vanish_2 (l1 : Int32) (k : Int32 → Mem → Prop) : Nat → Int32 → Mem → Prop
  | 0, _, _ => False
  | n + 1, l2, μ =>
  vp_in l1 256 ∧ (((mI μ 21 (l1).toNatClampNeg) ≤ l2 → k l2 μ) ∧
  (¬ (mI μ 21 (l1).toNatClampNeg) ≤ l2 → vp_in ((12 * l1) + l2) 3072 ∧ wM_wait (mI μ 25 ((12 * l1) + l2).toNatClampNeg) (fun μ3 => vp_in l1 256 ∧ (((mI μ3 24 (l1).toNatClampNeg) = 1 → wM_isWhite (mI μ 25 ((12 * l1) + l2).toNatClampNeg) (fun r6 μ5 => ((r6 = 0 → wM_vanish_2 l1 k n (l2 + 1) μ5) ∧
  (¬ r6 = 0 → vp_in (mI μ 25 ((12 * l1) + l2).toNatClampNeg) 256 ∧ ∀ μ8, μ8 = sI μ5 24 (mI μ 25 ((12 * l1) + l2).toNatClampNeg).toNatClampNeg 1 →
  wM_vanish_2 l1 k n (l2 + 1) μ8))) μ3) ∧
  (¬ (mI μ3 24 (l1).toNatClampNeg) = 1 → wM_vanish_2 l1 k n (l2 + 1) μ3))) μ))
def wM_vanish (a1 : Int32) (post : Mem → Prop) (μ : Mem) : Prop :=
  ∃ n12, wM_vanish_2 a1 (fun v10 μ9 => wM_lose a1 (fun μ11 => post μ11) μ9) n12 0 μ
def wM_drainOne_19 (k : Int32 → Mem → Prop) : Nat → Int32 → Mem → Prop
  | 0, _, _ => False
  | n + 1, l2, μ =>
  (((mI μ 17 21) ≤ l2 → k l2 μ) ∧
  (¬ (mI μ 17 21) ≤ l2 → vp_in (l2 + 1) 700 ∧ vp_in l2 700 ∧ ∀ μ5, μ5 = sI μ 30 (l2).toNatClampNeg (mI μ 30 (l2 + 1).toNatClampNeg) →
  wM_drainOne_19 k n (l2 + 1) μ5))
def wM_drainOne (post : Mem → Prop) (μ : Mem) : Prop :=
  vp_in 0 700 ∧ ∀ μ2, μ2 = sI μ 17 21 ((mI μ 17 21) - 1) →
  ∃ n11, wM_drainOne_19 (fun v7 μ6 => vp_in (mI μ 30 (0 : Int32).toNatClampNeg) 256 ∧ (((mI μ6 19 (mI μ 30 (0 : Int32).toNatClampNeg).toNatClampNeg) = 2 → ((3 ≤ (mI μ6 23 (mI μ 30 (0 : Int32).toNatClampNeg).toNatClampNeg) → post μ6) ∧
  (¬ 3 ≤ (mI μ6 23 (mI μ 30 (0 : Int32).toNatClampNeg).toNatClampNeg) → ∀ μ9, μ9 = sI μ6 23 (mI μ 30 (0 : Int32).toNatClampNeg).toNatClampNeg ((mI μ6 23 (mI μ 30 (0 : Int32).toNatClampNeg).toNatClampNeg) - 1) →
  (((mI μ9 23 (mI μ 30 (0 : Int32).toNatClampNeg).toNatClampNeg) = 0 → wM_vanish (mI μ 30 (0 : Int32).toNatClampNeg) (fun μ10 => post μ10) μ9) ∧
  (¬ (mI μ9 23 (mI μ 30 (0 : Int32).toNatClampNeg).toNatClampNeg) = 0 → post μ9))))) ∧
  (¬ (mI μ6 19 (mI μ 30 (0 : Int32).toNatClampNeg).toNatClampNeg) = 2 → post μ6))) n11 0 μ2
def wM_drainAll_0 (k : Mem → Prop) : Nat → Mem → Prop
  | 0, _ => False
  | n + 1, μ =>
  (((mI μ 17 21) ≤ 0 → k μ) ∧
  (¬ (mI μ 17 21) ≤ 0 → wM_drainOne (fun μ1 => wM_drainAll_0 k n μ1) μ))
def wM_drainAll (post : Mem → Prop) (μ : Mem) : Prop :=
  ∃ n3, wM_drainAll_0 (fun μ2 => post μ2) n3 μ
def wM_step_2 (k : Int32 → Mem → Prop) : Nat → Int32 → Mem → Prop
  | 0, _, _ => False
  | n + 1, l1, μ =>
  wM_objectAt l1 (fun r2 μ1 => ((r2 < 0 → wM_step_2 k n (l1 + 1) μ1) ∧
  (¬ r2 < 0 → wM_objectAt l1 (fun r4 μ3 => vp_in r4 256 ∧ (((mI μ3 19 (r4).toNatClampNeg) = 2 → wM_objectAt l1 (fun r7 μ6 => vp_in r7 256 ∧ (((mI μ6 24 (r7).toNatClampNeg) = 1 → k l1 μ6) ∧
  (¬ (mI μ6 24 (r7).toNatClampNeg) = 1 → wM_step_2 k n (l1 + 1) μ6))) μ3) ∧
  (¬ (mI μ3 19 (r4).toNatClampNeg) = 2 → wM_step_2 k n (l1 + 1) μ3))) μ1))) μ
def wM_step_59 (l2 : Int32) (k : Int32 → Mem → Prop) : Nat → Int32 → Mem → Prop
  | 0, _, _ => False
  | n + 1, l3, μ =>
  vp_in l2 256 ∧ (((mI μ 21 (l2).toNatClampNeg) ≤ l3 → k l3 μ) ∧
  (¬ (mI μ 21 (l2).toNatClampNeg) ≤ l3 → vp_in ((12 * l2) + l3) 3072 ∧ wM_isWhite (mI μ 25 ((12 * l2) + l3).toNatClampNeg) (fun r18 μ17 => ((r18 = 0 → wM_step_59 l2 k n (l3 + 1) μ17) ∧
  (¬ r18 = 0 → vp_in (mI μ 25 ((12 * l2) + l3).toNatClampNeg) 256 ∧ ∀ μ20, μ20 = sI μ17 24 (mI μ 25 ((12 * l2) + l3).toNatClampNeg).toNatClampNeg 1 →
  wM_step_59 l2 k n (l3 + 1) μ20))) μ))
def wM_step (post : Mem → Prop) (μ : Mem) : Prop :=
  ∃ n24, wM_step_2 (fun v10 μ9 => wM_objectAt v10 (fun r12 μ11 => vp_in r12 256 ∧ ∀ μ14, μ14 = sI μ11 24 (r12).toNatClampNeg 2 →
  ∃ n23, wM_step_59 r12 (fun v22 μ21 => post μ21) n23 0 μ14) μ9) n24 0 μ
def wM_addSlot (a1 : Int32) (post : Mem → Prop) (μ : Mem) : Prop :=
  vp_in (mI μ 17 26) 400 ∧ ∀ μ2, μ2 = sI μ 33 (mI μ 17 26).toNatClampNeg a1 →
  ∀ μ3, μ3 = sI μ2 17 26 ((mI μ2 17 26) + 1) →
  post μ3
def wM_survive_39 (l1 : Int32) (k : Int32 → Mem → Prop) : Nat → Int32 → Mem → Prop
  | 0, _, _ => False
  | n + 1, l2, μ =>
  vp_in l1 256 ∧ (((mI μ 21 (l1).toNatClampNeg) ≤ l2 → k l2 μ) ∧
  (¬ (mI μ 21 (l1).toNatClampNeg) ≤ l2 → wM_addSlot ((6 + (12 * l1)) + l2) (fun μ8 => wM_survive_39 l1 k n (l2 + 1) μ8) μ))
def wM_survive_31 (l1 : Int32) (t1 : Int32) (t2 : Int32) (post : Mem → Prop) (μ : Mem) : Prop :=
  vp_in t1 256 ∧ ∀ μ5, μ5 = sI μ 24 (t1).toNatClampNeg t2 →
  wM_shift l1 (fun μ6 => ∃ n11, wM_survive_39 l1 (fun v10 μ9 => post μ9) n11 0 μ6) μ5
def wM_survive (a1 : Int32) (post : Mem → Prop) (μ : Mem) : Prop :=
  vp_in a1 256 ∧ ∀ μ2, μ2 = sI μ 19 (a1).toNatClampNeg 2 →
  ∀ μ3, μ3 = sI μ2 23 (a1).toNatClampNeg 1 →
  (((mI μ3 17 27) = 0 → wM_survive_31 a1 a1 0 post μ3) ∧
  (¬ (mI μ3 17 27) = 0 → wM_survive_31 a1 a1 2 post μ3))
def wM_countSlots_7 (k : Int32 → Mem → Prop) : Nat → Int32 → Mem → Prop
  | 0, _, _ => False
  | n + 1, l1, μ =>
  ((6 ≤ l1 → k l1 μ) ∧
  (¬ 6 ≤ l1 → wM_addSlot l1 (fun μ2 => wM_countSlots_7 k n (l1 + 1) μ2) μ))
def wM_countSlots_26 (k : Int32 → Mem → Prop) : Nat → Int32 → Mem → Prop
  | 0, _, _ => False
  | n + 1, l1, μ =>
  (((mI μ 17 24) ≤ l1 → k l1 μ) ∧
  (¬ (mI μ 17 24) ≤ l1 → vp_in l1 160 ∧ wM_addSlot (6 + (mI μ 31 (l1).toNatClampNeg)) (fun μ6 => wM_countSlots_26 k n (l1 + 1) μ6) μ))
def wM_countSlots_150 (l1 : Int32) (l2 : Int32) (l3 : Int32) (k57 : Int32 → Int32 → Mem → Prop) (μ : Mem) : Prop :=
  ((l3 < 0 → k57 l1 (l2 + 1) μ) ∧
  (¬ l3 < 0 → vp_in l3 256 ∧ (((mI μ 19 (l3).toNatClampNeg) = 1 → wM_survive l3 (fun μ12 => k57 (l1 + 1) (l2 + 1) μ12) μ) ∧
  (¬ (mI μ 19 (l3).toNatClampNeg) = 1 → k57 l1 (l2 + 1) μ))))
def wM_countSlots_104 (l1 : Int32) (l2 : Int32) (t0 : Int32) (k57 : Int32 → Int32 → Mem → Prop) (μ : Mem) : Prop :=
  ((t0 < 0 → wM_countSlots_150 l1 l2 t0 k57 μ) ∧
  (¬ t0 < 0 → vp_in t0 256 ∧ (((mI μ 19 (t0).toNatClampNeg) = 2 → ((3 ≤ (mI μ 23 (t0).toNatClampNeg) → ∀ μ14, μ14 = sI μ 23 (t0).toNatClampNeg 3 →
  k57 l1 (l2 + 1) μ14) ∧
  (¬ 3 ≤ (mI μ 23 (t0).toNatClampNeg) → ∀ μ15, μ15 = sI μ 23 (t0).toNatClampNeg ((mI μ 23 (t0).toNatClampNeg) + 1) →
  k57 l1 (l2 + 1) μ15))) ∧
  (¬ (mI μ 19 (t0).toNatClampNeg) = 2 → wM_countSlots_150 l1 l2 t0 k57 μ))))
def wM_countSlots_57 (k : Int32 → Int32 → Mem → Prop) : Nat → Int32 → Int32 → Mem → Prop
  | 0, _, _, _ => False
  | n + 1, l1, l2, μ =>
  (((mI μ 17 26) ≤ l2 → k l1 l2 μ) ∧
  (¬ (mI μ 17 26) ≤ l2 → vp_in l2 400 ∧ ((6 ≤ (mI μ 33 (l2).toNatClampNeg) → vp_in ((mI μ 33 (l2).toNatClampNeg) - 6) 3072 ∧ wM_countSlots_104 l1 l2 (mI μ 25 ((mI μ 33 (l2).toNatClampNeg) - 6).toNatClampNeg) (wM_countSlots_57 k n) μ) ∧
  (¬ 6 ≤ (mI μ 33 (l2).toNatClampNeg) → vp_in (mI μ 33 (l2).toNatClampNeg) 6 ∧ wM_countSlots_104 l1 l2 (mI μ 27 (mI μ 33 (l2).toNatClampNeg).toNatClampNeg) (wM_countSlots_57 k n) μ))))
def wM_countSlots (post : Int32 → Mem → Prop) (μ : Mem) : Prop :=
  ∀ μ1, μ1 = sI μ 17 26 0 →
  ∃ n22, wM_countSlots_7 (fun v4 μ3 => ∃ n21, wM_countSlots_26 (fun v8 μ7 => ∃ n20, wM_countSlots_57 (fun v18 v19 μ17 => post v18 μ17) n20 0 0 μ7) n21 0 μ3) n22 0 μ1
def wM_endStep_2 (k : Int32 → Mem → Prop) : Nat → Int32 → Mem → Prop
  | 0, _, _ => False
  | n + 1, l1, μ =>
  ((32 ≤ l1 → k l1 μ) ∧
  (¬ 32 ≤ l1 → vp_in l1 32 ∧ ∀ μ2, μ2 = sI μ 29 (l1).toNatClampNeg 0 →
  wM_endStep_2 k n (l1 + 1) μ2))
def wM_endStep (post : Mem → Prop) (μ : Mem) : Prop :=
  ∃ n5, wM_endStep_2 (fun v4 μ3 => post μ3) n5 0 μ
def wM_settle_2 (k : Int32 → Mem → Prop) : Nat → Int32 → Mem → Prop
  | 0, _, _ => False
  | n + 1, l1, μ =>
  ((256 ≤ l1 → k l1 μ) ∧
  (¬ 256 ≤ l1 → vp_in l1 256 ∧ (((mI μ 19 (l1).toNatClampNeg) = 1 → wM_lose l1 (fun μ2 => wM_settle_2 k n (l1 + 1) μ2) μ) ∧
  (¬ (mI μ 19 (l1).toNatClampNeg) = 1 → wM_settle_2 k n (l1 + 1) μ))))
def wM_settle_32 (k : Int32 → Mem → Prop) : Nat → Int32 → Mem → Prop
  | 0, _, _ => False
  | n + 1, l1, μ =>
  ((6 ≤ l1 → k l1 μ) ∧
  (¬ 6 ≤ l1 → vp_in l1 6 ∧ wM_wait (mI μ 28 (l1).toNatClampNeg) (fun μ6 => wM_settle_32 k n (l1 + 1) μ6) μ))
def wM_settle_106 (l1 : Int32) (k56 : Int32 → Mem → Prop) (μ : Mem) : Prop :=
  vp_in l1 160 ∧ vp_in (mI μ 31 (l1).toNatClampNeg) 3072 ∧ ∀ μ13, μ13 = sI μ 26 (mI μ 31 (l1).toNatClampNeg).toNatClampNeg 0 →
  k56 (l1 + 1) μ13
def wM_settle_56 (k : Int32 → Mem → Prop) : Nat → Int32 → Mem → Prop
  | 0, _, _ => False
  | n + 1, l1, μ =>
  (((mI μ 17 24) ≤ l1 → k l1 μ) ∧
  (¬ (mI μ 17 24) ≤ l1 → vp_in l1 160 ∧ wM_wait (mI μ 32 (l1).toNatClampNeg) (fun μ10 => (((mI μ10 17 27) = 0 → wM_settle_106 l1 (wM_settle_56 k n) μ10) ∧
  (¬ (mI μ10 17 27) = 0 → vp_in l1 160 ∧ wM_isWhite (mI μ10 32 (l1).toNatClampNeg) (fun r16 μ15 => ((r16 = 0 → wM_settle_106 l1 (wM_settle_56 k n) μ15) ∧
  (¬ r16 = 0 → vp_in l1 160 ∧ vp_in (mI μ15 32 (l1).toNatClampNeg) 256 ∧ ∀ μ19, μ19 = sI μ15 24 (mI μ15 32 (l1).toNatClampNeg).toNatClampNeg 1 →
  wM_settle_106 l1 (wM_settle_56 k n) μ19))) μ10))) μ))
def wM_settle (post : Mem → Prop) (μ : Mem) : Prop :=
  ∃ n25, wM_settle_2 (fun v4 μ3 => ∃ n24, wM_settle_32 (fun v8 μ7 => ∃ n23, wM_settle_56 (fun v21 μ20 => ∀ μ22, μ22 = sI μ20 17 24 0 →
  post μ22) n23 0 μ7) n24 0 μ3) n25 0 μ
def wM_sweep_17 (l2 : Int32) (k : Int32 → Mem → Prop) : Nat → Int32 → Mem → Prop
  | 0, _, _ => False
  | n + 1, l3, μ =>
  wM_isWhite l2 (fun r4 μ3 => ((r4 = 0 → k l3 μ3) ∧
  (¬ r4 = 0 → vp_in l2 256 ∧ (((mI μ3 21 (l2).toNatClampNeg) ≤ l3 → k l3 μ3) ∧
  (¬ (mI μ3 21 (l2).toNatClampNeg) ≤ l3 → vp_in ((12 * l2) + l3) 3072 ∧ (((mI μ3 25 ((12 * l2) + l3).toNatClampNeg) < 0 → wM_sweep_17 l2 k n (l3 + 1) μ3) ∧
  (¬ (mI μ3 25 ((12 * l2) + l3).toNatClampNeg) < 0 → wM_isWhite (mI μ3 25 ((12 * l2) + l3).toNatClampNeg) (fun r8 μ7 => ((r8 = 0 → wM_wait (mI μ3 25 ((12 * l2) + l3).toNatClampNeg) (fun μ9 => wM_sweep_17 l2 k n (l3 + 1) μ9) μ7) ∧
  (¬ r8 = 0 → wM_sweep_17 l2 k n (l3 + 1) μ7))) μ3))))))) μ
def wM_sweep_2 (k : Int32 → Mem → Prop) : Nat → Int32 → Mem → Prop
  | 0, _, _ => False
  | n + 1, l1, μ =>
  ((128 ≤ l1 → k l1 μ) ∧
  (¬ 128 ≤ l1 → wM_objectAt l1 (fun r2 μ1 => ∃ n12, wM_sweep_17 r2 (fun v11 μ10 => wM_sweep_2 k n (l1 + 1) μ10) n12 0 μ1) μ))
def wM_sweep_82 (k : Int32 → Mem → Prop) : Nat → Int32 → Mem → Prop
  | 0, _, _ => False
  | n + 1, l1, μ =>
  ((256 ≤ l1 → k l1 μ) ∧
  (¬ 256 ≤ l1 → wM_isWhite l1 (fun r16 μ15 => ((r16 = 0 → wM_sweep_82 k n (l1 + 1) μ15) ∧
  (¬ r16 = 0 → wM_lose l1 (fun μ17 => ∀ μ18, μ18 = sI μ17 17 30 ((mI μ17 17 30) + 1) →
  wM_sweep_82 k n (l1 + 1) μ18) μ15))) μ))
def wM_sweep (post : Mem → Prop) (μ : Mem) : Prop :=
  ∃ n22, wM_sweep_2 (fun v14 μ13 => ∃ n21, wM_sweep_82 (fun v20 μ19 => post μ19) n21 0 μ13) n22 0 μ
def wM_holders_4 (l1 : Int32) (k : Int32 → Int32 → Mem → Prop) : Nat → Int32 → Int32 → Mem → Prop
  | 0, _, _, _ => False
  | n + 1, l2, l3, μ =>
  ((6 ≤ l3 → k l2 l3 μ) ∧
  (¬ 6 ≤ l3 → vp_in l3 6 ∧ (((mI μ 27 (l3).toNatClampNeg) = l1 → wM_holders_4 l1 k n (l2 + 1) (l3 + 1) μ) ∧
  (¬ (mI μ 27 (l3).toNatClampNeg) = l1 → wM_holders_4 l1 k n l2 (l3 + 1) μ))))
def wM_holders_46 (l1 : Int32) (l3 : Int32) (k : Int32 → Int32 → Mem → Prop) : Nat → Int32 → Int32 → Mem → Prop
  | 0, _, _, _ => False
  | n + 1, l2, l4, μ =>
  vp_in l3 256 ∧ (((mI μ 19 (l3).toNatClampNeg) = 0 → k l2 l4 μ) ∧
  (¬ (mI μ 19 (l3).toNatClampNeg) = 0 → (((mI μ 21 (l3).toNatClampNeg) ≤ l4 → k l2 l4 μ) ∧
  (¬ (mI μ 21 (l3).toNatClampNeg) ≤ l4 → vp_in ((12 * l3) + l4) 3072 ∧ (((mI μ 25 ((12 * l3) + l4).toNatClampNeg) = l1 → wM_holders_46 l1 l3 k n (l2 + 1) (l4 + 1) μ) ∧
  (¬ (mI μ 25 ((12 * l3) + l4).toNatClampNeg) = l1 → wM_holders_46 l1 l3 k n l2 (l4 + 1) μ))))))
def wM_holders_36 (l1 : Int32) (k : Int32 → Int32 → Mem → Prop) : Nat → Int32 → Int32 → Mem → Prop
  | 0, _, _, _ => False
  | n + 1, l2, l3, μ =>
  ((256 ≤ l3 → k l2 l3 μ) ∧
  (¬ 256 ≤ l3 → ∃ n10, wM_holders_46 l1 l3 (fun v8 v9 μ7 => wM_holders_36 l1 k n v8 (l3 + 1) μ7) n10 l2 0 μ))
def wM_holders_104 (l1 : Int32) (k : Int32 → Int32 → Mem → Prop) : Nat → Int32 → Int32 → Mem → Prop
  | 0, _, _, _ => False
  | n + 1, l2, l3, μ =>
  (((mI μ 17 21) ≤ l3 → k l2 l3 μ) ∧
  (¬ (mI μ 17 21) ≤ l3 → vp_in l3 700 ∧ (((mI μ 30 (l3).toNatClampNeg) = l1 → wM_holders_104 l1 k n (l2 + 1) (l3 + 1) μ) ∧
  (¬ (mI μ 30 (l3).toNatClampNeg) = l1 → wM_holders_104 l1 k n l2 (l3 + 1) μ))))
def wM_holders (a1 : Int32) (post : Int32 → Mem → Prop) (μ : Mem) : Prop :=
  ∃ n20, wM_holders_4 a1 (fun v3 v4 μ2 => ∃ n19, wM_holders_36 a1 (fun v12 v13 μ11 => ∃ n18, wM_holders_104 a1 (fun v16 v17 μ15 => post v16 μ15) n18 v12 0 μ11) n19 v3 0 μ2) n20 0 0 μ
def wM_countAnew_2 (k : Int32 → Mem → Prop) : Nat → Int32 → Mem → Prop
  | 0, _, _ => False
  | n + 1, l1, μ =>
  ((128 ≤ l1 → k l1 μ) ∧
  (¬ 128 ≤ l1 → wM_objectAt l1 (fun r2 μ1 => ((r2 < 0 → wM_countAnew_2 k n (l1 + 1) μ1) ∧
  (¬ r2 < 0 → vp_in r2 256 ∧ (((mI μ1 23 (r2).toNatClampNeg) = 3 → wM_holders r2 (fun r5 μ4 => ((3 ≤ r5 → vp_in r2 256 ∧ ∀ μ7, μ7 = sI μ4 23 (r2).toNatClampNeg 3 →
  ((r5 = 0 → wM_vanish r2 (fun μ8 => wM_countAnew_2 k n (l1 + 1) μ8) μ7) ∧
  (¬ r5 = 0 → wM_countAnew_2 k n (l1 + 1) μ7))) ∧
  (¬ 3 ≤ r5 → vp_in r2 256 ∧ ∀ μ10, μ10 = sI μ4 23 (r2).toNatClampNeg r5 →
  ((r5 = 0 → wM_vanish r2 (fun μ11 => wM_countAnew_2 k n (l1 + 1) μ11) μ10) ∧
  (¬ r5 = 0 → wM_countAnew_2 k n (l1 + 1) μ10))))) μ1) ∧
  (¬ (mI μ1 23 (r2).toNatClampNeg) = 3 → wM_countAnew_2 k n (l1 + 1) μ1))))) μ))
def wM_countAnew_68 (k : Int32 → Mem → Prop) : Nat → Int32 → Mem → Prop
  | 0, _, _ => False
  | n + 1, l1, μ =>
  ((256 ≤ l1 → k l1 μ) ∧
  (¬ 256 ≤ l1 → vp_in l1 256 ∧ ∀ μ15, μ15 = sI μ 24 (l1).toNatClampNeg 0 →
  wM_countAnew_68 k n (l1 + 1) μ15))
def wM_countAnew (post : Mem → Prop) (μ : Mem) : Prop :=
  ∃ n19, wM_countAnew_2 (fun v13 μ12 => ∃ n18, wM_countAnew_68 (fun v17 μ16 => post μ16) n18 0 μ12) n19 0 μ
def wM_usedLines_7 (l1 : Int32) (k : Int32 → Int32 → Mem → Prop) : Nat → Int32 → Int32 → Mem → Prop
  | 0, _, _, _ => False
  | n + 1, l2, l3, μ =>
  ((((8 * l1) + 8) ≤ l3 → k l2 l3 μ) ∧
  (¬ ((8 * l1) + 8) ≤ l3 → wM_isUsed l3 (fun r2 μ1 => ((r2 = 0 → wM_usedLines_7 l1 k n l2 (l3 + 1) μ1) ∧
  (¬ r2 = 0 → wM_usedLines_7 l1 k n (l2 + 1) (l3 + 1) μ1))) μ))
def wM_usedLines (a1 : Int32) (post : Int32 → Mem → Prop) (μ : Mem) : Prop :=
  ∃ n6, wM_usedLines_7 a1 (fun v4 v5 μ3 => post v4 μ3) n6 0 (8 * a1) μ
def wM_clearBlock_4 (k : Int32 → Int32 → Mem → Prop) : Nat → Int32 → Int32 → Mem → Prop
  | 0, _, _, _ => False
  | n + 1, l1, l2, μ =>
  ((l2 < 0 → k l1 l2 μ) ∧
  (¬ l2 < 0 → wM_usedLines l2 (fun r2 μ1 => ((r2 ≤ 0 → wM_clearBlock_4 k n l1 (l2 + (-1)) μ1) ∧
  (¬ r2 ≤ 0 → ((4 ≤ r2 → wM_clearBlock_4 k n l1 (l2 + (-1)) μ1) ∧
  (¬ 4 ≤ r2 → ((l1 < 0 → wM_clearBlock_4 k n l2 (l2 + (-1)) μ1) ∧
  (¬ l1 < 0 → wM_usedLines l1 (fun r4 μ3 => ((r4 < r2 → wM_clearBlock_4 k n l1 (l2 + (-1)) μ3) ∧
  (¬ r4 < r2 → wM_clearBlock_4 k n l2 (l2 + (-1)) μ3))) μ1))))))) μ))
def wM_clearBlock_63 (l1 : Int32) (k : Int32 → Mem → Prop) : Nat → Int32 → Mem → Prop
  | 0, _, _ => False
  | n + 1, l2, μ =>
  ((((32 * l1) + 32) ≤ l2 → k l2 μ) ∧
  (¬ ((32 * l1) + 32) ≤ l2 → wM_objectAt l2 (fun r11 μ10 => ((r11 < 0 → wM_clearBlock_63 l1 k n (l2 + 1) μ10) ∧
  (¬ r11 < 0 → wM_shift r11 (fun μ12 => wM_clearBlock_63 l1 k n (l2 + 1) μ12) μ10))) μ))
def wM_clearBlock (post : Mem → Prop) (μ : Mem) : Prop :=
  ∃ n18, wM_clearBlock_4 (fun v6 v7 μ5 => ((0 ≤ v6 → wM_forget (fun μ8 => ∀ μ9, μ9 = sI μ8 17 19 v6 →
  ∃ n17, wM_clearBlock_63 v6 (fun v14 μ13 => ∀ μ15, μ15 = sI μ13 17 19 (-1) →
  wM_endStep (fun μ16 => post μ16) μ15) n17 (32 * v6) μ9) μ5) ∧
  (¬ 0 ≤ v6 → post μ5))) n18 (-1) 3 μ
def wM_halt_119 (k : Int32 → Mem → Prop) : Nat → Int32 → Mem → Prop
  | 0, _, _ => False
  | n + 1, l3, μ =>
  ((6 ≤ l3 → k l3 μ) ∧
  (¬ 6 ≤ l3 → vp_in l3 6 ∧ ∀ μ10, μ10 = sI μ 28 (l3).toNatClampNeg (mI μ 27 (l3).toNatClampNeg) →
  wM_halt_119 k n (l3 + 1) μ10))
def wM_halt_103 (l2 : Int32) (post : Int32 → Mem → Prop) (μ : Mem) : Prop :=
  wM_forget (fun μ7 => ∀ μ8, μ8 = sI μ7 17 28 ((mI μ7 17 28) + 1) →
  ∃ n13, wM_halt_119 (fun v12 μ11 => post l2 μ11) n13 0 μ8) μ
def wM_halt_70 (k : Int32 → Mem → Prop) : Nat → Int32 → Mem → Prop
  | 0, _, _ => False
  | n + 1, l3, μ =>
  ((6 ≤ l3 → k l3 μ) ∧
  (¬ 6 ≤ l3 → vp_in l3 6 ∧ (((mI μ 27 (l3).toNatClampNeg) < 0 → wM_halt_70 k n (l3 + 1) μ) ∧
  (¬ (mI μ 27 (l3).toNatClampNeg) < 0 → vp_in (mI μ 27 (l3).toNatClampNeg) 256 ∧ ∀ μ17, μ17 = sI μ 24 (mI μ 27 (l3).toNatClampNeg).toNatClampNeg 1 →
  wM_halt_70 k n (l3 + 1) μ17))))
def wM_halt_52 (l1 : Int32) (l2 : Int32) (post : Int32 → Mem → Prop) (μ : Mem) : Prop :=
  ((l1 = 0 → wM_halt_103 l2 post μ) ∧
  (¬ l1 = 0 → (((mI μ 17 27) = 0 → ∀ μ14, μ14 = sI μ 17 27 1 →
  ∃ n20, wM_halt_70 (fun v19 μ18 => wM_halt_103 l2 post μ18) n20 0 μ14) ∧
  (¬ (mI μ 17 27) = 0 → wM_halt_103 l2 post μ))))
def wM_halt (a1 : Int32) (post : Int32 → Mem → Prop) (μ : Mem) : Prop :=
  wM_drainAll (fun μ1 => wM_forget (fun μ2 => wM_countSlots (fun r4 μ3 => wM_endStep (fun μ5 => wM_settle (fun μ6 => (((mI μ6 17 27) = 0 → wM_halt_52 a1 r4 post μ6) ∧
  (¬ (mI μ6 17 27) = 0 → wM_greys (fun r22 μ21 => ((r22 = 0 → wM_sweep (fun μ23 => wM_countAnew (fun μ24 => wM_clearBlock (fun μ25 => ∀ μ26, μ26 = sI μ25 17 27 0 →
  wM_halt_52 a1 r4 post μ26) μ24) μ23) μ21) ∧
  (¬ r22 = 0 → wM_halt_52 a1 r4 post μ21))) μ6))) μ5) μ3) μ2) μ1) μ
def wM_collect_6 (k : Mem → Prop) : Nat → Mem → Prop
  | 0, _ => False
  | n + 1, μ =>
  wM_greys (fun r4 μ3 => ((r4 ≤ 0 → k μ3) ∧
  (¬ r4 ≤ 0 → wM_step (fun μ5 => wM_collect_6 k n μ5) μ3))) μ
def wM_collect (post : Mem → Prop) (μ : Mem) : Prop :=
  wM_halt 1 (fun r2 μ1 => ∃ n10, wM_collect_6 (fun μ6 => wM_halt 0 (fun r8 μ7 => wM_drainAll (fun μ9 => post μ9) μ7) μ6) n10 μ1) μ
def wM_isRoot (a1 : Int32) (post : Int32 → Mem → Prop) (μ : Mem) : Prop :=
  ((a1 < 0 → post 0 μ) ∧
  (¬ a1 < 0 → ((6 ≤ a1 → post 0 μ) ∧
  (¬ 6 ≤ a1 → post 1 μ))))
def wM_allocate_59 (l1 : Int32) (l2 : Int32) (l3 : Int32) (l4 : Int32) (post : Int32 → Mem → Prop) (μ : Mem) : Prop :=
  ((0 ≤ l4 → wM_make l2 l3 (fun r7 μ6 => wM_lay r7 l4 (fun μ8 => vp_in l1 6 ∧ ∀ μ10, μ10 = sI μ8 27 (l1).toNatClampNeg r7 →
  post l4 μ10) μ6) μ) ∧
  (¬ 0 ≤ l4 → ∀ μ11, μ11 = sI μ 17 0 2 →
  post 0 μ11))
def wM_allocate_24 (l1 : Int32) (l2 : Int32) (l3 : Int32) (t1 : Int32) (post : Int32 → Mem → Prop) (μ : Mem) : Prop :=
  ∀ μ3, μ3 = sI μ 17 0 t1 →
  (((mI μ3 17 0) ≤ 0 → wM_place l2 (fun r5 μ4 => ((0 ≤ r5 → wM_allocate_59 l1 l2 l3 r5 post μ4) ∧
  (¬ 0 ≤ r5 → wM_collect (fun μ12 => wM_place l2 (fun r14 μ13 => wM_allocate_59 l1 l2 l3 r14 post μ13) μ12) μ4))) μ3) ∧
  (¬ (mI μ3 17 0) ≤ 0 → post 0 μ3))
def wM_allocate_23 (l1 : Int32) (l2 : Int32) (l3 : Int32) (post : Int32 → Mem → Prop) (μ : Mem) : Prop :=
  wM_allocate_24 l1 l2 l3 1 post μ
def wM_allocate (a1 : Int32) (a2 : Int32) (a3 : Int32) (post : Int32 → Mem → Prop) (μ : Mem) : Prop :=
  wM_isRoot a1 (fun r2 μ1 => ((r2 = 0 → wM_allocate_23 a1 a2 a3 post μ1) ∧
  (¬ r2 = 0 → ((a2 < 1 → wM_allocate_23 a1 a2 a3 post μ1) ∧
  (¬ a2 < 1 → ((12 < a2 → wM_allocate_23 a1 a2 a3 post μ1) ∧
  (¬ 12 < a2 → wM_allocate_24 a1 a2 a3 0 post μ1))))))) μ
def wM_drop_13 (l1 : Int32) (t1 : Int32) (post : Mem → Prop) (μ : Mem) : Prop :=
  ∀ μ3, μ3 = sI μ 17 0 t1 →
  (((mI μ3 17 0) = 0 → vp_in l1 6 ∧ ∀ μ5, μ5 = sI μ3 27 (l1).toNatClampNeg (-1) →
  post μ5) ∧
  (¬ (mI μ3 17 0) = 0 → post μ3))
def wM_drop (a1 : Int32) (post : Mem → Prop) (μ : Mem) : Prop :=
  wM_isRoot a1 (fun r2 μ1 => ((r2 = 0 → wM_drop_13 a1 1 post μ1) ∧
  (¬ r2 = 0 → wM_drop_13 a1 0 post μ1))) μ
def wM_copy_20 (l1 : Int32) (l2 : Int32) (t1 : Int32) (post : Mem → Prop) (μ : Mem) : Prop :=
  ∀ μ3, μ3 = sI μ 17 0 t1 →
  (((mI μ3 17 0) = 0 → vp_in l2 6 ∧ vp_in l1 6 ∧ ∀ μ6, μ6 = sI μ3 27 (l1).toNatClampNeg (mI μ3 27 (l2).toNatClampNeg) →
  post μ6) ∧
  (¬ (mI μ3 17 0) = 0 → post μ3))
def wM_copy_19 (l1 : Int32) (l2 : Int32) (post : Mem → Prop) (μ : Mem) : Prop :=
  wM_copy_20 l1 l2 1 post μ
def wM_copy (a1 : Int32) (a2 : Int32) (post : Mem → Prop) (μ : Mem) : Prop :=
  wM_isRoot a1 (fun r2 μ1 => ((r2 = 0 → wM_copy_19 a1 a2 post μ1) ∧
  (¬ r2 = 0 → wM_isRoot a2 (fun r8 μ7 => ((r8 = 0 → wM_copy_19 a1 a2 post μ7) ∧
  (¬ r8 = 0 → wM_copy_20 a1 a2 0 post μ7))) μ1))) μ
def wM_reach_33 (l1 : Int32) (l3 : Int32) (t1 : Int32) (post : Mem → Prop) (μ : Mem) : Prop :=
  ∀ μ3, μ3 = sI μ 17 0 t1 →
  (((mI μ3 17 0) = 0 → ((l3 < 0 → ∀ μ4, μ4 = sI μ3 17 0 3 →
  post μ4) ∧
  (¬ l3 < 0 → vp_in l1 6 ∧ vp_in (mI μ3 27 (l1).toNatClampNeg) 256 ∧ (((mI μ3 21 (mI μ3 27 (l1).toNatClampNeg).toNatClampNeg) ≤ l3 → ∀ μ7, μ7 = sI μ3 17 0 3 →
  post μ7) ∧
  (¬ (mI μ3 21 (mI μ3 27 (l1).toNatClampNeg).toNatClampNeg) ≤ l3 → ∀ μ8, μ8 = sI μ3 17 0 0 →
  post μ8))))) ∧
  (¬ (mI μ3 17 0) = 0 → post μ3))
def wM_reach_15 (l1 : Int32) (l3 : Int32) (post : Mem → Prop) (μ : Mem) : Prop :=
  wM_reach_33 l1 l3 1 post μ
def wM_reach (a1 : Int32) (a2 : Int32) (a3 : Int32) (post : Mem → Prop) (μ : Mem) : Prop :=
  wM_isRoot a1 (fun r2 μ1 => ((r2 = 0 → wM_reach_15 a1 a3 post μ1) ∧
  (¬ r2 = 0 → wM_isRoot a2 (fun r10 μ9 => ((r10 = 0 → wM_reach_15 a1 a3 post μ9) ∧
  (¬ r10 = 0 → vp_in a1 6 ∧ ((0 ≤ (mI μ9 27 (a1).toNatClampNeg) → wM_reach_33 a1 a3 0 post μ9) ∧
  (¬ 0 ≤ (mI μ9 27 (a1).toNatClampNeg) → wM_reach_33 a1 a3 2 post μ9))))) μ1))) μ
def wM_load (a1 : Int32) (a2 : Int32) (a3 : Int32) (post : Int32 → Mem → Prop) (μ : Mem) : Prop :=
  wM_reach a2 a1 a3 (fun μ1 => (((mI μ1 17 0) ≤ 0 → vp_in a2 6 ∧ vp_in ((12 * (mI μ1 27 (a2).toNatClampNeg)) + a3) 3072 ∧ vp_in a1 6 ∧ ∀ μ5, μ5 = sI μ1 27 (a1).toNatClampNeg (mI μ1 25 ((12 * (mI μ1 27 (a2).toNatClampNeg)) + a3).toNatClampNeg) →
  wM_addressOf (mI μ5 27 (a1).toNatClampNeg) (fun r7 μ6 => post r7 μ6) μ5) ∧
  (¬ (mI μ1 17 0) ≤ 0 → post 0 μ1))) μ
def wM_store (a1 : Int32) (a2 : Int32) (a3 : Int32) (post : Mem → Prop) (μ : Mem) : Prop :=
  wM_reach a1 a3 a2 (fun μ1 => (((mI μ1 17 0) ≤ 0 → vp_in a1 6 ∧ vp_in (mI μ1 27 (a1).toNatClampNeg) 256 ∧ (((mI μ1 19 (mI μ1 27 (a1).toNatClampNeg).toNatClampNeg) = 2 → vp_in ((12 * (mI μ1 27 (a1).toNatClampNeg)) + a2) 3072 ∧ (((mI μ1 26 ((12 * (mI μ1 27 (a1).toNatClampNeg)) + a2).toNatClampNeg) = 0 → ∀ μ10, μ10 = sI μ1 26 ((12 * (mI μ1 27 (a1).toNatClampNeg)) + a2).toNatClampNeg 1 →
  vp_in (mI μ10 17 24) 160 ∧ ∀ μ12, μ12 = sI μ10 31 (mI μ10 17 24).toNatClampNeg ((12 * (mI μ1 27 (a1).toNatClampNeg)) + a2) →
  vp_in (mI μ12 17 24) 160 ∧ ∀ μ14, μ14 = sI μ12 32 (mI μ12 17 24).toNatClampNeg (mI μ12 25 ((12 * (mI μ1 27 (a1).toNatClampNeg)) + a2).toNatClampNeg) →
  ∀ μ15, μ15 = sI μ14 17 24 ((mI μ14 17 24) + 1) →
  vp_in a3 6 ∧ ∀ μ17, μ17 = sI μ15 25 ((12 * (mI μ1 27 (a1).toNatClampNeg)) + a2).toNatClampNeg (mI μ15 27 (a3).toNatClampNeg) →
  post μ17) ∧
  (¬ (mI μ1 26 ((12 * (mI μ1 27 (a1).toNatClampNeg)) + a2).toNatClampNeg) = 0 → vp_in a3 6 ∧ ∀ μ9, μ9 = sI μ1 25 ((12 * (mI μ1 27 (a1).toNatClampNeg)) + a2).toNatClampNeg (mI μ1 27 (a3).toNatClampNeg) →
  post μ9))) ∧
  (¬ (mI μ1 19 (mI μ1 27 (a1).toNatClampNeg).toNatClampNeg) = 2 → vp_in a3 6 ∧ vp_in ((12 * (mI μ1 27 (a1).toNatClampNeg)) + a2) 3072 ∧ ∀ μ6, μ6 = sI μ1 25 ((12 * (mI μ1 27 (a1).toNatClampNeg)) + a2).toNatClampNeg (mI μ1 27 (a3).toNatClampNeg) →
  post μ6))) ∧
  (¬ (mI μ1 17 0) ≤ 0 → post μ1))) μ
def wM_drain_15 (l1 : Int32) (k : Int32 → Mem → Prop) : Nat → Int32 → Mem → Prop
  | 0, _, _ => False
  | n + 1, l2, μ =>
  ((l1 ≤ l2 → k l2 μ) ∧
  (¬ l1 ≤ l2 → (((mI μ 17 21) ≤ 0 → k l2 μ) ∧
  (¬ (mI μ 17 21) ≤ 0 → wM_drainOne (fun μ2 => wM_drain_15 l1 k n (l2 + 1) μ2) μ))))
def wM_drain_10 (l1 : Int32) (t1 : Int32) (post : Int32 → Mem → Prop) (μ : Mem) : Prop :=
  ∀ μ1, μ1 = sI μ 17 0 t1 →
  ∃ n5, wM_drain_15 l1 (fun v4 μ3 => (((mI μ3 17 0) ≤ 0 → post (mI μ3 17 21) μ3) ∧
  (¬ (mI μ3 17 0) ≤ 0 → post 0 μ3))) n5 0 μ1
def wM_drain (a1 : Int32) (post : Int32 → Mem → Prop) (μ : Mem) : Prop :=
  ((0 ≤ a1 → wM_drain_10 a1 0 post μ) ∧
  (¬ 0 ≤ a1 → wM_drain_10 a1 1 post μ))
def wM_trace_35 (l1 : Int32) (k : Int32 → Mem → Prop) : Nat → Int32 → Mem → Prop
  | 0, _, _ => False
  | n + 1, l2, μ =>
  ((l1 ≤ l2 → k l2 μ) ∧
  (¬ l1 ≤ l2 → wM_greys (fun r3 μ2 => ((r3 ≤ 0 → k l2 μ2) ∧
  (¬ r3 ≤ 0 → wM_step (fun μ4 => wM_trace_35 l1 k n (l2 + 1) μ4) μ2))) μ))
def wM_trace_21 (l1 : Int32) (t1 : Int32) (post : Int32 → Mem → Prop) (μ : Mem) : Prop :=
  ∀ μ1, μ1 = sI μ 17 0 t1 →
  (((mI μ1 17 0) ≤ 0 → ∃ n9, wM_trace_35 l1 (fun v6 μ5 => wM_greys (fun r8 μ7 => post r8 μ7) μ5) n9 0 μ1) ∧
  (¬ (mI μ1 17 0) ≤ 0 → post 0 μ1))
def wM_trace (a1 : Int32) (post : Int32 → Mem → Prop) (μ : Mem) : Prop :=
  ((0 ≤ a1 → (((mI μ 17 27) = 0 → wM_trace_21 a1 2 post μ) ∧
  (¬ (mI μ 17 27) = 0 → wM_trace_21 a1 0 post μ))) ∧
  (¬ 0 ≤ a1 → wM_trace_21 a1 1 post μ))
def wM_pause (a1 : Int32) (post : Int32 → Mem → Prop) (μ : Mem) : Prop :=
  ∀ μ1, μ1 = sI μ 17 0 0 →
  wM_halt a1 (fun r3 μ2 => post r3 μ2) μ1
def wM_root_13 (l1 : Int32) (t1 : Int32) (post : Int32 → Mem → Prop) (μ : Mem) : Prop :=
  ∀ μ3, μ3 = sI μ 17 0 t1 →
  (((mI μ3 17 0) ≤ 0 → vp_in l1 6 ∧ wM_addressOf (mI μ3 27 (l1).toNatClampNeg) (fun r6 μ5 => post r6 μ5) μ3) ∧
  (¬ (mI μ3 17 0) ≤ 0 → post 0 μ3))
def wM_root (a1 : Int32) (post : Int32 → Mem → Prop) (μ : Mem) : Prop :=
  wM_isRoot a1 (fun r2 μ1 => ((r2 = 0 → wM_root_13 a1 1 post μ1) ∧
  (¬ r2 = 0 → wM_root_13 a1 0 post μ1))) μ
def wM_field_49 (l2 : Int32) (l3 : Int32) (post : Int32 → Mem → Prop) (μ : Mem) : Prop :=
  (((mI μ 17 0) ≤ 0 → vp_in ((12 * l3) + l2) 3072 ∧ wM_addressOf (mI μ 25 ((12 * l3) + l2).toNatClampNeg) (fun r6 μ5 => post r6 μ5) μ) ∧
  (¬ (mI μ 17 0) ≤ 0 → post 0 μ))
def wM_field_46 (l2 : Int32) (l3 : Int32) (t1 : Int32) (post : Int32 → Mem → Prop) (μ : Mem) : Prop :=
  ∀ μ7, μ7 = sI μ 17 0 t1 →
  wM_field_49 l2 l3 post μ7
def wM_field_45 (l2 : Int32) (l3 : Int32) (post : Int32 → Mem → Prop) (μ : Mem) : Prop :=
  wM_field_46 l2 l3 2 post μ
def wM_field_16 (l2 : Int32) (l3 : Int32) (t1 : Int32) (post : Int32 → Mem → Prop) (μ : Mem) : Prop :=
  ∀ μ3, μ3 = sI μ 17 0 t1 →
  (((mI μ3 17 0) = 0 → ((l2 < 0 → wM_field_45 l2 l3 post μ3) ∧
  (¬ l2 < 0 → vp_in l3 256 ∧ (((mI μ3 21 (l3).toNatClampNeg) ≤ l2 → wM_field_45 l2 l3 post μ3) ∧
  (¬ (mI μ3 21 (l3).toNatClampNeg) ≤ l2 → wM_field_46 l2 l3 0 post μ3))))) ∧
  (¬ (mI μ3 17 0) = 0 → wM_field_49 l2 l3 post μ3))
def wM_field (a1 : Int32) (a2 : Int32) (post : Int32 → Mem → Prop) (μ : Mem) : Prop :=
  wM_objectAt a1 (fun r2 μ1 => ((0 ≤ r2 → wM_field_16 a2 r2 0 post μ1) ∧
  (¬ 0 ≤ r2 → wM_field_16 a2 r2 1 post μ1))) μ
def wM_object_29 (l2 : Int32) (l3 : Int32) (t1 : Int32) (post : Int32 → Mem → Prop) (μ : Mem) : Prop :=
  ∀ μ3, μ3 = sI μ 17 0 t1 →
  (((mI μ3 17 0) ≤ 0 → ((l2 = 0 → vp_in l3 256 ∧ post (mI μ3 21 (l3).toNatClampNeg) μ3) ∧
  (¬ l2 = 0 → ((l2 = 1 → vp_in l3 256 ∧ post (mI μ3 22 (l3).toNatClampNeg) μ3) ∧
  (¬ l2 = 1 → ((l2 = 2 → vp_in l3 256 ∧ post (mI μ3 23 (l3).toNatClampNeg) μ3) ∧
  (¬ l2 = 2 → vp_in l3 256 ∧ post (mI μ3 24 (l3).toNatClampNeg) μ3))))))) ∧
  (¬ (mI μ3 17 0) ≤ 0 → post 0 μ3))
def wM_object_16 (l2 : Int32) (l3 : Int32) (post : Int32 → Mem → Prop) (μ : Mem) : Prop :=
  wM_object_29 l2 l3 1 post μ
def wM_object (a1 : Int32) (a2 : Int32) (post : Int32 → Mem → Prop) (μ : Mem) : Prop :=
  wM_objectAt a1 (fun r2 μ1 => ((a2 < 0 → wM_object_16 a2 r2 post μ1) ∧
  (¬ a2 < 0 → ((a2 ≤ 3 → ((0 ≤ r2 → wM_object_29 a2 r2 0 post μ1) ∧
  (¬ 0 ≤ r2 → wM_object_29 a2 r2 2 post μ1))) ∧
  (¬ a2 ≤ 3 → wM_object_16 a2 r2 post μ1))))) μ
def wM_line_16 (l1 : Int32) (t1 : Int32) (post : Int32 → Mem → Prop) (μ : Mem) : Prop :=
  ∀ μ1, μ1 = sI μ 17 0 t1 →
  (((mI μ1 17 0) ≤ 0 → wM_isUsed l1 (fun r3 μ2 => ((r3 = 0 → wM_isTaken l1 (fun r5 μ4 => ((r5 = 0 → post 0 μ4) ∧
  (¬ r5 = 0 → post 2 μ4))) μ2) ∧
  (¬ r3 = 0 → post 1 μ2))) μ1) ∧
  (¬ (mI μ1 17 0) ≤ 0 → post 0 μ1))
def wM_line_15 (l1 : Int32) (post : Int32 → Mem → Prop) (μ : Mem) : Prop :=
  wM_line_16 l1 1 post μ
def wM_line (a1 : Int32) (post : Int32 → Mem → Prop) (μ : Mem) : Prop :=
  ((a1 < 0 → wM_line_15 a1 post μ) ∧
  (¬ a1 < 0 → ((32 ≤ a1 → wM_line_15 a1 post μ) ∧
  (¬ 32 ≤ a1 → wM_line_16 a1 0 post μ))))
def wM_objects_4 (l1 : Int32) (k : Int32 → Int32 → Mem → Prop) : Nat → Int32 → Int32 → Mem → Prop
  | 0, _, _, _ => False
  | n + 1, l2, l3, μ =>
  ((256 ≤ l3 → k l2 l3 μ) ∧
  (¬ 256 ≤ l3 → vp_in l3 256 ∧ (((mI μ 19 (l3).toNatClampNeg) = 1 → wM_objects_4 l1 k n (l2 + 1) (l3 + 1) μ) ∧
  (¬ (mI μ 19 (l3).toNatClampNeg) = 1 → (((mI μ 19 (l3).toNatClampNeg) ≤ l1 → wM_objects_4 l1 k n l2 (l3 + 1) μ) ∧
  (¬ (mI μ 19 (l3).toNatClampNeg) ≤ l1 → wM_objects_4 l1 k n (l2 + 1) (l3 + 1) μ))))))
def wM_objects (a1 : Int32) (post : Int32 → Mem → Prop) (μ : Mem) : Prop :=
  ∃ n5, wM_objects_4 a1 (fun v3 v4 μ2 => post v3 μ2) n5 0 0 μ
def wM_figure_16 (l1 : Int32) (t1 : Int32) (post : Int32 → Mem → Prop) (μ : Mem) : Prop :=
  ∀ μ1, μ1 = sI μ 17 0 t1 →
  ((l1 = 0 → wM_objects 1 (fun r3 μ2 => post r3 μ2) μ1) ∧
  (l1 = 1 → wM_objects 2 (fun r5 μ4 => post r5 μ4) μ1) ∧
  (l1 = 2 → post (mI μ1 17 21) μ1) ∧
  (l1 = 3 → post (mI μ1 17 24) μ1) ∧
  (l1 = 4 → post (mI μ1 17 28) μ1) ∧
  (l1 = 5 → (((mI μ1 17 27) = 0 → post 0 μ1) ∧
  (¬ (mI μ1 17 27) = 0 → post 1 μ1))) ∧
  (l1 = 6 → post (mI μ1 17 29) μ1) ∧
  (l1 = 7 → post (mI μ1 17 30) μ1) ∧
  (l1 = 8 → wM_greys (fun r7 μ6 => post r7 μ6) μ1) ∧
  (¬ l1 = 0 → ¬ l1 = 1 → ¬ l1 = 2 → ¬ l1 = 3 → ¬ l1 = 4 → ¬ l1 = 5 → ¬ l1 = 6 → ¬ l1 = 7 → ¬ l1 = 8 → post 0 μ1))
def wM_figure_15 (l1 : Int32) (post : Int32 → Mem → Prop) (μ : Mem) : Prop :=
  wM_figure_16 l1 1 post μ
def wM_figure (a1 : Int32) (post : Int32 → Mem → Prop) (μ : Mem) : Prop :=
  ((a1 < 0 → wM_figure_15 a1 post μ) ∧
  (¬ a1 < 0 → ((8 < a1 → wM_figure_15 a1 post μ) ∧
  (¬ 8 < a1 → wM_figure_16 a1 0 post μ))))
def wL_allocate (a2 : Int32) (a3 : Int32) (a4 : Int32) (post : Int32 → Mem → Prop) (μ : Mem) : Prop :=
  wC_allocate a2 a3 a4 (fun q5 μ6 => (q5 = 7 → post 1 μ6) ∧ (q5 = 10 → post 2 μ6) ∧ (¬ q5 = 7 → ¬ q5 = 10 → False)) (fun r2 μ1 => vp_in 0 1 ∧ ∀ μ4, μ4 = sI μ1 34 (0 : Int32).toNatClampNeg r2 →
  post 0 μ4) μ
def wL_drop (a2 : Int32) (post : Int32 → Mem → Prop) (μ : Mem) : Prop :=
  wC_drop a2 (fun q2 μ3 => (q2 = 7 → post 1 μ3) ∧ (¬ q2 = 7 → False)) (fun μ1 => post 0 μ1) μ
def wL_copy (a2 : Int32) (a3 : Int32) (post : Int32 → Mem → Prop) (μ : Mem) : Prop :=
  wC_copy a2 a3 (fun q2 μ3 => (q2 = 7 → post 1 μ3) ∧ (¬ q2 = 7 → False)) (fun μ1 => post 0 μ1) μ
def wL_load (a2 : Int32) (a3 : Int32) (a4 : Int32) (post : Int32 → Mem → Prop) (μ : Mem) : Prop :=
  wC_load a2 a3 a4 (fun q5 μ6 => (q5 = 7 → post 1 μ6) ∧ (q5 = 8 → post 2 μ6) ∧ (q5 = 9 → post 3 μ6) ∧ (¬ q5 = 7 → ¬ q5 = 8 → ¬ q5 = 9 → False)) (fun r2 μ1 => vp_in 0 1 ∧ ∀ μ4, μ4 = sI μ1 34 (0 : Int32).toNatClampNeg r2 →
  post 0 μ4) μ
def wL_store (a2 : Int32) (a3 : Int32) (a4 : Int32) (post : Int32 → Mem → Prop) (μ : Mem) : Prop :=
  wC_store a2 a3 a4 (fun q2 μ3 => (q2 = 7 → post 1 μ3) ∧ (q2 = 8 → post 2 μ3) ∧ (q2 = 9 → post 3 μ3) ∧ (¬ q2 = 7 → ¬ q2 = 8 → ¬ q2 = 9 → False)) (fun μ1 => post 0 μ1) μ
def wL_drain (a2 : Int32) (post : Int32 → Mem → Prop) (μ : Mem) : Prop :=
  wC_drain a2 (fun q5 μ6 => (q5 = 7 → post 1 μ6) ∧ (¬ q5 = 7 → False)) (fun r2 μ1 => vp_in 0 1 ∧ ∀ μ4, μ4 = sI μ1 34 (0 : Int32).toNatClampNeg r2 →
  post 0 μ4) μ
def wL_trace (a2 : Int32) (post : Int32 → Mem → Prop) (μ : Mem) : Prop :=
  wC_trace a2 (fun q5 μ6 => (q5 = 7 → post 1 μ6) ∧ (q5 = 8 → post 2 μ6) ∧ (¬ q5 = 7 → ¬ q5 = 8 → False)) (fun r2 μ1 => vp_in 0 1 ∧ ∀ μ4, μ4 = sI μ1 34 (0 : Int32).toNatClampNeg r2 →
  post 0 μ4) μ
def wL_root (a2 : Int32) (post : Int32 → Mem → Prop) (μ : Mem) : Prop :=
  wC_root a2 (fun q5 μ6 => (q5 = 7 → post 1 μ6) ∧ (¬ q5 = 7 → False)) (fun r2 μ1 => vp_in 0 1 ∧ ∀ μ4, μ4 = sI μ1 34 (0 : Int32).toNatClampNeg r2 →
  post 0 μ4) μ
def wL_field (a2 : Int32) (a3 : Int32) (post : Int32 → Mem → Prop) (μ : Mem) : Prop :=
  wC_field a2 a3 (fun q5 μ6 => (q5 = 11 → post 1 μ6) ∧ (q5 = 9 → post 2 μ6) ∧ (¬ q5 = 11 → ¬ q5 = 9 → False)) (fun r2 μ1 => vp_in 0 1 ∧ ∀ μ4, μ4 = sI μ1 34 (0 : Int32).toNatClampNeg r2 →
  post 0 μ4) μ
def wL_object (a2 : Int32) (a3 : Int32) (post : Int32 → Mem → Prop) (μ : Mem) : Prop :=
  wC_object a2 a3 (fun q5 μ6 => (q5 = 7 → post 1 μ6) ∧ (q5 = 11 → post 2 μ6) ∧ (¬ q5 = 7 → ¬ q5 = 11 → False)) (fun r2 μ1 => vp_in 0 1 ∧ ∀ μ4, μ4 = sI μ1 34 (0 : Int32).toNatClampNeg r2 →
  post 0 μ4) μ
def wL_line (a2 : Int32) (post : Int32 → Mem → Prop) (μ : Mem) : Prop :=
  wC_line a2 (fun q5 μ6 => (q5 = 9 → post 1 μ6) ∧ (¬ q5 = 9 → False)) (fun r2 μ1 => vp_in 0 1 ∧ ∀ μ4, μ4 = sI μ1 34 (0 : Int32).toNatClampNeg r2 →
  post 0 μ4) μ
def wL_figure (a2 : Int32) (post : Int32 → Mem → Prop) (μ : Mem) : Prop :=
  wC_figure a2 (fun q5 μ6 => (q5 = 7 → post 1 μ6) ∧ (¬ q5 = 7 → False)) (fun r2 μ1 => vp_in 0 1 ∧ ∀ μ4, μ4 = sI μ1 34 (0 : Int32).toNatClampNeg r2 →
  post 0 μ4) μ
def wL_law_535 (L : Nat) (xs : Nat → Int32) (l4 : Int32) (t1 : Int32) (k23 : Int32 → Mem → Prop) (post : Int32 → Mem → Prop) (μ : Mem) : Prop :=
  wC_pause t1 (fun r75 μ74 => vp_in (l4 + 1) L ∧ (((xs (l4 + 1).toNatClampNeg) = 0 → wM_pause 0 (fun r78 μ77 => ((r75 = r78 → k23 (l4 + 4) μ77) ∧
  (¬ r75 = r78 → post 0 μ77))) μ74) ∧
  (¬ (xs (l4 + 1).toNatClampNeg) = 0 → wM_pause 1 (fun r80 μ79 => ((r75 = r80 → k23 (l4 + 4) μ79) ∧
  (¬ r75 = r80 → post 0 μ79))) μ74))) μ
def wL_law_23 (L : Nat) (xs : Nat → Int32) (k : Int32 → Mem → Prop) (post : Int32 → Mem → Prop) : Nat → Int32 → Mem → Prop
  | 0, _, _ => False
  | n + 1, l4, μ =>
  ((((Int32.ofNat L) - 4) < l4 → k l4 μ) ∧
  (¬ ((Int32.ofNat L) - 4) < l4 → vp_in l4 L ∧ (((xs (l4).toNatClampNeg) &&& 15 = 0 → vp_in (l4 + 1) L ∧ vp_in (l4 + 2) L ∧ vp_in (l4 + 3) L ∧ wL_allocate (xs (l4 + 1).toNatClampNeg) (xs (l4 + 2).toNatClampNeg) (xs (l4 + 3).toNatClampNeg) (fun r6 μ5 => vp_in (l4 + 1) L ∧ vp_in (l4 + 2) L ∧ vp_in (l4 + 3) L ∧ wM_allocate (xs (l4 + 1).toNatClampNeg) (xs (l4 + 2).toNatClampNeg) (xs (l4 + 3).toNatClampNeg) (fun r11 μ10 => wM_thrown (fun r13 μ12 => ((r13 = r6 → ((r6 = 0 → vp_in 0 1 ∧ (((lg_cmp ((mI μ12 34 (0 : Int32).toNatClampNeg).toInt64) r11.toInt64) = 0 → wL_law_23 L xs k post n (l4 + 4) μ12) ∧
  (¬ (lg_cmp ((mI μ12 34 (0 : Int32).toNatClampNeg).toInt64) r11.toInt64) = 0 → post 0 μ12))) ∧
  (¬ r6 = 0 → wL_law_23 L xs k post n (l4 + 4) μ12))) ∧
  (¬ r13 = r6 → post 0 μ12))) μ10) μ5) μ) ∧
  ((xs (l4).toNatClampNeg) &&& 15 = 1 → vp_in (l4 + 1) L ∧ wL_drop (xs (l4 + 1).toNatClampNeg) (fun r17 μ16 => vp_in (l4 + 1) L ∧ wM_drop (xs (l4 + 1).toNatClampNeg) (fun μ19 => wM_thrown (fun r21 μ20 => ((r21 = r17 → wL_law_23 L xs k post n (l4 + 4) μ20) ∧
  (¬ r21 = r17 → post 0 μ20))) μ19) μ16) μ) ∧
  ((xs (l4).toNatClampNeg) &&& 15 = 2 → vp_in (l4 + 1) L ∧ vp_in (l4 + 2) L ∧ wL_copy (xs (l4 + 1).toNatClampNeg) (xs (l4 + 2).toNatClampNeg) (fun r25 μ24 => vp_in (l4 + 1) L ∧ vp_in (l4 + 2) L ∧ wM_copy (xs (l4 + 1).toNatClampNeg) (xs (l4 + 2).toNatClampNeg) (fun μ28 => wM_thrown (fun r30 μ29 => ((r30 = r25 → wL_law_23 L xs k post n (l4 + 4) μ29) ∧
  (¬ r30 = r25 → post 0 μ29))) μ28) μ24) μ) ∧
  ((xs (l4).toNatClampNeg) &&& 15 = 3 → vp_in (l4 + 1) L ∧ vp_in (l4 + 2) L ∧ vp_in (l4 + 3) L ∧ wL_load (xs (l4 + 1).toNatClampNeg) (xs (l4 + 2).toNatClampNeg) (xs (l4 + 3).toNatClampNeg) (fun r35 μ34 => vp_in (l4 + 1) L ∧ vp_in (l4 + 2) L ∧ vp_in (l4 + 3) L ∧ wM_load (xs (l4 + 1).toNatClampNeg) (xs (l4 + 2).toNatClampNeg) (xs (l4 + 3).toNatClampNeg) (fun r40 μ39 => wM_thrown (fun r42 μ41 => ((r42 = r35 → ((r35 = 0 → vp_in 0 1 ∧ (((lg_cmp ((mI μ41 34 (0 : Int32).toNatClampNeg).toInt64) r40.toInt64) = 0 → wL_law_23 L xs k post n (l4 + 4) μ41) ∧
  (¬ (lg_cmp ((mI μ41 34 (0 : Int32).toNatClampNeg).toInt64) r40.toInt64) = 0 → post 0 μ41))) ∧
  (¬ r35 = 0 → wL_law_23 L xs k post n (l4 + 4) μ41))) ∧
  (¬ r42 = r35 → post 0 μ41))) μ39) μ34) μ) ∧
  ((xs (l4).toNatClampNeg) &&& 15 = 4 → vp_in (l4 + 1) L ∧ vp_in (l4 + 2) L ∧ vp_in (l4 + 3) L ∧ wL_store (xs (l4 + 1).toNatClampNeg) (xs (l4 + 2).toNatClampNeg) (xs (l4 + 3).toNatClampNeg) (fun r48 μ47 => vp_in (l4 + 1) L ∧ vp_in (l4 + 2) L ∧ vp_in (l4 + 3) L ∧ wM_store (xs (l4 + 1).toNatClampNeg) (xs (l4 + 2).toNatClampNeg) (xs (l4 + 3).toNatClampNeg) (fun μ52 => wM_thrown (fun r54 μ53 => ((r54 = r48 → wL_law_23 L xs k post n (l4 + 4) μ53) ∧
  (¬ r54 = r48 → post 0 μ53))) μ52) μ47) μ) ∧
  ((xs (l4).toNatClampNeg) &&& 15 = 5 → vp_in (l4 + 1) L ∧ wL_drain (xs (l4 + 1).toNatClampNeg) (fun r57 μ56 => vp_in (l4 + 1) L ∧ wM_drain (xs (l4 + 1).toNatClampNeg) (fun r60 μ59 => wM_thrown (fun r62 μ61 => ((r62 = r57 → ((r57 = 0 → vp_in 0 1 ∧ (((lg_cmp ((mI μ61 34 (0 : Int32).toNatClampNeg).toInt64) r60.toInt64) = 0 → wL_law_23 L xs k post n (l4 + 4) μ61) ∧
  (¬ (lg_cmp ((mI μ61 34 (0 : Int32).toNatClampNeg).toInt64) r60.toInt64) = 0 → post 0 μ61))) ∧
  (¬ r57 = 0 → wL_law_23 L xs k post n (l4 + 4) μ61))) ∧
  (¬ r62 = r57 → post 0 μ61))) μ59) μ56) μ) ∧
  ((xs (l4).toNatClampNeg) &&& 15 = 6 → vp_in (l4 + 1) L ∧ wL_trace (xs (l4 + 1).toNatClampNeg) (fun r66 μ65 => vp_in (l4 + 1) L ∧ wM_trace (xs (l4 + 1).toNatClampNeg) (fun r69 μ68 => wM_thrown (fun r71 μ70 => ((r71 = r66 → ((r66 = 0 → vp_in 0 1 ∧ (((lg_cmp ((mI μ70 34 (0 : Int32).toNatClampNeg).toInt64) r69.toInt64) = 0 → wL_law_23 L xs k post n (l4 + 4) μ70) ∧
  (¬ (lg_cmp ((mI μ70 34 (0 : Int32).toNatClampNeg).toInt64) r69.toInt64) = 0 → post 0 μ70))) ∧
  (¬ r66 = 0 → wL_law_23 L xs k post n (l4 + 4) μ70))) ∧
  (¬ r71 = r66 → post 0 μ70))) μ68) μ65) μ) ∧
  ((xs (l4).toNatClampNeg) &&& 15 = 7 → vp_in (l4 + 1) L ∧ (((xs (l4 + 1).toNatClampNeg) = 0 → wL_law_535 L xs l4 0 (wL_law_23 L xs k post n) post μ) ∧
  (¬ (xs (l4 + 1).toNatClampNeg) = 0 → wL_law_535 L xs l4 1 (wL_law_23 L xs k post n) post μ))) ∧
  ((xs (l4).toNatClampNeg) &&& 15 = 8 → vp_in (l4 + 1) L ∧ wL_root (xs (l4 + 1).toNatClampNeg) (fun r83 μ82 => vp_in (l4 + 1) L ∧ wM_root (xs (l4 + 1).toNatClampNeg) (fun r86 μ85 => wM_thrown (fun r88 μ87 => ((r88 = r83 → ((r83 = 0 → vp_in 0 1 ∧ (((lg_cmp ((mI μ87 34 (0 : Int32).toNatClampNeg).toInt64) r86.toInt64) = 0 → wL_law_23 L xs k post n (l4 + 4) μ87) ∧
  (¬ (lg_cmp ((mI μ87 34 (0 : Int32).toNatClampNeg).toInt64) r86.toInt64) = 0 → post 0 μ87))) ∧
  (¬ r83 = 0 → wL_law_23 L xs k post n (l4 + 4) μ87))) ∧
  (¬ r88 = r83 → post 0 μ87))) μ85) μ82) μ) ∧
  ((xs (l4).toNatClampNeg) &&& 15 = 9 → vp_in (l4 + 1) L ∧ vp_in (l4 + 2) L ∧ wL_field (xs (l4 + 1).toNatClampNeg) (xs (l4 + 2).toNatClampNeg) (fun r93 μ92 => vp_in (l4 + 1) L ∧ vp_in (l4 + 2) L ∧ wM_field (xs (l4 + 1).toNatClampNeg) (xs (l4 + 2).toNatClampNeg) (fun r97 μ96 => wM_thrown (fun r99 μ98 => ((r99 = r93 → ((r93 = 0 → vp_in 0 1 ∧ (((lg_cmp ((mI μ98 34 (0 : Int32).toNatClampNeg).toInt64) r97.toInt64) = 0 → wL_law_23 L xs k post n (l4 + 4) μ98) ∧
  (¬ (lg_cmp ((mI μ98 34 (0 : Int32).toNatClampNeg).toInt64) r97.toInt64) = 0 → post 0 μ98))) ∧
  (¬ r93 = 0 → wL_law_23 L xs k post n (l4 + 4) μ98))) ∧
  (¬ r99 = r93 → post 0 μ98))) μ96) μ92) μ) ∧
  ((xs (l4).toNatClampNeg) &&& 15 = 10 → vp_in (l4 + 1) L ∧ vp_in (l4 + 2) L ∧ wL_object (xs (l4 + 1).toNatClampNeg) (xs (l4 + 2).toNatClampNeg) (fun r104 μ103 => vp_in (l4 + 1) L ∧ vp_in (l4 + 2) L ∧ wM_object (xs (l4 + 1).toNatClampNeg) (xs (l4 + 2).toNatClampNeg) (fun r108 μ107 => wM_thrown (fun r110 μ109 => ((r110 = r104 → ((r104 = 0 → vp_in 0 1 ∧ (((lg_cmp ((mI μ109 34 (0 : Int32).toNatClampNeg).toInt64) r108.toInt64) = 0 → wL_law_23 L xs k post n (l4 + 4) μ109) ∧
  (¬ (lg_cmp ((mI μ109 34 (0 : Int32).toNatClampNeg).toInt64) r108.toInt64) = 0 → post 0 μ109))) ∧
  (¬ r104 = 0 → wL_law_23 L xs k post n (l4 + 4) μ109))) ∧
  (¬ r110 = r104 → post 0 μ109))) μ107) μ103) μ) ∧
  ((xs (l4).toNatClampNeg) &&& 15 = 11 → vp_in (l4 + 1) L ∧ wL_line (xs (l4 + 1).toNatClampNeg) (fun r114 μ113 => vp_in (l4 + 1) L ∧ wM_line (xs (l4 + 1).toNatClampNeg) (fun r117 μ116 => wM_thrown (fun r119 μ118 => ((r119 = r114 → ((r114 = 0 → vp_in 0 1 ∧ (((lg_cmp ((mI μ118 34 (0 : Int32).toNatClampNeg).toInt64) r117.toInt64) = 0 → wL_law_23 L xs k post n (l4 + 4) μ118) ∧
  (¬ (lg_cmp ((mI μ118 34 (0 : Int32).toNatClampNeg).toInt64) r117.toInt64) = 0 → post 0 μ118))) ∧
  (¬ r114 = 0 → wL_law_23 L xs k post n (l4 + 4) μ118))) ∧
  (¬ r119 = r114 → post 0 μ118))) μ116) μ113) μ) ∧
  ((xs (l4).toNatClampNeg) &&& 15 = 12 → vp_in (l4 + 1) L ∧ wL_figure (xs (l4 + 1).toNatClampNeg) (fun r123 μ122 => vp_in (l4 + 1) L ∧ wM_figure (xs (l4 + 1).toNatClampNeg) (fun r126 μ125 => wM_thrown (fun r128 μ127 => ((r128 = r123 → ((r123 = 0 → vp_in 0 1 ∧ (((lg_cmp ((mI μ127 34 (0 : Int32).toNatClampNeg).toInt64) r126.toInt64) = 0 → wL_law_23 L xs k post n (l4 + 4) μ127) ∧
  (¬ (lg_cmp ((mI μ127 34 (0 : Int32).toNatClampNeg).toInt64) r126.toInt64) = 0 → post 0 μ127))) ∧
  (¬ r123 = 0 → wL_law_23 L xs k post n (l4 + 4) μ127))) ∧
  (¬ r128 = r123 → post 0 μ127))) μ125) μ122) μ) ∧
  (¬ (xs (l4).toNatClampNeg) &&& 15 = 0 → ¬ (xs (l4).toNatClampNeg) &&& 15 = 1 → ¬ (xs (l4).toNatClampNeg) &&& 15 = 2 → ¬ (xs (l4).toNatClampNeg) &&& 15 = 3 → ¬ (xs (l4).toNatClampNeg) &&& 15 = 4 → ¬ (xs (l4).toNatClampNeg) &&& 15 = 5 → ¬ (xs (l4).toNatClampNeg) &&& 15 = 6 → ¬ (xs (l4).toNatClampNeg) &&& 15 = 7 → ¬ (xs (l4).toNatClampNeg) &&& 15 = 8 → ¬ (xs (l4).toNatClampNeg) &&& 15 = 9 → ¬ (xs (l4).toNatClampNeg) &&& 15 = 10 → ¬ (xs (l4).toNatClampNeg) &&& 15 = 11 → ¬ (xs (l4).toNatClampNeg) &&& 15 = 12 → wL_law_23 L xs k post n (l4 + 4) μ))))
def wL_law (L : Nat) (xs : Nat → Int32) (post : Int32 → Mem → Prop) (μ : Mem) : Prop :=
  ∃ n132, wL_law_23 L xs (fun v131 μ130 => post 1 μ130) post n132 0 μ
end
section
/-! The machine meets the predicates (written by a program) -/
theorem c_C_isRoot {l : Launch} (hl : l.stackTraces = false) {G : Gl} {a1 : Int32} {post : Int32 → Mem → Prop} {μ : Mem} (h : wC_isRoot a1 post μ) : Ct l G i_C_isRoot [.inl a1] μ (poI post) noX := by
  refine ct_of hl (by decide) (Nat.le_of_ble_eq_true rfl) ?_
  intro K hKl C hE
  clear hl hKl
  replace C : Cx K G prog_1_method_15_code "LineCollector" 1 { frames := 0, cells := 0, slots := 0, locals := 0 } (some .boolean) (poI post) noX := C
  show Rn K G 1 0 [(0, .inl a1)] [] μ 0 0
  unfold wC_isRoot at h
  refine r_iload_n (pc := 0) C d_C_isRoot_0 rfl 0 rfl ?_
  refine r_if_lt (tgt := 14) (pc := 1) C d_C_isRoot_1 (by decide) ?_ ?_
  · intro hc; replace h := h.1 hc
    refine r_iconst (pc := 14) C d_C_isRoot_14 (v := 0) (by decide) ?_
    exact r_zret (pc := 15) C (Or.inl rfl) d_C_isRoot_15 (by decide) (by decide) h
  · intro hc; replace h := h.2 hc
    refine r_iload_n (pc := 4) C d_C_isRoot_4 rfl 0 rfl ?_
    refine r_bipush (pc := 5) C d_C_isRoot_5 (v := 6) (by decide) ?_
    refine r_icmp_ge (tgt := 14) (pc := 7) C d_C_isRoot_7 (by decide) ?_ ?_
    · intro hc; replace h := h.1 hc
      refine r_iconst (pc := 14) C d_C_isRoot_14 (v := 0) (by decide) ?_
      exact r_zret (pc := 15) C (Or.inl rfl) d_C_isRoot_15 (by decide) (by decide) h
    · intro hc; replace h := h.2 hc
      refine r_iconst (pc := 10) C d_C_isRoot_10 (v := 1) (by decide) ?_
      refine r_goto (tgt := 15) (pc := 11) C d_C_isRoot_11 (by decide) ?_
      exact r_zret (pc := 15) C (Or.inr rfl) d_C_isRoot_15 (by decide) (by decide) h
theorem c_S_has {l : Launch} (hl : l.stackTraces = false) {G : Gl} {x : Nat} {a1 : Int32} {post : Int32 → Mem → Prop} {μ : Mem} (h : wS_has x a1 post μ) : Ct l G i_S_has [.inr (.inl (some x)), .inl a1] μ (poI post) noX := by
  refine ct_of hl (by decide) (Nat.le_of_ble_eq_true rfl) ?_
  intro K hKl C hE
  clear hl hKl
  replace C : Cx K G prog_6_method_3_code "LineCollector$Span" 2 { frames := 0, cells := 0, slots := 0, locals := 0 } (some .boolean) (poI post) noX := C
  show Rn K G 2 0 [(0, .inr (.inl (some x))), (1, .inl a1)] [] μ 0 0
  unfold wS_has at h
  refine r_aload_n (pc := 0) C d_S_has_0 rfl 0 rfl ?_
  obtain ⟨o1, h⟩ := h
  refine r_getI (pc := 1) (ci := 2) C rfl 2 (by decide) (k_41 C.w) rfl (ok_O o1) d_S_has_1 ?_
  refine r_aload_n (pc := 4) C d_S_has_4 rfl 0 rfl ?_
  refine r_getI (pc := 5) (ci := 2) C rfl 1 (by decide) (k_40 C.w) rfl (ok_O o1) d_S_has_5 ?_
  refine r_isub (pc := 8) C d_S_has_8 ?_
  refine r_iload_n (pc := 9) C d_S_has_9 rfl 1 rfl ?_
  refine r_icmp_lt (tgt := 17) (pc := 10) C d_S_has_10 (by decide) ?_ ?_
  · intro hc; replace h := h.1 hc
    refine r_iconst (pc := 17) C d_S_has_17 (v := 0) (by decide) ?_
    exact r_zret (pc := 18) C (Or.inl rfl) d_S_has_18 (by decide) (by decide) h
  · intro hc; replace h := h.2 hc
    refine r_iconst (pc := 13) C d_S_has_13 (v := 1) (by decide) ?_
    refine r_goto (tgt := 18) (pc := 14) C d_S_has_14 (by decide) ?_
    exact r_zret (pc := 18) C (Or.inr rfl) d_S_has_18 (by decide) (by decide) h
theorem c_S_take {l : Launch} (hl : l.stackTraces = false) {G : Gl} {x : Nat} {a1 : Int32} {post : Int32 → Mem → Prop} {μ : Mem} (h : wS_take x a1 post μ) : Ct l G i_S_take [.inr (.inl (some x)), .inl a1] μ (poI post) noX := by
  refine ct_of hl (by decide) (Nat.le_of_ble_eq_true rfl) ?_
  intro K hKl C hE
  clear hl hKl
  replace C : Cx K G prog_6_method_4_code "LineCollector$Span" 3 { frames := 0, cells := 0, slots := 0, locals := 0 } (some .int) (poI post) noX := C
  show Rn K G 3 0 [(0, .inr (.inl (some x))), (1, .inl a1)] [] μ 0 0
  unfold wS_take at h
  refine r_aload_n (pc := 0) C d_S_take_0 rfl 0 rfl ?_
  obtain ⟨o1, h⟩ := h
  refine r_getI (pc := 1) (ci := 2) C rfl 1 (by decide) (k_40 C.w) rfl (ok_O o1) d_S_take_1 ?_
  refine r_istore_n (pc := 4) (lv' := [(0, .inr (.inl (some x))), (1, .inl a1)]) C d_S_take_4 rfl (by decide) rfl ?_
  refine r_aload_n (pc := 5) C d_S_take_5 rfl 1 rfl ?_
  refine r_dupR (pc := 6) C d_S_take_6 ?_
  refine r_getI (pc := 7) (ci := 2) C rfl 1 (by decide) (k_40 C.w) rfl (ok_O o1) d_S_take_7 ?_
  refine r_iload_n (pc := 10) C d_S_take_10 rfl 2 rfl ?_
  refine r_iadd (pc := 11) C d_S_take_11 ?_
  refine r_putI (pc := 12) (ci := 2) C rfl 1 (by decide) (k_40 C.w) rfl rfl p_I (ok_O o1) d_S_take_12 ?_
  intro μ2 eμ2; replace h := h μ2 eμ2
  refine r_iload_n (pc := 15) C d_S_take_15 rfl 0 rfl ?_
  exact r_iret (pc := 16) C d_S_take_16 (by decide) (by decide) h
theorem c_S_covers {l : Launch} (hl : l.stackTraces = false) {G : Gl} {x : Nat} {a1 : Int32} {post : Int32 → Mem → Prop} {μ : Mem} (h : wS_covers x a1 post μ) : Ct l G i_S_covers [.inr (.inl (some x)), .inl a1] μ (poI post) noX := by
  refine ct_of hl (by decide) (Nat.le_of_ble_eq_true rfl) ?_
  intro K hKl C hE
  clear hl hKl
  replace C : Cx K G prog_6_method_5_code "LineCollector$Span" 2 { frames := 0, cells := 0, slots := 0, locals := 0 } (some .boolean) (poI post) noX := C
  show Rn K G 2 0 [(0, .inr (.inl (some x))), (1, .inl a1)] [] μ 0 0
  unfold wS_covers at h
  refine r_iload_n (pc := 0) C d_S_covers_0 rfl 1 rfl ?_
  refine r_iconst (pc := 1) C d_S_covers_1 (v := 4) (by decide) ?_
  refine r_imul (pc := 2) C d_S_covers_2 ?_
  refine r_aload_n (pc := 3) C d_S_covers_3 rfl 0 rfl ?_
  obtain ⟨o1, h⟩ := h
  refine r_getI (pc := 4) (ci := 2) C rfl 0 (by decide) (k_39 C.w) rfl (ok_O o1) d_S_covers_4 ?_
  refine r_icmp_lt (tgt := 24) (pc := 7) C d_S_covers_7 (by decide) ?_ ?_
  · intro hc; replace h := h.1 hc
    refine r_iconst (pc := 24) C d_S_covers_24 (v := 0) (by decide) ?_
    exact r_zret (pc := 25) C (Or.inl rfl) d_S_covers_25 (by decide) (by decide) h
  · intro hc; replace h := h.2 hc
    refine r_iload_n (pc := 10) C d_S_covers_10 rfl 1 rfl ?_
    refine r_iconst (pc := 11) C d_S_covers_11 (v := 4) (by decide) ?_
    refine r_imul (pc := 12) C d_S_covers_12 ?_
    refine r_aload_n (pc := 13) C d_S_covers_13 rfl 0 rfl ?_
    refine r_getI (pc := 14) (ci := 2) C rfl 2 (by decide) (k_41 C.w) rfl (ok_O o1) d_S_covers_14 ?_
    refine r_icmp_ge (tgt := 24) (pc := 17) C d_S_covers_17 (by decide) ?_ ?_
    · intro hc; replace h := h.1 hc
      refine r_iconst (pc := 24) C d_S_covers_24 (v := 0) (by decide) ?_
      exact r_zret (pc := 25) C (Or.inl rfl) d_S_covers_25 (by decide) (by decide) h
    · intro hc; replace h := h.2 hc
      refine r_iconst (pc := 20) C d_S_covers_20 (v := 1) (by decide) ?_
      refine r_goto (tgt := 25) (pc := 21) C d_S_covers_21 (by decide) ?_
      exact r_zret (pc := 25) C (Or.inr rfl) d_S_covers_25 (by decide) (by decide) h
theorem c_P_isFree {l : Launch} (hl : l.stackTraces = false) {G : Gl} {a1 : Int32} {post : Int32 → Mem → Prop} {μ : Mem} (h : wP_isFree a1 post μ) : Ct l G i_P_isFree [.inr (.inl (some 4)), .inl a1] μ (poI post) noX := by
  refine ct_of hl (by decide) (Nat.le_of_ble_eq_true rfl) ?_
  intro K hKl C hE
  clear hl hKl
  replace C : Cx K G prog_4_method_3_code "LineCollector$Places" 2 { frames := 1, cells := 0, slots := 0, locals := 21 } (some .boolean) (poI post) noX := C
  show Rn K G 2 0 [(0, .inr (.inl (some 4))), (1, .inl a1)] [] μ 0 0
  unfold wP_isFree at h
  refine r_aload_n (pc := 0) C d_P_isFree_0 rfl 0 rfl ?_
  refine r_getR (pc := 1) (ci := 1) C rfl 0 (by decide) (k_51 C.w) rfl (lay_O rfl) d_P_isFree_1 ?_
  refine r_iload_n (pc := 4) C d_P_isFree_4 rfl 1 rfl ?_
  obtain ⟨b1, h⟩ := h
  refine r_iald (pc := 5) C (lay_A rfl) b1 d_P_isFree_5 ?_
  refine r_if_ne (tgt := 55) (pc := 6) C d_P_isFree_6 (by decide) ?_ ?_
  · intro hc; replace h := h.2 hc
    refine r_iconst (pc := 55) C d_P_isFree_55 (v := 0) (by decide) ?_
    exact r_zret (pc := 56) C (Or.inl rfl) d_P_isFree_56 (by decide) (by decide) h
  · intro hc; replace h := h.1 hc
    refine r_aload_n (pc := 9) C d_P_isFree_9 rfl 0 rfl ?_
    refine r_getR (pc := 10) (ci := 1) C rfl 1 (by decide) (k_52 C.w) rfl (lay_O rfl) d_P_isFree_10 ?_
    refine r_iload_n (pc := 13) C d_P_isFree_13 rfl 1 rfl ?_
    refine r_zald (pc := 14) C (lay_A rfl) b1 d_P_isFree_14 ?_
    refine r_if_ne (tgt := 55) (pc := 15) C d_P_isFree_15 (by decide) ?_ ?_
    · intro hc; replace h := h.2 hc
      refine r_iconst (pc := 55) C d_P_isFree_55 (v := 0) (by decide) ?_
      exact r_zret (pc := 56) C (Or.inl rfl) d_P_isFree_56 (by decide) (by decide) h
    · intro hc; replace h := h.1 hc
      refine r_iload_n (pc := 18) C d_P_isFree_18 rfl 1 rfl ?_
      refine r_bipush (pc := 19) C d_P_isFree_19 (v := 8) (by decide) ?_
      refine r_idiv (pc := 21) C d_P_isFree_21 (by decide) ?_
      refine r_aload_n (pc := 22) C d_P_isFree_22 rfl 0 rfl ?_
      refine r_getI (pc := 23) (ci := 1) C rfl 4 (by decide) (k_55 C.w) rfl (lay_O rfl) d_P_isFree_23 ?_
      refine r_icmp_eq (tgt := 55) (pc := 26) C d_P_isFree_26 (by decide) ?_ ?_
      · intro hc; replace h := h.1 hc
        refine r_iconst (pc := 55) C d_P_isFree_55 (v := 0) (by decide) ?_
        exact r_zret (pc := 56) C (Or.inl rfl) d_P_isFree_56 (by decide) (by decide) h
      · intro hc; replace h := h.2 hc
        refine r_aload_n (pc := 29) C d_P_isFree_29 rfl 0 rfl ?_
        refine r_getR (pc := 30) (ci := 1) C rfl 2 (by decide) (k_53 C.w) rfl (lay_O rfl) d_P_isFree_30 ?_
        refine r_iload_n (pc := 33) C d_P_isFree_33 rfl 1 rfl ?_
        refine r_cVi (pc := 34) (a' := 0) (b' := 0) (As := [.inl a1]) (ci := 2) C (c_S_covers C.s h) o_S_covers rfl (lay_O rfl) (k_241 C.w) rfl ⟨by decide, by decide, by decide, by decide⟩ rfl rfl (Nat.le_of_ble_eq_true rfl) d_P_isFree_34 rfl ?_
        intro r3 μ2 h
        refine r_if_ne (tgt := 55) (pc := 37) C d_P_isFree_37 (by decide) ?_ ?_
        · intro hc; replace h := h.2 hc
          refine r_iconst (pc := 55) C d_P_isFree_55 (v := 0) (by decide) ?_
          exact r_zret (pc := 56) C (Or.inl rfl) d_P_isFree_56 (by decide) (by decide) h
        · intro hc; replace h := h.1 hc
          refine r_aload_n (pc := 40) C d_P_isFree_40 rfl 0 rfl ?_
          refine r_getR (pc := 41) (ci := 1) C rfl 3 (by decide) (k_54 C.w) rfl (lay_O rfl) d_P_isFree_41 ?_
          refine r_iload_n (pc := 44) C d_P_isFree_44 rfl 1 rfl ?_
          refine r_cVi (pc := 45) (a' := 0) (b' := 0) (As := [.inl a1]) (ci := 2) C (c_S_covers C.s h) o_S_covers rfl (lay_O rfl) (k_241 C.w) rfl ⟨by decide, by decide, by decide, by decide⟩ rfl rfl (Nat.le_of_ble_eq_true rfl) d_P_isFree_45 rfl ?_
          intro r5 μ4 h
          refine r_if_ne (tgt := 55) (pc := 48) C d_P_isFree_48 (by decide) ?_ ?_
          · intro hc; replace h := h.2 hc
            refine r_iconst (pc := 55) C d_P_isFree_55 (v := 0) (by decide) ?_
            exact r_zret (pc := 56) C (Or.inl rfl) d_P_isFree_56 (by decide) (by decide) h
          · intro hc; replace h := h.1 hc
            refine r_iconst (pc := 51) C d_P_isFree_51 (v := 1) (by decide) ?_
            refine r_goto (tgt := 56) (pc := 52) C d_P_isFree_52 (by decide) ?_
            exact r_zret (pc := 56) C (Or.inr rfl) d_P_isFree_56 (by decide) (by decide) h
theorem c_S_open {l : Launch} (hl : l.stackTraces = false) {G : Gl} {x : Nat} {a1 : Int32} {a2 : Int32} {post : Mem → Prop} {μ : Mem} (h : wS_open x a1 a2 post μ) : Ct l G i_S_open [.inr (.inl (some x)), .inl a1, .inl a2] μ (poV post) noX := by
  refine ct_of hl (by decide) (Nat.le_of_ble_eq_true rfl) ?_
  intro K hKl C hE
  clear hl hKl
  replace C : Cx K G prog_6_method_2_code "LineCollector$Span" 3 { frames := 0, cells := 0, slots := 0, locals := 0 } (none) (poV post) noX := C
  show Rn K G 3 0 [(0, .inr (.inl (some x))), (1, .inl a1), (2, .inl a2)] [] μ 0 0
  unfold wS_open at h
  refine r_aload_n (pc := 0) C d_S_open_0 rfl 0 rfl ?_
  refine r_iload_n (pc := 1) C d_S_open_1 rfl 1 rfl ?_
  refine r_iconst (pc := 2) C d_S_open_2 (v := 4) (by decide) ?_
  refine r_imul (pc := 3) C d_S_open_3 ?_
  obtain ⟨o1, h⟩ := h
  refine r_putI (pc := 4) (ci := 2) C rfl 0 (by decide) (k_39 C.w) rfl rfl p_I (ok_O o1) d_S_open_4 ?_
  intro μ2 eμ2; replace h := h μ2 eμ2
  refine r_aload_n (pc := 7) C d_S_open_7 rfl 0 rfl ?_
  refine r_aload_n (pc := 8) C d_S_open_8 rfl 0 rfl ?_
  refine r_getI (pc := 9) (ci := 2) C rfl 0 (by decide) (k_39 C.w) rfl (ok_O (ok_s eμ2 o1)) d_S_open_9 ?_
  refine r_putI (pc := 12) (ci := 2) C rfl 1 (by decide) (k_40 C.w) rfl rfl p_I (ok_O (ok_s eμ2 o1)) d_S_open_12 ?_
  intro μ3 eμ3; replace h := h μ3 eμ3
  refine r_aload_n (pc := 15) C d_S_open_15 rfl 0 rfl ?_
  refine r_iload_n (pc := 16) C d_S_open_16 rfl 2 rfl ?_
  refine r_iconst (pc := 17) C d_S_open_17 (v := 4) (by decide) ?_
  refine r_imul (pc := 18) C d_S_open_18 ?_
  refine r_putI (pc := 19) (ci := 2) C rfl 2 (by decide) (k_41 C.w) rfl rfl p_I (ok_O (ok_s eμ3 (ok_s eμ2 o1))) d_S_open_19 ?_
  intro μ4 eμ4; replace h := h μ4 eμ4
  exact r_vret (pc := 22) C d_S_open_22 (by decide) (by decide) h
theorem c_P_openOverflow {l : Launch} (hl : l.stackTraces = false) {G : Gl} {post : Int32 → Mem → Prop} {μ : Mem} (h : wP_openOverflow post μ) : Ct l G i_P_openOverflow [.inr (.inl (some 4))] μ (poI post) noX := by
  refine ct_of hl (by decide) (Nat.le_of_ble_eq_true rfl) ?_
  intro K hKl C hE
  clear hl hKl
  replace C : Cx K G prog_4_method_12_code "LineCollector$Places" 4 { frames := 2, cells := 0, slots := 0, locals := 42 } (some .boolean) (poI post) noX := C
  show Rn K G 4 0 [(0, .inr (.inl (some 4)))] [] μ 0 0
  have L_14 : ∀ (l1 : Int32) (k : Int32 → Int32 → Mem → Prop), (∀ (v2 : Int32) (v3 : Int32) (μ : Mem), k v2 v3 μ → Rn K G 4 41 [(0, .inr (.inl (some 4))), (1, .inl l1), (2, .inl v2)] [] μ 0 0) → ∀ (n : Nat) (l2 : Int32) (l3 : Int32) (μ : Mem), wP_openOverflow_14 l1 k n l2 l3 μ → Rn K G 4 14 [(0, .inr (.inl (some 4))), (1, .inl l1), (2, .inl l2), (3, .inl l3)] [] μ 0 0 := by
    intro l1 k hk n
    induction n with
    | zero => intro l2 l3 μ h; exact h.elim
    | succ n ih =>
      intro l2 l3 μ h
      unfold wP_openOverflow_14 at h
      refine r_iload_n (pc := 14) C d_P_openOverflow_14 rfl 3 rfl ?_
      refine r_iload_n (pc := 15) C d_P_openOverflow_15 rfl 1 rfl ?_
      refine r_iconst (pc := 16) C d_P_openOverflow_16 (v := 1) (by decide) ?_
      refine r_iadd (pc := 17) C d_P_openOverflow_17 ?_
      refine r_bipush (pc := 18) C d_P_openOverflow_18 (v := 8) (by decide) ?_
      refine r_imul (pc := 20) C d_P_openOverflow_20 ?_
      refine r_icmp_ge (tgt := 41) (pc := 21) C d_P_openOverflow_21 (by decide) ?_ ?_
      · intro hc; replace h := h.1 hc
        refine r_sub [0, 1, 2] rfl ?_
        exact hk l2 l3 μ h
      · intro hc; replace h := h.2 hc
        refine r_aload_n (pc := 24) C d_P_openOverflow_24 rfl 0 rfl ?_
        refine r_iload_n (pc := 25) C d_P_openOverflow_25 rfl 3 rfl ?_
        refine r_cVi (pc := 26) (a' := 0) (b' := 0) (As := [.inl l3]) (ci := 1) C (c_P_isFree C.s h) o_P_isFree rfl (lay_O rfl) (k_237 C.w) rfl ⟨by decide, by decide, by decide, by decide⟩ rfl rfl (Nat.le_of_ble_eq_true rfl) d_P_openOverflow_26 rfl ?_
        intro r2 μ1 h
        refine r_if_eq (tgt := 35) (pc := 29) C d_P_openOverflow_29 (by decide) ?_ ?_
        · intro hc; replace h := h.1 hc
          refine r_iinc (pc := 35) (v := 1) (lv' := [(0, .inr (.inl (some 4))), (1, .inl l1), (2, .inl l2)]) C d_P_openOverflow_35 3 rfl (by decide) (by decide) rfl ?_
          refine r_goto (tgt := 14) (pc := 38) C d_P_openOverflow_38 (by decide) ?_
          refine r_sub [1, 2, 3, 0] rfl ?_
          exact ih l2 (l3 + 1) μ1 h
        · intro hc; replace h := h.2 hc
          refine r_iinc (pc := 32) (v := 1) (lv' := [(0, .inr (.inl (some 4))), (1, .inl l1), (3, .inl l3)]) C d_P_openOverflow_32 2 rfl (by decide) (by decide) rfl ?_
          refine r_iinc (pc := 35) (v := 1) (lv' := [(2, .inl (l2 + 1)), (0, .inr (.inl (some 4))), (1, .inl l1)]) C d_P_openOverflow_35 3 rfl (by decide) (by decide) rfl ?_
          refine r_goto (tgt := 14) (pc := 38) C d_P_openOverflow_38 (by decide) ?_
          refine r_sub [2, 3, 1, 0] rfl ?_
          exact ih (l2 + 1) (l3 + 1) μ1 h
  have L_2 : ∀ (k : Int32 → Mem → Prop), (∀ (v1 : Int32) (μ : Mem), k v1 μ → Rn K G 4 72 [] [] μ 0 0) → ∀ (n : Nat) (l1 : Int32) (μ : Mem), wP_openOverflow_2 k post n l1 μ → Rn K G 4 2 [(0, .inr (.inl (some 4))), (1, .inl l1)] [] μ 0 0 := by
    intro k hk n
    induction n with
    | zero => intro l1 μ h; exact h.elim
    | succ n ih =>
      intro l1 μ h
      unfold wP_openOverflow_2 at h
      refine r_iload_n (pc := 2) C d_P_openOverflow_2 rfl 1 rfl ?_
      refine r_iconst (pc := 3) C d_P_openOverflow_3 (v := 4) (by decide) ?_
      refine r_icmp_ge (tgt := 72) (pc := 4) C d_P_openOverflow_4 (by decide) ?_ ?_
      · intro hc; replace h := h.1 hc
        refine r_sub [] rfl ?_
        exact hk l1 μ h
      · intro hc; replace h := h.2 hc
        refine r_iconst (pc := 7) C d_P_openOverflow_7 (v := 0) (by decide) ?_
        refine r_istore_n (pc := 8) (lv' := [(0, .inr (.inl (some 4))), (1, .inl l1)]) C d_P_openOverflow_8 rfl (by decide) rfl ?_
        refine r_iload_n (pc := 9) C d_P_openOverflow_9 rfl 2 rfl ?_
        refine r_bipush (pc := 10) C d_P_openOverflow_10 (v := 8) (by decide) ?_
        refine r_imul (pc := 12) C d_P_openOverflow_12 ?_
        refine r_istore_n (pc := 13) (lv' := [(2, .inl 0), (0, .inr (.inl (some 4))), (1, .inl l1)]) C d_P_openOverflow_13 rfl (by decide) rfl ?_
        obtain ⟨n7, h⟩ := h
        refine r_sub [2, 3, 1, 0] rfl ?_
        refine L_14 l1 _ ?_ n7 0 (l1 * 8) μ h
        intro v4 v5 μ3 h
        refine r_iload_n (pc := 41) C d_P_openOverflow_41 rfl 2 rfl ?_
        refine r_bipush (pc := 42) C d_P_openOverflow_42 (v := 8) (by decide) ?_
        refine r_icmp_ne (tgt := 66) (pc := 44) C d_P_openOverflow_44 (by decide) ?_ ?_
        · intro hc; replace h := h.2 hc
          refine r_iinc (pc := 66) (v := 1) (lv' := [(0, .inr (.inl (some 4))), (2, .inl v4)]) C d_P_openOverflow_66 1 rfl (by decide) (by decide) rfl ?_
          refine r_goto (tgt := 2) (pc := 69) C d_P_openOverflow_69 (by decide) ?_
          refine r_sub [1, 0] rfl ?_
          exact ih (l1 + 1) μ3 h
        · intro hc; replace h := h.1 hc
          refine r_aload_n (pc := 47) C d_P_openOverflow_47 rfl 0 rfl ?_
          refine r_getR (pc := 48) (ci := 1) C rfl 3 (by decide) (k_54 C.w) rfl (lay_O rfl) d_P_openOverflow_48 ?_
          refine r_iload_n (pc := 51) C d_P_openOverflow_51 rfl 1 rfl ?_
          refine r_bipush (pc := 52) C d_P_openOverflow_52 (v := 8) (by decide) ?_
          refine r_imul (pc := 54) C d_P_openOverflow_54 ?_
          refine r_iload_n (pc := 55) C d_P_openOverflow_55 rfl 1 rfl ?_
          refine r_iconst (pc := 56) C d_P_openOverflow_56 (v := 1) (by decide) ?_
          refine r_iadd (pc := 57) C d_P_openOverflow_57 ?_
          refine r_bipush (pc := 58) C d_P_openOverflow_58 (v := 8) (by decide) ?_
          refine r_imul (pc := 60) C d_P_openOverflow_60 ?_
          refine r_cVv (pc := 61) (a' := 0) (b' := 0) (As := [.inl (l1 * 8), .inl ((l1 + 1) * 8)]) (ci := 2) C (c_S_open C.s h) o_S_open rfl (lay_O rfl) (k_185 C.w) rfl ⟨by decide, by decide, by decide, by decide⟩ rfl rfl (Nat.le_of_ble_eq_true rfl) d_P_openOverflow_61 rfl ?_
          intro μ6 h
          refine r_iconst (pc := 64) C d_P_openOverflow_64 (v := 1) (by decide) ?_
          exact r_zret (pc := 65) C (Or.inr rfl) d_P_openOverflow_65 (by decide) (by decide) h
  unfold wP_openOverflow at h
  refine r_iconst (pc := 0) C d_P_openOverflow_0 (v := 0) (by decide) ?_
  refine r_istore_n (pc := 1) (lv' := [(0, .inr (.inl (some 4)))]) C d_P_openOverflow_1 rfl (by decide) rfl ?_
  obtain ⟨n10, h⟩ := h
  refine r_sub [1, 0] rfl ?_
  refine L_2 _ ?_ n10 0 μ h
  intro v9 μ8 h
  refine r_iconst (pc := 72) C d_P_openOverflow_72 (v := 0) (by decide) ?_
  exact r_zret (pc := 73) C (Or.inl rfl) d_P_openOverflow_73 (by decide) (by decide) h
theorem c_S_endLine {l : Launch} (hl : l.stackTraces = false) {G : Gl} {x : Nat} {post : Int32 → Mem → Prop} {μ : Mem} (h : wS_endLine x post μ) : Ct l G i_S_endLine [.inr (.inl (some x))] μ (poI post) noX := by
  refine ct_of hl (by decide) (Nat.le_of_ble_eq_true rfl) ?_
  intro K hKl C hE
  clear hl hKl
  replace C : Cx K G prog_6_method_6_code "LineCollector$Span" 1 { frames := 0, cells := 0, slots := 0, locals := 0 } (some .int) (poI post) noX := C
  show Rn K G 1 0 [(0, .inr (.inl (some x)))] [] μ 0 0
  unfold wS_endLine at h
  refine r_aload_n (pc := 0) C d_S_endLine_0 rfl 0 rfl ?_
  obtain ⟨o1, h⟩ := h
  refine r_getI (pc := 1) (ci := 2) C rfl 2 (by decide) (k_41 C.w) rfl (ok_O o1) d_S_endLine_1 ?_
  refine r_iconst (pc := 4) C d_S_endLine_4 (v := 4) (by decide) ?_
  refine r_idiv (pc := 5) C d_S_endLine_5 (by decide) ?_
  exact r_iret (pc := 6) C d_S_endLine_6 (by decide) (by decide) h
theorem c_P_openHole {l : Launch} (hl : l.stackTraces = false) {G : Gl} {post : Int32 → Mem → Prop} {μ : Mem} (h : wP_openHole post μ) : Ct l G i_P_openHole [.inr (.inl (some 4))] μ (poI post) noX := by
  refine ct_of hl (by decide) (Nat.le_of_ble_eq_true rfl) ?_
  intro K hKl C hE
  clear hl hKl
  replace C : Cx K G prog_4_method_11_code "LineCollector$Places" 6 { frames := 2, cells := 0, slots := 0, locals := 42 } (some .boolean) (poI post) noX := C
  show Rn K G 6 0 [(0, .inr (.inl (some 4)))] [] μ 0 0
  have L_47 : ∀ (l4 : Int32) (l3 : Int32) (k : Int32 → Mem → Prop), (∀ (v5 : Int32) (μ : Mem), k v5 μ → Rn K G 6 69 [(0, .inr (.inl (some 4))), (3, .inl l3), (5, .inl v5)] [] μ 0 0) → ∀ (n : Nat) (l5 : Int32) (μ : Mem), wP_openHole_47 l4 k n l5 μ → Rn K G 6 47 [(0, .inr (.inl (some 4))), (3, .inl l3), (4, .inl l4), (5, .inl l5)] [] μ 0 0 := by
    intro l4 l3 k hk n
    induction n with
    | zero => intro l5 μ h; exact h.elim
    | succ n ih =>
      intro l5 μ h
      unfold wP_openHole_47 at h
      refine r_iload (pc := 47) C d_P_openHole_47 3 rfl ?_
      refine r_iload (pc := 49) C d_P_openHole_49 2 rfl ?_
      refine r_icmp_ge (tgt := 69) (pc := 51) C d_P_openHole_51 (by decide) ?_ ?_
      · intro hc; replace h := h.1 hc
        refine r_sub [0, 1, 3] rfl ?_
        exact hk l5 μ h
      · intro hc; replace h := h.2 hc
        refine r_aload_n (pc := 54) C d_P_openHole_54 rfl 0 rfl ?_
        refine r_iload (pc := 55) C d_P_openHole_55 3 rfl ?_
        refine r_cVi (pc := 57) (a' := 0) (b' := 0) (As := [.inl l5]) (ci := 1) C (c_P_isFree C.s h) o_P_isFree rfl (lay_O rfl) (k_237 C.w) rfl ⟨by decide, by decide, by decide, by decide⟩ rfl rfl (Nat.le_of_ble_eq_true rfl) d_P_openHole_57 rfl ?_
        intro r6 μ5 h
        refine r_if_eq (tgt := 69) (pc := 60) C d_P_openHole_60 (by decide) ?_ ?_
        · intro hc; replace h := h.1 hc
          refine r_sub [0, 1, 3] rfl ?_
          exact hk l5 μ5 h
        · intro hc; replace h := h.2 hc
          refine r_iinc (pc := 63) (v := 1) (lv' := [(0, .inr (.inl (some 4))), (3, .inl l3), (4, .inl l4)]) C d_P_openHole_63 3 rfl (by decide) (by decide) rfl ?_
          refine r_goto (tgt := 47) (pc := 66) C d_P_openHole_66 (by decide) ?_
          refine r_sub [1, 2, 3, 0] rfl ?_
          exact ih (l5 + 1) μ5 h
  have L_10 : ∀ (l1 : Int32) (k : Int32 → Mem → Prop), (∀ (v2 : Int32) (μ : Mem), k v2 μ → Rn K G 6 87 [] [] μ 0 0) → ∀ (n : Nat) (l2 : Int32) (μ : Mem), wP_openHole_10 l1 k post n l2 μ → Rn K G 6 10 [(0, .inr (.inl (some 4))), (1, .inl l1), (2, .inl l2)] [] μ 0 0 := by
    intro l1 k hk n
    induction n with
    | zero => intro l2 μ h; exact h.elim
    | succ n ih =>
      intro l2 μ h
      unfold wP_openHole_10 at h
      refine r_iload_n (pc := 10) C d_P_openHole_10 rfl 2 rfl ?_
      refine r_bipush (pc := 11) C d_P_openHole_11 (v := 32) (by decide) ?_
      refine r_icmp_ge (tgt := 87) (pc := 13) C d_P_openHole_13 (by decide) ?_ ?_
      · intro hc; replace h := h.1 hc
        refine r_sub [] rfl ?_
        exact hk l2 μ h
      · intro hc; replace h := h.2 hc
        refine r_iload_n (pc := 16) C d_P_openHole_16 rfl 1 rfl ?_
        refine r_iload_n (pc := 17) C d_P_openHole_17 rfl 2 rfl ?_
        refine r_iadd (pc := 18) C d_P_openHole_18 ?_
        refine r_bipush (pc := 19) C d_P_openHole_19 (v := 32) (by decide) ?_
        refine r_irem (pc := 21) C d_P_openHole_21 (by decide) ?_
        refine r_istore_n (pc := 22) (lv' := [(0, .inr (.inl (some 4))), (1, .inl l1), (2, .inl l2)]) C d_P_openHole_22 rfl (by decide) rfl ?_
        refine r_aload_n (pc := 23) C d_P_openHole_23 rfl 1 rfl ?_
        refine r_iload_n (pc := 24) C d_P_openHole_24 rfl 0 rfl ?_
        refine r_cVi (pc := 25) (a' := 0) (b' := 0) (As := [.inl ((l1 + l2) - (l1 + l2) / 32 * 32)]) (ci := 1) C (c_P_isFree C.s h) o_P_isFree rfl (lay_O rfl) (k_237 C.w) rfl ⟨by decide, by decide, by decide, by decide⟩ rfl rfl (Nat.le_of_ble_eq_true rfl) d_P_openHole_25 rfl ?_
        intro r4 μ3 h
        refine r_if_eq (tgt := 81) (pc := 28) C d_P_openHole_28 (by decide) ?_ ?_
        · intro hc; replace h := h.1 hc
          refine r_iinc (pc := 81) (v := 1) (lv' := [(3, .inl ((l1 + l2) - (l1 + l2) / 32 * 32)), (0, .inr (.inl (some 4))), (1, .inl l1)]) C d_P_openHole_81 3 rfl (by decide) (by decide) rfl ?_
          refine r_goto (tgt := 10) (pc := 84) C d_P_openHole_84 (by decide) ?_
          refine r_sub [2, 3, 0] rfl ?_
          exact ih (l2 + 1) μ3 h
        · intro hc; replace h := h.2 hc
          refine r_iload_n (pc := 31) C d_P_openHole_31 rfl 0 rfl ?_
          refine r_bipush (pc := 32) C d_P_openHole_32 (v := 8) (by decide) ?_
          refine r_idiv (pc := 34) C d_P_openHole_34 (by decide) ?_
          refine r_iconst (pc := 35) C d_P_openHole_35 (v := 1) (by decide) ?_
          refine r_iadd (pc := 36) C d_P_openHole_36 ?_
          refine r_bipush (pc := 37) C d_P_openHole_37 (v := 8) (by decide) ?_
          refine r_imul (pc := 39) C d_P_openHole_39 ?_
          refine r_istore (pc := 40) (lv' := [(3, .inl ((l1 + l2) - (l1 + l2) / 32 * 32)), (0, .inr (.inl (some 4))), (1, .inl l1), (2, .inl l2)]) C d_P_openHole_40 (by decide) rfl ?_
          refine r_iload_n (pc := 42) C d_P_openHole_42 rfl 1 rfl ?_
          refine r_iconst (pc := 43) C d_P_openHole_43 (v := 1) (by decide) ?_
          refine r_iadd (pc := 44) C d_P_openHole_44 ?_
          refine r_istore (pc := 45) (lv' := [(4, .inl (((((l1 + l2) - (l1 + l2) / 32 * 32) / 8) + 1) * 8)), (3, .inl ((l1 + l2) - (l1 + l2) / 32 * 32)), (0, .inr (.inl (some 4))), (1, .inl l1), (2, .inl l2)]) C d_P_openHole_45 (by decide) rfl ?_
          obtain ⟨n10, h⟩ := h
          refine r_sub [3, 2, 1, 0] rfl ?_
          refine L_47 (((((l1 + l2) - (l1 + l2) / 32 * 32) / 8) + 1) * 8) ((l1 + l2) - (l1 + l2) / 32 * 32) _ ?_ n10 (((l1 + l2) - (l1 + l2) / 32 * 32) + 1) μ3 h
          intro v8 μ7 h
          refine r_aload_n (pc := 69) C d_P_openHole_69 rfl 0 rfl ?_
          refine r_getR (pc := 70) (ci := 1) C rfl 2 (by decide) (k_53 C.w) rfl (lay_O rfl) d_P_openHole_70 ?_
          refine r_iload_n (pc := 73) C d_P_openHole_73 rfl 1 rfl ?_
          refine r_iload (pc := 74) C d_P_openHole_74 2 rfl ?_
          refine r_cVv (pc := 76) (a' := 0) (b' := 0) (As := [.inl ((l1 + l2) - (l1 + l2) / 32 * 32), .inl v8]) (ci := 2) C (c_S_open C.s h) o_S_open rfl (lay_O rfl) (k_185 C.w) rfl ⟨by decide, by decide, by decide, by decide⟩ rfl rfl (Nat.le_of_ble_eq_true rfl) d_P_openHole_76 rfl ?_
          intro μ9 h
          refine r_iconst (pc := 79) C d_P_openHole_79 (v := 1) (by decide) ?_
          exact r_zret (pc := 80) C (Or.inr rfl) d_P_openHole_80 (by decide) (by decide) h
  unfold wP_openHole at h
  refine r_aload_n (pc := 0) C d_P_openHole_0 rfl 0 rfl ?_
  refine r_getR (pc := 1) (ci := 1) C rfl 2 (by decide) (k_53 C.w) rfl (lay_O rfl) d_P_openHole_1 ?_
  refine r_cVi (pc := 4) (a' := 0) (b' := 0) (As := []) (ci := 2) C (c_S_endLine C.s h) o_S_endLine rfl (lay_O rfl) (k_233 C.w) rfl ⟨by decide, by decide, by decide, by decide⟩ rfl rfl (Nat.le_of_ble_eq_true rfl) d_P_openHole_4 rfl ?_
  intro r2 μ1 h
  refine r_istore_n (pc := 7) (lv' := [(0, .inr (.inl (some 4)))]) C d_P_openHole_7 rfl (by decide) rfl ?_
  refine r_iconst (pc := 8) C d_P_openHole_8 (v := 0) (by decide) ?_
  refine r_istore_n (pc := 9) (lv' := [(1, .inl r2), (0, .inr (.inl (some 4)))]) C d_P_openHole_9 rfl (by decide) rfl ?_
  obtain ⟨n13, h⟩ := h
  refine r_sub [2, 1, 0] rfl ?_
  refine L_10 r2 _ ?_ n13 0 μ1 h
  intro v12 μ11 h
  refine r_iconst (pc := 87) C d_P_openHole_87 (v := 0) (by decide) ?_
  exact r_zret (pc := 88) C (Or.inl rfl) d_P_openHole_88 (by decide) (by decide) h
theorem c_P_find {l : Launch} (hl : l.stackTraces = false) {G : Gl} {a1 : Int32} {post : Int32 → Mem → Prop} {μ : Mem} (h : wP_find a1 post μ) : Ct l G i_P_find [.inr (.inl (some 4)), .inl a1] μ (poI post) noX := by
  refine ct_of hl (by decide) (Nat.le_of_ble_eq_true rfl) ?_
  intro K hKl C hE
  clear hl hKl
  replace C : Cx K G prog_4_method_10_code "LineCollector$Places" 2 { frames := 3, cells := 0, slots := 0, locals := 67 } (some .int) (poI post) noX := C
  show Rn K G 2 0 [(0, .inr (.inl (some 4))), (1, .inl a1)] [] μ 0 0
  unfold wP_find at h
  refine r_aload_n (pc := 0) C d_P_find_0 rfl 0 rfl ?_
  refine r_getR (pc := 1) (ci := 1) C rfl 2 (by decide) (k_53 C.w) rfl (lay_O rfl) d_P_find_1 ?_
  refine r_iload_n (pc := 4) C d_P_find_4 rfl 1 rfl ?_
  refine r_cVi (pc := 5) (a' := 0) (b' := 0) (As := [.inl a1]) (ci := 2) C (c_S_has C.s h) o_S_has rfl (lay_O rfl) (k_221 C.w) rfl ⟨by decide, by decide, by decide, by decide⟩ rfl rfl (Nat.le_of_ble_eq_true rfl) d_P_find_5 rfl ?_
  intro r2 μ1 h
  refine r_if_eq (tgt := 20) (pc := 8) C d_P_find_8 (by decide) ?_ ?_
  · intro hc; replace h := h.1 hc
    refine r_iload_n (pc := 20) C d_P_find_20 rfl 1 rfl ?_
    refine r_iconst (pc := 21) C d_P_find_21 (v := 4) (by decide) ?_
    refine r_icmp_gt (tgt := 45) (pc := 22) C d_P_find_22 (by decide) ?_ ?_
    · intro hc; replace h := h.1 hc
      refine r_aload_n (pc := 45) C d_P_find_45 rfl 0 rfl ?_
      refine r_getR (pc := 46) (ci := 1) C rfl 3 (by decide) (k_54 C.w) rfl (lay_O rfl) d_P_find_46 ?_
      refine r_iload_n (pc := 49) C d_P_find_49 rfl 1 rfl ?_
      refine r_cVi (pc := 50) (a' := 0) (b' := 0) (As := [.inl a1]) (ci := 2) C (c_S_has C.s h) o_S_has rfl (lay_O rfl) (k_221 C.w) rfl ⟨by decide, by decide, by decide, by decide⟩ rfl rfl (Nat.le_of_ble_eq_true rfl) d_P_find_50 rfl ?_
      intro r4 μ3 h
      refine r_if_ne (tgt := 63) (pc := 53) C d_P_find_53 (by decide) ?_ ?_
      · intro hc; replace h := h.2 hc
        refine r_aload_n (pc := 63) C d_P_find_63 rfl 0 rfl ?_
        refine r_getR (pc := 64) (ci := 1) C rfl 3 (by decide) (k_54 C.w) rfl (lay_O rfl) d_P_find_64 ?_
        refine r_iload_n (pc := 67) C d_P_find_67 rfl 1 rfl ?_
        refine r_cVi (pc := 68) (a' := 0) (b' := 0) (As := [.inl a1]) (ci := 2) C (c_S_take C.s h) o_S_take rfl (lay_O rfl) (k_225 C.w) rfl ⟨by decide, by decide, by decide, by decide⟩ rfl rfl (Nat.le_of_ble_eq_true rfl) d_P_find_68 rfl ?_
        intro r6 μ5 h
        exact r_iret (pc := 71) C d_P_find_71 (by decide) (by decide) h
      · intro hc; replace h := h.1 hc
        refine r_aload_n (pc := 56) C d_P_find_56 rfl 0 rfl ?_
        refine r_cVi (pc := 57) (a' := 0) (b' := 0) (As := []) (ci := 1) C (c_P_openOverflow C.s h) o_P_openOverflow rfl (lay_O rfl) (k_245 C.w) rfl ⟨by decide, by decide, by decide, by decide⟩ rfl rfl (Nat.le_of_ble_eq_true rfl) d_P_find_57 rfl ?_
        intro r8 μ7 h
        refine r_if_eq (tgt := 72) (pc := 60) C d_P_find_60 (by decide) ?_ ?_
        · intro hc; replace h := h.1 hc
          refine r_iconst (pc := 72) C d_P_find_72 (v := (-1)) (by decide) ?_
          exact r_iret (pc := 73) C d_P_find_73 (by decide) (by decide) h
        · intro hc; replace h := h.2 hc
          refine r_aload_n (pc := 63) C d_P_find_63 rfl 0 rfl ?_
          refine r_getR (pc := 64) (ci := 1) C rfl 3 (by decide) (k_54 C.w) rfl (lay_O rfl) d_P_find_64 ?_
          refine r_iload_n (pc := 67) C d_P_find_67 rfl 1 rfl ?_
          refine r_cVi (pc := 68) (a' := 0) (b' := 0) (As := [.inl a1]) (ci := 2) C (c_S_take C.s h) o_S_take rfl (lay_O rfl) (k_225 C.w) rfl ⟨by decide, by decide, by decide, by decide⟩ rfl rfl (Nat.le_of_ble_eq_true rfl) d_P_find_68 rfl ?_
          intro r10 μ9 h
          exact r_iret (pc := 71) C d_P_find_71 (by decide) (by decide) h
    · intro hc; replace h := h.2 hc
      refine r_aload_n (pc := 25) C d_P_find_25 rfl 0 rfl ?_
      refine r_cVi (pc := 26) (a' := 0) (b' := 0) (As := []) (ci := 1) C (c_P_openHole C.s h) o_P_openHole rfl (lay_O rfl) (k_229 C.w) rfl ⟨by decide, by decide, by decide, by decide⟩ rfl rfl (Nat.le_of_ble_eq_true rfl) d_P_find_26 rfl ?_
      intro r12 μ11 h
      refine r_if_eq (tgt := 43) (pc := 29) C d_P_find_29 (by decide) ?_ ?_
      · intro hc; replace h := h.1 hc
        refine r_iconst (pc := 43) C d_P_find_43 (v := (-1)) (by decide) ?_
        exact r_iret (pc := 44) C d_P_find_44 (by decide) (by decide) h
      · intro hc; replace h := h.2 hc
        refine r_aload_n (pc := 32) C d_P_find_32 rfl 0 rfl ?_
        refine r_getR (pc := 33) (ci := 1) C rfl 2 (by decide) (k_53 C.w) rfl (lay_O rfl) d_P_find_33 ?_
        refine r_iload_n (pc := 36) C d_P_find_36 rfl 1 rfl ?_
        refine r_cVi (pc := 37) (a' := 0) (b' := 0) (As := [.inl a1]) (ci := 2) C (c_S_take C.s h) o_S_take rfl (lay_O rfl) (k_225 C.w) rfl ⟨by decide, by decide, by decide, by decide⟩ rfl rfl (Nat.le_of_ble_eq_true rfl) d_P_find_37 rfl ?_
        intro r14 μ13 h
        refine r_goto (tgt := 44) (pc := 40) C d_P_find_40 (by decide) ?_
        exact r_iret (pc := 44) C d_P_find_44 (by decide) (by decide) h
  · intro hc; replace h := h.2 hc
    refine r_aload_n (pc := 11) C d_P_find_11 rfl 0 rfl ?_
    refine r_getR (pc := 12) (ci := 1) C rfl 2 (by decide) (k_53 C.w) rfl (lay_O rfl) d_P_find_12 ?_
    refine r_iload_n (pc := 15) C d_P_find_15 rfl 1 rfl ?_
    refine r_cVi (pc := 16) (a' := 0) (b' := 0) (As := [.inl a1]) (ci := 2) C (c_S_take C.s h) o_S_take rfl (lay_O rfl) (k_225 C.w) rfl ⟨by decide, by decide, by decide, by decide⟩ rfl rfl (Nat.le_of_ble_eq_true rfl) d_P_find_16 rfl ?_
    intro r16 μ15 h
    exact r_iret (pc := 19) C d_P_find_19 (by decide) (by decide) h
theorem c_P_occupy {l : Launch} (hl : l.stackTraces = false) {G : Gl} {a1 : Int32} {a2 : Int32} {post : Mem → Prop} {μ : Mem} (h : wP_occupy a1 a2 post μ) : Ct l G i_P_occupy [.inr (.inl (some 4)), .inl a1, .inl a2] μ (poV post) noX := by
  refine ct_of hl (by decide) (Nat.le_of_ble_eq_true rfl) ?_
  intro K hKl C hE
  clear hl hKl
  replace C : Cx K G prog_4_method_4_code "LineCollector$Places" 4 { frames := 0, cells := 0, slots := 0, locals := 0 } (none) (poV post) noX := C
  show Rn K G 4 0 [(0, .inr (.inl (some 4))), (1, .inl a1), (2, .inl a2)] [] μ 0 0
  have L_2 : ∀ (l1 : Int32) (l2 : Int32) (k : Int32 → Mem → Prop), (∀ (v3 : Int32) (μ : Mem), k v3 μ → Rn K G 4 27 [] [] μ 0 0) → ∀ (n : Nat) (l3 : Int32) (μ : Mem), wP_occupy_2 l1 l2 k n l3 μ → Rn K G 4 2 [(0, .inr (.inl (some 4))), (1, .inl l1), (2, .inl l2), (3, .inl l3)] [] μ 0 0 := by
    intro l1 l2 k hk n
    induction n with
    | zero => intro l3 μ h; exact h.elim
    | succ n ih =>
      intro l3 μ h
      unfold wP_occupy_2 at h
      refine r_iload_n (pc := 2) C d_P_occupy_2 rfl 3 rfl ?_
      refine r_iload_n (pc := 3) C d_P_occupy_3 rfl 1 rfl ?_
      refine r_iload_n (pc := 4) C d_P_occupy_4 rfl 2 rfl ?_
      refine r_iadd (pc := 5) C d_P_occupy_5 ?_
      refine r_icmp_ge (tgt := 27) (pc := 6) C d_P_occupy_6 (by decide) ?_ ?_
      · intro hc; replace h := h.1 hc
        refine r_sub [] rfl ?_
        exact hk l3 μ h
      · intro hc; replace h := h.2 hc
        refine r_aload_n (pc := 9) C d_P_occupy_9 rfl 0 rfl ?_
        refine r_getR (pc := 10) (ci := 1) C rfl 0 (by decide) (k_51 C.w) rfl (lay_O rfl) d_P_occupy_10 ?_
        refine r_iload_n (pc := 13) C d_P_occupy_13 rfl 3 rfl ?_
        refine r_iconst (pc := 14) C d_P_occupy_14 (v := 4) (by decide) ?_
        refine r_idiv (pc := 15) C d_P_occupy_15 (by decide) ?_
        refine r_dup2 (pc := 16) C d_P_occupy_16 ?_
        obtain ⟨b1, h⟩ := h
        refine r_iald (pc := 17) C (lay_A rfl) b1 d_P_occupy_17 ?_
        refine r_iconst (pc := 18) C d_P_occupy_18 (v := 1) (by decide) ?_
        refine r_iadd (pc := 19) C d_P_occupy_19 ?_
        refine r_iast (pc := 20) C (lay_A rfl) b1 d_P_occupy_20 ?_
        intro μ2 eμ2; replace h := h μ2 eμ2
        refine r_iinc (pc := 21) (v := 1) (lv' := [(0, .inr (.inl (some 4))), (1, .inl l1), (2, .inl l2)]) C d_P_occupy_21 3 rfl (by decide) (by decide) rfl ?_
        refine r_goto (tgt := 2) (pc := 24) C d_P_occupy_24 (by decide) ?_
        refine r_sub [1, 2, 3, 0] rfl ?_
        exact ih (l3 + 1) μ2 h
  unfold wP_occupy at h
  refine r_iload_n (pc := 0) C d_P_occupy_0 rfl 1 rfl ?_
  refine r_istore_n (pc := 1) (lv' := [(0, .inr (.inl (some 4))), (1, .inl a1), (2, .inl a2)]) C d_P_occupy_1 rfl (by decide) rfl ?_
  obtain ⟨n5, h⟩ := h
  refine r_sub [1, 2, 3, 0] rfl ?_
  refine L_2 a1 a2 _ ?_ n5 a1 μ h
  intro v4 μ3 h
  exact r_vret (pc := 27) C d_P_occupy_27 (by decide) (by decide) h
theorem c_C_settle {l : Launch} (hl : l.stackTraces = false) {G : Gl} {a1 : Nat} {a2 : Int32} {post : Mem → Prop} {μ : Mem} (h : wC_settle a1 a2 post μ) : Ct l G i_C_settle [.inr (.inl (some 0)), .inr (.inl (some a1)), .inl a2] μ (poV post) noX := by
  refine ct_of hl (by decide) (Nat.le_of_ble_eq_true rfl) ?_
  intro K hKl C hE
  clear hl hKl
  replace C : Cx K G prog_1_method_22_code "LineCollector" 3 { frames := 1, cells := 0, slots := 0, locals := 23 } (none) (poV post) noX := C
  show Rn K G 3 0 [(0, .inr (.inl (some 0))), (1, .inr (.inl (some a1))), (2, .inl a2)] [] μ 0 0
  unfold wC_settle at h
  refine r_aload_n (pc := 0) C d_C_settle_0 rfl 1 rfl ?_
  refine r_iload_n (pc := 1) C d_C_settle_1 rfl 2 rfl ?_
  obtain ⟨o1, h⟩ := h
  refine r_putI (pc := 2) (ci := 5) C rfl 4 (by decide) (k_470 C.w) rfl rfl p_I (ok_O o1) d_C_settle_2 ?_
  intro μ2 eμ2; replace h := h μ2 eμ2
  refine r_aload_n (pc := 5) C d_C_settle_5 rfl 0 rfl ?_
  refine r_getR (pc := 6) (ci := 0) C rfl 2 (by decide) (k_108 C.w) rfl (lay_O rfl) d_C_settle_6 ?_
  refine r_iload_n (pc := 9) C d_C_settle_9 rfl 2 rfl ?_
  refine r_aload_n (pc := 10) C d_C_settle_10 rfl 1 rfl ?_
  obtain ⟨b3, h⟩ := h
  refine r_aast (pc := 11) C (lay_A rfl) b3 d_C_settle_11 (fun y hy => by cases hy; exact (ok_s eμ2 o1)) ?_
  intro μ4 eμ4; replace h := h μ4 eμ4
  refine r_aload_n (pc := 12) C d_C_settle_12 rfl 0 rfl ?_
  refine r_getR (pc := 13) (ci := 0) C rfl 3 (by decide) (k_109 C.w) rfl (lay_O rfl) d_C_settle_13 ?_
  refine r_iload_n (pc := 16) C d_C_settle_16 rfl 2 rfl ?_
  refine r_aload_n (pc := 17) C d_C_settle_17 rfl 1 rfl ?_
  refine r_getI (pc := 18) (ci := 5) C rfl 0 (by decide) (k_461 C.w) rfl (ok_O (ok_t eμ4 (ok_s eμ2 o1))) d_C_settle_18 ?_
  refine r_cVv (pc := 21) (a' := 0) (b' := 0) (As := [.inl a2, .inl (mI μ4 a1 0)]) (ci := 1) C (c_P_occupy C.s h) o_P_occupy rfl (lay_O rfl) (k_261 C.w) rfl ⟨by decide, by decide, by decide, by decide⟩ rfl rfl (Nat.le_of_ble_eq_true rfl) d_C_settle_21 rfl ?_
  intro μ5 h
  exact r_vret (pc := 24) C d_C_settle_24 (by decide) (by decide) h
theorem c_W_takeFirst {l : Launch} (hl : l.stackTraces = false) {G : Gl} {x : Nat} {post : Option Nat → Mem → Prop} {μ : Mem} (h : wW_takeFirst x post μ) : Ct l G i_W_takeFirst [.inr (.inl (some x))] μ (poQ G post) noX := by
  refine ct_of hl (by decide) (Nat.le_of_ble_eq_true rfl) ?_
  intro K hKl C hE
  clear hl hKl
  replace C : Cx K G prog_5_method_4_code "LineCollector$Row" 2 { frames := 0, cells := 0, slots := 0, locals := 0 } (some (.object "LineCollector$Item")) (poQ G post) noX := C
  show Rn K G 2 0 [(0, .inr (.inl (some x)))] [] μ 0 0
  unfold wW_takeFirst at h
  refine r_aload_n (pc := 0) C d_W_takeFirst_0 rfl 0 rfl ?_
  obtain ⟨o1, h⟩ := h
  refine r_getI (pc := 1) (ci := 4) C rfl 2 (by decide) (k_97 C.w) rfl (ok_O o1) d_W_takeFirst_1 ?_
  refine r_if_ne (tgt := 9) (pc := 4) C d_W_takeFirst_4 (by decide) ?_ ?_
  · intro hc; replace h := h.2 hc
    refine r_aload_n (pc := 9) C d_W_takeFirst_9 rfl 0 rfl ?_
    refine r_getR (pc := 10) (ci := 4) C rfl 0 (by decide) (k_95 C.w) rfl (ok_O o1) d_W_takeFirst_10 ?_
    refine r_aload_n (pc := 13) C d_W_takeFirst_13 rfl 0 rfl ?_
    refine r_getI (pc := 14) (ci := 4) C rfl 1 (by decide) (k_96 C.w) rfl (ok_O o1) d_W_takeFirst_14 ?_
    obtain ⟨o2, h⟩ := h
    obtain ⟨b3, h⟩ := h
    refine r_aald (pc := 17) C (ok_A o2) b3 d_W_takeFirst_17 ?_
    intro e4 he4; replace h := h e4 he4
    refine r_astore_n (pc := 18) (lv' := [(0, .inr (.inl (some x)))]) C d_W_takeFirst_18 rfl (by decide) rfl ?_
    refine r_aload_n (pc := 19) C d_W_takeFirst_19 rfl 1 rfl ?_
    refine r_aload_n (pc := 20) C d_W_takeFirst_20 rfl 1 rfl ?_
    refine r_getI (pc := 21) (ci := 4) C rfl 1 (by decide) (k_96 C.w) rfl (ok_O o1) d_W_takeFirst_21 ?_
    refine r_iconst (pc := 24) C d_W_takeFirst_24 (v := 1) (by decide) ?_
    refine r_iadd (pc := 25) C d_W_takeFirst_25 ?_
    refine r_sipush (pc := 26) C d_W_takeFirst_26 (v := 262) (by decide) ?_
    refine r_irem (pc := 29) C d_W_takeFirst_29 (by decide) ?_
    refine r_putI (pc := 30) (ci := 4) C rfl 1 (by decide) (k_96 C.w) rfl rfl p_I (ok_O o1) d_W_takeFirst_30 ?_
    intro μ5 eμ5; replace h := h μ5 eμ5
    refine r_aload_n (pc := 33) C d_W_takeFirst_33 rfl 1 rfl ?_
    refine r_dupR (pc := 34) C d_W_takeFirst_34 ?_
    refine r_getI (pc := 35) (ci := 4) C rfl 2 (by decide) (k_97 C.w) rfl (ok_O (ok_s eμ5 o1)) d_W_takeFirst_35 ?_
    refine r_iconst (pc := 38) C d_W_takeFirst_38 (v := 1) (by decide) ?_
    refine r_isub (pc := 39) C d_W_takeFirst_39 ?_
    refine r_putI (pc := 40) (ci := 4) C rfl 2 (by decide) (k_97 C.w) rfl rfl p_I (ok_O (ok_s eμ5 o1)) d_W_takeFirst_40 ?_
    intro μ6 eμ6; replace h := h μ6 eμ6
    refine r_aload_n (pc := 43) C d_W_takeFirst_43 rfl 0 rfl ?_
    exact r_aret (pc := 44) C d_W_takeFirst_44 (by decide) (by decide) h
  · intro hc; replace h := h.1 hc
    refine r_null (pc := 7) C d_W_takeFirst_7 ?_
    exact r_aret (pc := 8) C d_W_takeFirst_8 (by decide) (by decide) h
theorem c_P_vacate {l : Launch} (hl : l.stackTraces = false) {G : Gl} {a1 : Int32} {a2 : Int32} {post : Mem → Prop} {μ : Mem} (h : wP_vacate a1 a2 post μ) : Ct l G i_P_vacate [.inr (.inl (some 4)), .inl a1, .inl a2] μ (poV post) noX := by
  refine ct_of hl (by decide) (Nat.le_of_ble_eq_true rfl) ?_
  intro K hKl C hE
  clear hl hKl
  replace C : Cx K G prog_4_method_5_code "LineCollector$Places" 4 { frames := 0, cells := 0, slots := 0, locals := 0 } (none) (poV post) noX := C
  show Rn K G 4 0 [(0, .inr (.inl (some 4))), (1, .inl a1), (2, .inl a2)] [] μ 0 0
  have L_2 : ∀ (l1 : Int32) (l2 : Int32) (k : Int32 → Mem → Prop), (∀ (v3 : Int32) (μ : Mem), k v3 μ → Rn K G 4 27 [] [] μ 0 0) → ∀ (n : Nat) (l3 : Int32) (μ : Mem), wP_vacate_2 l1 l2 k n l3 μ → Rn K G 4 2 [(0, .inr (.inl (some 4))), (1, .inl l1), (2, .inl l2), (3, .inl l3)] [] μ 0 0 := by
    intro l1 l2 k hk n
    induction n with
    | zero => intro l3 μ h; exact h.elim
    | succ n ih =>
      intro l3 μ h
      unfold wP_vacate_2 at h
      refine r_iload_n (pc := 2) C d_P_vacate_2 rfl 3 rfl ?_
      refine r_iload_n (pc := 3) C d_P_vacate_3 rfl 1 rfl ?_
      refine r_iload_n (pc := 4) C d_P_vacate_4 rfl 2 rfl ?_
      refine r_iadd (pc := 5) C d_P_vacate_5 ?_
      refine r_icmp_ge (tgt := 27) (pc := 6) C d_P_vacate_6 (by decide) ?_ ?_
      · intro hc; replace h := h.1 hc
        refine r_sub [] rfl ?_
        exact hk l3 μ h
      · intro hc; replace h := h.2 hc
        refine r_aload_n (pc := 9) C d_P_vacate_9 rfl 0 rfl ?_
        refine r_getR (pc := 10) (ci := 1) C rfl 0 (by decide) (k_51 C.w) rfl (lay_O rfl) d_P_vacate_10 ?_
        refine r_iload_n (pc := 13) C d_P_vacate_13 rfl 3 rfl ?_
        refine r_iconst (pc := 14) C d_P_vacate_14 (v := 4) (by decide) ?_
        refine r_idiv (pc := 15) C d_P_vacate_15 (by decide) ?_
        refine r_dup2 (pc := 16) C d_P_vacate_16 ?_
        obtain ⟨b1, h⟩ := h
        refine r_iald (pc := 17) C (lay_A rfl) b1 d_P_vacate_17 ?_
        refine r_iconst (pc := 18) C d_P_vacate_18 (v := 1) (by decide) ?_
        refine r_isub (pc := 19) C d_P_vacate_19 ?_
        refine r_iast (pc := 20) C (lay_A rfl) b1 d_P_vacate_20 ?_
        intro μ2 eμ2; replace h := h μ2 eμ2
        refine r_iinc (pc := 21) (v := 1) (lv' := [(0, .inr (.inl (some 4))), (1, .inl l1), (2, .inl l2)]) C d_P_vacate_21 3 rfl (by decide) (by decide) rfl ?_
        refine r_goto (tgt := 2) (pc := 24) C d_P_vacate_24 (by decide) ?_
        refine r_sub [1, 2, 3, 0] rfl ?_
        exact ih (l3 + 1) μ2 h
  unfold wP_vacate at h
  refine r_iload_n (pc := 0) C d_P_vacate_0 rfl 1 rfl ?_
  refine r_istore_n (pc := 1) (lv' := [(0, .inr (.inl (some 4))), (1, .inl a1), (2, .inl a2)]) C d_P_vacate_1 rfl (by decide) rfl ?_
  obtain ⟨n5, h⟩ := h
  refine r_sub [1, 2, 3, 0] rfl ?_
  refine L_2 a1 a2 _ ?_ n5 a1 μ h
  intro v4 μ3 h
  exact r_vret (pc := 27) C d_P_vacate_27 (by decide) (by decide) h
theorem c_C_remove {l : Launch} (hl : l.stackTraces = false) {G : Gl} {a1 : Nat} {post : Mem → Prop} {μ : Mem} (h : wC_remove a1 post μ) : Ct l G i_C_remove [.inr (.inl (some 0)), .inr (.inl (some a1))] μ (poV post) noX := by
  refine ct_of hl (by decide) (Nat.le_of_ble_eq_true rfl) ?_
  intro K hKl C hE
  clear hl hKl
  replace C : Cx K G prog_1_method_24_code "LineCollector" 2 { frames := 1, cells := 0, slots := 0, locals := 23 } (none) (poV post) noX := C
  show Rn K G 2 0 [(0, .inr (.inl (some 0))), (1, .inr (.inl (some a1)))] [] μ 0 0
  unfold wC_remove at h
  refine r_aload_n (pc := 0) C d_C_remove_0 rfl 0 rfl ?_
  refine r_getR (pc := 1) (ci := 0) C rfl 2 (by decide) (k_108 C.w) rfl (lay_O rfl) d_C_remove_1 ?_
  refine r_aload_n (pc := 4) C d_C_remove_4 rfl 1 rfl ?_
  obtain ⟨o1, h⟩ := h
  refine r_getI (pc := 5) (ci := 5) C rfl 4 (by decide) (k_470 C.w) rfl (ok_O o1) d_C_remove_5 ?_
  refine r_null (pc := 8) C d_C_remove_8 ?_
  obtain ⟨b2, h⟩ := h
  refine r_aast (pc := 9) C (lay_A rfl) b2 d_C_remove_9 (fun y hy => by cases hy) ?_
  intro μ3 eμ3; replace h := h μ3 eμ3
  refine r_aload_n (pc := 10) C d_C_remove_10 rfl 0 rfl ?_
  refine r_getR (pc := 11) (ci := 0) C rfl 3 (by decide) (k_109 C.w) rfl (lay_O rfl) d_C_remove_11 ?_
  refine r_aload_n (pc := 14) C d_C_remove_14 rfl 1 rfl ?_
  refine r_getI (pc := 15) (ci := 5) C rfl 4 (by decide) (k_470 C.w) rfl (ok_O (ok_t eμ3 o1)) d_C_remove_15 ?_
  refine r_aload_n (pc := 18) C d_C_remove_18 rfl 1 rfl ?_
  refine r_getI (pc := 19) (ci := 5) C rfl 0 (by decide) (k_461 C.w) rfl (ok_O (ok_t eμ3 o1)) d_C_remove_19 ?_
  refine r_cVv (pc := 22) (a' := 0) (b' := 0) (As := [.inl (mI μ3 a1 4), .inl (mI μ3 a1 0)]) (ci := 1) C (c_P_vacate C.s h) o_P_vacate rfl (lay_O rfl) (k_161 C.w) rfl ⟨by decide, by decide, by decide, by decide⟩ rfl rfl (Nat.le_of_ble_eq_true rfl) d_C_remove_22 rfl ?_
  intro μ4 h
  exact r_vret (pc := 25) C d_C_remove_25 (by decide) (by decide) h
theorem c_W_add {l : Launch} (hl : l.stackTraces = false) {G : Gl} {x : Nat} {a1 : Option Nat} {post : Mem → Prop} {μ : Mem} (h : wW_add x a1 post μ) : Ct l G i_W_add [.inr (.inl (some x)), .inr (.inl a1)] μ (poV post) noX := by
  refine ct_of hl (by decide) (Nat.le_of_ble_eq_true rfl) ?_
  intro K hKl C hE
  clear hl hKl
  replace C : Cx K G prog_5_method_2_code "LineCollector$Row" 2 { frames := 0, cells := 0, slots := 0, locals := 0 } (none) (poV post) noX := C
  show Rn K G 2 0 [(0, .inr (.inl (some x))), (1, .inr (.inl a1))] [] μ 0 0
  unfold wW_add at h
  refine r_aload_n (pc := 0) C d_W_add_0 rfl 0 rfl ?_
  obtain ⟨o1, h⟩ := h
  refine r_getI (pc := 1) (ci := 4) C rfl 2 (by decide) (k_97 C.w) rfl (ok_O o1) d_W_add_1 ?_
  refine r_sipush (pc := 4) C d_W_add_4 (v := 262) (by decide) ?_
  refine r_icmp_ge (tgt := 39) (pc := 7) C d_W_add_7 (by decide) ?_ ?_
  · intro hc; replace h := h.1 hc
    exact r_vret (pc := 39) C d_W_add_39 (by decide) (by decide) h
  · intro hc; replace h := h.2 hc
    refine r_aload_n (pc := 10) C d_W_add_10 rfl 0 rfl ?_
    refine r_getR (pc := 11) (ci := 4) C rfl 0 (by decide) (k_95 C.w) rfl (ok_O o1) d_W_add_11 ?_
    refine r_aload_n (pc := 14) C d_W_add_14 rfl 0 rfl ?_
    refine r_getI (pc := 15) (ci := 4) C rfl 1 (by decide) (k_96 C.w) rfl (ok_O o1) d_W_add_15 ?_
    refine r_aload_n (pc := 18) C d_W_add_18 rfl 0 rfl ?_
    refine r_getI (pc := 19) (ci := 4) C rfl 2 (by decide) (k_97 C.w) rfl (ok_O o1) d_W_add_19 ?_
    refine r_iadd (pc := 22) C d_W_add_22 ?_
    refine r_sipush (pc := 23) C d_W_add_23 (v := 262) (by decide) ?_
    refine r_irem (pc := 26) C d_W_add_26 (by decide) ?_
    refine r_aload_n (pc := 27) C d_W_add_27 rfl 1 rfl ?_
    obtain ⟨o2, h⟩ := h
    obtain ⟨b3, h⟩ := h
    obtain ⟨o5, h⟩ := h
    refine r_aast (pc := 28) C (ok_A o2) b3 d_W_add_28 o5 ?_
    intro μ4 eμ4; replace h := h μ4 eμ4
    refine r_aload_n (pc := 29) C d_W_add_29 rfl 0 rfl ?_
    refine r_dupR (pc := 30) C d_W_add_30 ?_
    refine r_getI (pc := 31) (ci := 4) C rfl 2 (by decide) (k_97 C.w) rfl (ok_O (ok_t eμ4 o1)) d_W_add_31 ?_
    refine r_iconst (pc := 34) C d_W_add_34 (v := 1) (by decide) ?_
    refine r_iadd (pc := 35) C d_W_add_35 ?_
    refine r_putI (pc := 36) (ci := 4) C rfl 2 (by decide) (k_97 C.w) rfl rfl p_I (ok_O (ok_t eμ4 o1)) d_W_add_36 ?_
    intro μ6 eμ6; replace h := h μ6 eμ6
    exact r_vret (pc := 39) C d_W_add_39 (by decide) (by decide) h
theorem c_I_isOld {l : Launch} (hl : l.stackTraces = false) {G : Gl} {x : Nat} {post : Int32 → Mem → Prop} {μ : Mem} (h : wI_isOld x post μ) : Ct l G i_I_isOld [.inr (.inl (some x))] μ (poI post) noX := by
  refine ct_of hl (by decide) (Nat.le_of_ble_eq_true rfl) ?_
  intro K hKl C hE
  clear hl hKl
  replace C : Cx K G prog_2_method_3_code "LineCollector$Item" 1 { frames := 0, cells := 0, slots := 0, locals := 0 } (some .boolean) (poI post) noX := C
  show Rn K G 1 0 [(0, .inr (.inl (some x)))] [] μ 0 0
  unfold wI_isOld at h
  refine r_aload_n (pc := 0) C d_I_isOld_0 rfl 0 rfl ?_
  obtain ⟨o1, h⟩ := h
  refine r_getI (pc := 1) (ci := 5) C rfl 5 (by decide) (k_471 C.w) rfl (ok_O o1) d_I_isOld_1 ?_
  refine r_if_le (tgt := 11) (pc := 4) C d_I_isOld_4 (by decide) ?_ ?_
  · intro hc; replace h := h.1 hc
    refine r_iconst (pc := 11) C d_I_isOld_11 (v := 0) (by decide) ?_
    exact r_zret (pc := 12) C (Or.inl rfl) d_I_isOld_12 (by decide) (by decide) h
  · intro hc; replace h := h.2 hc
    refine r_iconst (pc := 7) C d_I_isOld_7 (v := 1) (by decide) ?_
    refine r_goto (tgt := 12) (pc := 8) C d_I_isOld_8 (by decide) ?_
    exact r_zret (pc := 12) C (Or.inr rfl) d_I_isOld_12 (by decide) (by decide) h
theorem c_I_isWhite {l : Launch} (hl : l.stackTraces = false) {G : Gl} {x : Nat} {post : Int32 → Mem → Prop} {μ : Mem} (h : wI_isWhite x post μ) : Ct l G i_I_isWhite [.inr (.inl (some x))] μ (poI post) noX := by
  refine ct_of hl (by decide) (Nat.le_of_ble_eq_true rfl) ?_
  intro K hKl C hE
  clear hl hKl
  replace C : Cx K G prog_2_method_4_code "LineCollector$Item" 1 { frames := 1, cells := 0, slots := 0, locals := 20 } (some .boolean) (poI post) noX := C
  show Rn K G 1 0 [(0, .inr (.inl (some x)))] [] μ 0 0
  unfold wI_isWhite at h
  refine r_aload_n (pc := 0) C d_I_isWhite_0 rfl 0 rfl ?_
  obtain ⟨o1, h⟩ := h
  refine r_cVi (pc := 1) (a' := 0) (b' := 0) (As := []) (ci := 5) C (c_I_isOld C.s h) o_I_isOld rfl (ok_O o1) (k_177 C.w) rfl ⟨by decide, by decide, by decide, by decide⟩ rfl rfl (Nat.le_of_ble_eq_true rfl) d_I_isWhite_1 rfl ?_
  intro r3 μ2 h
  refine r_if_eq (tgt := 18) (pc := 4) C d_I_isWhite_4 (by decide) ?_ ?_
  · intro hc; replace h := h.1 hc
    refine r_iconst (pc := 18) C d_I_isWhite_18 (v := 0) (by decide) ?_
    exact r_zret (pc := 19) C (Or.inl rfl) d_I_isWhite_19 (by decide) (by decide) h
  · intro hc; replace h := h.2 hc
    refine r_aload_n (pc := 7) C d_I_isWhite_7 rfl 0 rfl ?_
    obtain ⟨o4, h⟩ := h
    refine r_getI (pc := 8) (ci := 5) C rfl 6 (by decide) (k_473 C.w) rfl (ok_O o4) d_I_isWhite_8 ?_
    refine r_if_ne (tgt := 18) (pc := 11) C d_I_isWhite_11 (by decide) ?_ ?_
    · intro hc; replace h := h.2 hc
      refine r_iconst (pc := 18) C d_I_isWhite_18 (v := 0) (by decide) ?_
      exact r_zret (pc := 19) C (Or.inl rfl) d_I_isWhite_19 (by decide) (by decide) h
    · intro hc; replace h := h.1 hc
      refine r_iconst (pc := 14) C d_I_isWhite_14 (v := 1) (by decide) ?_
      refine r_goto (tgt := 19) (pc := 15) C d_I_isWhite_15 (by decide) ?_
      exact r_zret (pc := 19) C (Or.inr rfl) d_I_isWhite_19 (by decide) (by decide) h
theorem c_I_turnGreyIfWhite {l : Launch} (hl : l.stackTraces = false) {G : Gl} {x : Nat} {post : Mem → Prop} {μ : Mem} (h : wI_turnGreyIfWhite x post μ) : Ct l G i_I_turnGreyIfWhite [.inr (.inl (some x))] μ (poV post) noX := by
  refine ct_of hl (by decide) (Nat.le_of_ble_eq_true rfl) ?_
  intro K hKl C hE
  clear hl hKl
  replace C : Cx K G prog_2_method_6_code "LineCollector$Item" 1 { frames := 2, cells := 0, slots := 0, locals := 40 } (none) (poV post) noX := C
  show Rn K G 1 0 [(0, .inr (.inl (some x)))] [] μ 0 0
  unfold wI_turnGreyIfWhite at h
  refine r_aload_n (pc := 0) C d_I_turnGreyIfWhite_0 rfl 0 rfl ?_
  obtain ⟨o1, h⟩ := h
  refine r_cVi (pc := 1) (a' := 0) (b' := 0) (As := []) (ci := 5) C (c_I_isWhite C.s h) o_I_isWhite rfl (ok_O o1) (k_173 C.w) rfl ⟨by decide, by decide, by decide, by decide⟩ rfl rfl (Nat.le_of_ble_eq_true rfl) d_I_turnGreyIfWhite_1 rfl ?_
  intro r3 μ2 h
  refine r_if_eq (tgt := 12) (pc := 4) C d_I_turnGreyIfWhite_4 (by decide) ?_ ?_
  · intro hc; replace h := h.1 hc
    exact r_vret (pc := 12) C d_I_turnGreyIfWhite_12 (by decide) (by decide) h
  · intro hc; replace h := h.2 hc
    refine r_aload_n (pc := 7) C d_I_turnGreyIfWhite_7 rfl 0 rfl ?_
    refine r_iconst (pc := 8) C d_I_turnGreyIfWhite_8 (v := 1) (by decide) ?_
    obtain ⟨o4, h⟩ := h
    refine r_putI (pc := 9) (ci := 5) C rfl 6 (by decide) (k_473 C.w) rfl rfl p_I (ok_O o4) d_I_turnGreyIfWhite_9 ?_
    intro μ5 eμ5; replace h := h μ5 eμ5
    exact r_vret (pc := 12) C d_I_turnGreyIfWhite_12 (by decide) (by decide) h
theorem c_C_letGo {l : Launch} (hl : l.stackTraces = false) {G : Gl} {a1 : Nat} {post : Mem → Prop} {μ : Mem} (h : wC_letGo a1 post μ) : Ct l G i_C_letGo [.inr (.inl (some 0)), .inr (.inl (some a1))] μ (poV post) noX := by
  refine ct_of hl (by decide) (Nat.le_of_ble_eq_true rfl) ?_
  intro K hKl C hE
  clear hl hKl
  replace C : Cx K G prog_1_method_27_code "LineCollector" 6 { frames := 3, cells := 0, slots := 0, locals := 60 } (none) (poV post) noX := C
  show Rn K G 6 0 [(0, .inr (.inl (some 0))), (1, .inr (.inl (some a1)))] [] μ 0 0
  have L_16 : ∀ (l1 : Nat) (l2 : Nat) (l3 : Int32) (k : Int32 → Mem → Prop), (∀ (v4 : Int32) (μ : Mem), k v4 μ → Rn K G 6 64 [] [] μ 0 0) → ∀ (n : Nat) (l4 : Int32) (μ : Mem), wC_letGo_16 l1 l2 l3 k n l4 μ → Rn K G 6 16 [(0, .inr (.inl (some 0))), (1, .inr (.inl (some l1))), (2, .inr (.inl (some l2))), (3, .inl l3), (4, .inl l4)] [] μ 0 0 := by
    intro l1 l2 l3 k hk n
    induction n with
    | zero => intro l4 μ h; exact h.elim
    | succ n ih =>
      intro l4 μ h
      unfold wC_letGo_16 at h
      refine r_iload (pc := 16) C d_C_letGo_16 4 rfl ?_
      refine r_iload_n (pc := 18) C d_C_letGo_18 rfl 3 rfl ?_
      refine r_icmp_ge (tgt := 64) (pc := 19) C d_C_letGo_19 (by decide) ?_ ?_
      · intro hc; replace h := h.1 hc
        refine r_sub [] rfl ?_
        exact hk l4 μ h
      · intro hc; replace h := h.2 hc
        refine r_aload_n (pc := 22) C d_C_letGo_22 rfl 2 rfl ?_
        refine r_iload (pc := 23) C d_C_letGo_23 4 rfl ?_
        obtain ⟨o4, h⟩ := h
        obtain ⟨b5, h⟩ := h
        refine r_aald (pc := 25) C (ok_A o4) b5 d_C_letGo_25 ?_
        intro e6 he6; replace h := h e6 he6
        refine r_astore (pc := 26) (lv' := [(0, .inr (.inl (some 0))), (1, .inr (.inl (some l1))), (2, .inr (.inl (some l2))), (3, .inl l3), (4, .inl l4)]) C d_C_letGo_26 (by decide) rfl ?_
        refine r_aload (pc := 28) C d_C_letGo_28 0 rfl ?_
        refine r_ifnonnull (tgt := 36) (pc := 30) C d_C_letGo_30 (by decide) ?_ ?_
        · intro y7 h0; subst h0; replace h := h.2 y7 rfl
          refine r_aload_n (pc := 36) C d_C_letGo_36 rfl 1 rfl ?_
          refine r_getR (pc := 37) (ci := 0) C rfl 5 (by decide) (k_111 C.w) rfl (lay_O rfl) d_C_letGo_37 ?_
          refine r_aload (pc := 40) C d_C_letGo_40 0 rfl ?_
          refine r_cVv (pc := 42) (a' := 0) (b' := 0) (As := [.inr (.inl (some y7))]) (ci := 4) C (c_W_add C.s h) o_W_add rfl (lay_O rfl) (k_165 C.w) rfl ⟨by decide, by decide, by decide, by decide⟩ rfl rfl (Nat.le_of_ble_eq_true rfl) d_C_letGo_42 rfl ?_
          intro μ8 h
          refine r_aload_n (pc := 45) C d_C_letGo_45 rfl 2 rfl ?_
          obtain ⟨o9, h⟩ := h
          refine r_getI (pc := 46) (ci := 5) C rfl 6 (by decide) (k_474 C.w) rfl (ok_O o9) d_C_letGo_46 ?_
          refine r_iconst (pc := 49) C d_C_letGo_49 (v := 1) (by decide) ?_
          refine r_icmp_ne (tgt := 58) (pc := 50) C d_C_letGo_50 (by decide) ?_ ?_
          · intro hc; replace h := h.2 hc
            refine r_iinc (pc := 58) (v := 1) (lv' := [(5, .inr (.inl (some y7))), (0, .inr (.inl (some 0))), (1, .inr (.inl (some l1))), (2, .inr (.inl (some l2))), (3, .inl l3)]) C d_C_letGo_58 5 rfl (by decide) (by decide) rfl ?_
            refine r_goto (tgt := 16) (pc := 61) C d_C_letGo_61 (by decide) ?_
            refine r_sub [2, 3, 4, 5, 0] rfl ?_
            exact ih (l4 + 1) μ8 h
          · intro hc; replace h := h.1 hc
            refine r_aload (pc := 53) C d_C_letGo_53 0 rfl ?_
            obtain ⟨o10, h⟩ := h
            refine r_cVv (pc := 55) (a' := 0) (b' := 0) (As := []) (ci := 5) C (c_I_turnGreyIfWhite C.s h) o_I_turnGreyIfWhite rfl (ok_O o10) (k_169 C.w) rfl ⟨by decide, by decide, by decide, by decide⟩ rfl rfl (Nat.le_of_ble_eq_true rfl) d_C_letGo_55 rfl ?_
            intro μ11 h
            refine r_iinc (pc := 58) (v := 1) (lv' := [(5, .inr (.inl (some y7))), (0, .inr (.inl (some 0))), (1, .inr (.inl (some l1))), (2, .inr (.inl (some l2))), (3, .inl l3)]) C d_C_letGo_58 5 rfl (by decide) (by decide) rfl ?_
            refine r_goto (tgt := 16) (pc := 61) C d_C_letGo_61 (by decide) ?_
            refine r_sub [2, 3, 4, 5, 0] rfl ?_
            exact ih (l4 + 1) μ11 h
        · intro h0; subst h0; replace h := h.1 rfl
          refine r_goto (tgt := 58) (pc := 33) C d_C_letGo_33 (by decide) ?_
          refine r_iinc (pc := 58) (v := 1) (lv' := [(5, .inr (.inl none)), (0, .inr (.inl (some 0))), (1, .inr (.inl (some l1))), (2, .inr (.inl (some l2))), (3, .inl l3)]) C d_C_letGo_58 5 rfl (by decide) (by decide) rfl ?_
          refine r_goto (tgt := 16) (pc := 61) C d_C_letGo_61 (by decide) ?_
          refine r_sub [2, 3, 4, 5, 0] rfl ?_
          exact ih (l4 + 1) μ h
  unfold wC_letGo at h
  refine r_aload_n (pc := 0) C d_C_letGo_0 rfl 0 rfl ?_
  refine r_aload_n (pc := 1) C d_C_letGo_1 rfl 1 rfl ?_
  refine r_cVv (pc := 2) (a' := 0) (b' := 0) (As := [.inr (.inl (some a1))]) (ci := 0) C (c_C_remove C.s h) o_C_remove rfl (lay_O rfl) (k_157 C.w) rfl ⟨by decide, by decide, by decide, by decide⟩ rfl rfl (Nat.le_of_ble_eq_true rfl) d_C_letGo_2 rfl ?_
  intro μ1 h
  refine r_aload_n (pc := 5) C d_C_letGo_5 rfl 1 rfl ?_
  obtain ⟨o2, h⟩ := h
  refine r_getR (pc := 6) (ci := 5) C rfl 2 (by decide) (k_466 C.w) rfl (ok_O o2) d_C_letGo_6 ?_
  refine r_astore_n (pc := 9) (lv' := [(0, .inr (.inl (some 0))), (1, .inr (.inl (some a1)))]) C d_C_letGo_9 rfl (by decide) rfl ?_
  refine r_aload_n (pc := 10) C d_C_letGo_10 rfl 0 rfl ?_
  obtain ⟨o3, h⟩ := h
  refine r_alenQ (pc := 11) (v := nI (mL μ1 (a1 + 1))) C (ok_A o3) rfl d_C_letGo_11 ?_
  refine r_istore_n (pc := 12) (lv' := [(2, .inr (.inl (some (a1 + 1)))), (0, .inr (.inl (some 0))), (1, .inr (.inl (some a1)))]) C d_C_letGo_12 rfl (by decide) rfl ?_
  refine r_iconst (pc := 13) C d_C_letGo_13 (v := 0) (by decide) ?_
  refine r_istore (pc := 14) (lv' := [(3, .inl (nI (mL μ1 (a1 + 1)))), (2, .inr (.inl (some (a1 + 1)))), (0, .inr (.inl (some 0))), (1, .inr (.inl (some a1)))]) C d_C_letGo_14 (by decide) rfl ?_
  obtain ⟨n14, h⟩ := h
  refine r_sub [3, 4, 2, 1, 0] rfl ?_
  refine L_16 a1 (a1 + 1) (nI (mL μ1 (a1 + 1))) _ ?_ n14 0 μ1 h
  intro v13 μ12 h
  exact r_vret (pc := 64) C d_C_letGo_64 (by decide) (by decide) h
theorem c_C_drainUpTo {l : Launch} (hl : l.stackTraces = false) {G : Gl} {a1 : Int32} {post : Mem → Prop} {μ : Mem} (h : wC_drainUpTo a1 post μ) : Ct l G i_C_drainUpTo [.inr (.inl (some 0)), .inl a1] μ (poV post) noX := by
  refine ct_of hl (by decide) (Nat.le_of_ble_eq_true rfl) ?_
  intro K hKl C hE
  clear hl hKl
  replace C : Cx K G prog_1_method_26_code "LineCollector" 4 { frames := 4, cells := 0, slots := 0, locals := 85 } (none) (poV post) noX := C
  show Rn K G 4 0 [(0, .inr (.inl (some 0))), (1, .inl a1)] [] μ 0 0
  have L_2 : ∀ (l1 : Int32) (k : Int32 → Mem → Prop), (∀ (v2 : Int32) (μ : Mem), k v2 μ → Rn K G 4 68 [] [] μ 0 0) → ∀ (n : Nat) (l2 : Int32) (μ : Mem), wC_drainUpTo_2 l1 k n l2 μ → Rn K G 4 2 [(0, .inr (.inl (some 0))), (1, .inl l1), (2, .inl l2)] [] μ 0 0 := by
    intro l1 k hk n
    induction n with
    | zero => intro l2 μ h; exact h.elim
    | succ n ih =>
      intro l2 μ h
      unfold wC_drainUpTo_2 at h
      refine r_iload_n (pc := 2) C d_C_drainUpTo_2 rfl 2 rfl ?_
      refine r_iload_n (pc := 3) C d_C_drainUpTo_3 rfl 1 rfl ?_
      refine r_icmp_ge (tgt := 68) (pc := 4) C d_C_drainUpTo_4 (by decide) ?_ ?_
      · intro hc; replace h := h.1 hc
        refine r_sub [] rfl ?_
        exact hk l2 μ h
      · intro hc; replace h := h.2 hc
        refine r_aload_n (pc := 7) C d_C_drainUpTo_7 rfl 0 rfl ?_
        refine r_getR (pc := 8) (ci := 0) C rfl 5 (by decide) (k_111 C.w) rfl (lay_O rfl) d_C_drainUpTo_8 ?_
        refine r_getI (pc := 11) (ci := 4) C rfl 2 (by decide) (k_98 C.w) rfl (lay_O rfl) d_C_drainUpTo_11 ?_
        refine r_if_le (tgt := 68) (pc := 14) C d_C_drainUpTo_14 (by decide) ?_ ?_
        · intro hc; replace h := h.1 hc
          refine r_sub [] rfl ?_
          exact hk l2 μ h
        · intro hc; replace h := h.2 hc
          refine r_aload_n (pc := 17) C d_C_drainUpTo_17 rfl 0 rfl ?_
          refine r_getR (pc := 18) (ci := 0) C rfl 5 (by decide) (k_111 C.w) rfl (lay_O rfl) d_C_drainUpTo_18 ?_
          refine r_cVq (pc := 21) (a' := 0) (b' := 0) (As := []) (ci := 4) C (c_W_takeFirst C.s h) o_W_takeFirst rfl (lay_O rfl) (k_149 C.w) rfl ⟨by decide, by decide, by decide, by decide⟩ rfl rfl (Nat.le_of_ble_eq_true rfl) d_C_drainUpTo_21 rfl ?_
          intro r2 μ1 h
          refine r_astore_n (pc := 24) (lv' := [(0, .inr (.inl (some 0))), (1, .inl l1), (2, .inl l2)]) C d_C_drainUpTo_24 rfl (by decide) rfl ?_
          refine r_aload_n (pc := 25) C d_C_drainUpTo_25 rfl 0 rfl ?_
          refine r_ifnull (tgt := 62) (pc := 26) C d_C_drainUpTo_26 (by decide) ?_ ?_
          · intro h0; subst h0; replace h := h.1 rfl
            refine r_iinc (pc := 62) (v := 1) (lv' := [(3, .inr (.inl none)), (0, .inr (.inl (some 0))), (1, .inl l1)]) C d_C_drainUpTo_62 3 rfl (by decide) (by decide) rfl ?_
            refine r_goto (tgt := 2) (pc := 65) C d_C_drainUpTo_65 (by decide) ?_
            refine r_sub [2, 3, 0] rfl ?_
            exact ih (l2 + 1) μ1 h
          · intro y3 h0; subst h0; replace h := h.2 y3 rfl
            refine r_aload_n (pc := 29) C d_C_drainUpTo_29 rfl 0 rfl ?_
            obtain ⟨o4, h⟩ := h
            refine r_getI (pc := 30) (ci := 5) C rfl 5 (by decide) (k_472 C.w) rfl (ok_O o4) d_C_drainUpTo_30 ?_
            refine r_iconst (pc := 33) C d_C_drainUpTo_33 (v := 3) (by decide) ?_
            refine r_icmp_ne (tgt := 40) (pc := 34) C d_C_drainUpTo_34 (by decide) ?_ ?_
            · intro hc; replace h := h.2 hc
              refine r_aload_n (pc := 40) C d_C_drainUpTo_40 rfl 0 rfl ?_
              refine r_dupR (pc := 41) C d_C_drainUpTo_41 ?_
              refine r_getI (pc := 42) (ci := 5) C rfl 5 (by decide) (k_472 C.w) rfl (ok_O o4) d_C_drainUpTo_42 ?_
              refine r_iconst (pc := 45) C d_C_drainUpTo_45 (v := 1) (by decide) ?_
              refine r_isub (pc := 46) C d_C_drainUpTo_46 ?_
              refine r_putI (pc := 47) (ci := 5) C rfl 5 (by decide) (k_472 C.w) rfl rfl p_I (ok_O o4) d_C_drainUpTo_47 ?_
              intro μ5 eμ5; replace h := h μ5 eμ5
              refine r_aload_n (pc := 50) C d_C_drainUpTo_50 rfl 0 rfl ?_
              refine r_getI (pc := 51) (ci := 5) C rfl 5 (by decide) (k_472 C.w) rfl (ok_O (ok_s eμ5 o4)) d_C_drainUpTo_51 ?_
              refine r_if_ne (tgt := 62) (pc := 54) C d_C_drainUpTo_54 (by decide) ?_ ?_
              · intro hc; replace h := h.2 hc
                refine r_iinc (pc := 62) (v := 1) (lv' := [(3, .inr (.inl (some y3))), (0, .inr (.inl (some 0))), (1, .inl l1)]) C d_C_drainUpTo_62 3 rfl (by decide) (by decide) rfl ?_
                refine r_goto (tgt := 2) (pc := 65) C d_C_drainUpTo_65 (by decide) ?_
                refine r_sub [2, 3, 0] rfl ?_
                exact ih (l2 + 1) μ5 h
              · intro hc; replace h := h.1 hc
                refine r_aload_n (pc := 57) C d_C_drainUpTo_57 rfl 1 rfl ?_
                refine r_aload_n (pc := 58) C d_C_drainUpTo_58 rfl 0 rfl ?_
                refine r_cVv (pc := 59) (a' := 0) (b' := 0) (As := [.inr (.inl (some y3))]) (ci := 0) C (c_C_letGo C.s h) o_C_letGo rfl (lay_O rfl) (k_153 C.w) rfl ⟨by decide, by decide, by decide, by decide⟩ rfl rfl (Nat.le_of_ble_eq_true rfl) d_C_drainUpTo_59 rfl ?_
                intro μ6 h
                refine r_iinc (pc := 62) (v := 1) (lv' := [(3, .inr (.inl (some y3))), (0, .inr (.inl (some 0))), (1, .inl l1)]) C d_C_drainUpTo_62 3 rfl (by decide) (by decide) rfl ?_
                refine r_goto (tgt := 2) (pc := 65) C d_C_drainUpTo_65 (by decide) ?_
                refine r_sub [2, 3, 0] rfl ?_
                exact ih (l2 + 1) μ6 h
            · intro hc; replace h := h.1 hc
              refine r_goto (tgt := 62) (pc := 37) C d_C_drainUpTo_37 (by decide) ?_
              refine r_iinc (pc := 62) (v := 1) (lv' := [(3, .inr (.inl (some y3))), (0, .inr (.inl (some 0))), (1, .inl l1)]) C d_C_drainUpTo_62 3 rfl (by decide) (by decide) rfl ?_
              refine r_goto (tgt := 2) (pc := 65) C d_C_drainUpTo_65 (by decide) ?_
              refine r_sub [2, 3, 0] rfl ?_
              exact ih (l2 + 1) μ1 h
  unfold wC_drainUpTo at h
  refine r_iconst (pc := 0) C d_C_drainUpTo_0 (v := 0) (by decide) ?_
  refine r_istore_n (pc := 1) (lv' := [(0, .inr (.inl (some 0))), (1, .inl a1)]) C d_C_drainUpTo_1 rfl (by decide) rfl ?_
  obtain ⟨n9, h⟩ := h
  refine r_sub [1, 2, 0] rfl ?_
  refine L_2 a1 _ ?_ n9 0 μ h
  intro v8 μ7 h
  exact r_vret (pc := 68) C d_C_drainUpTo_68 (by decide) (by decide) h
end
