section
-- ===== PART A: goes FIRST, ahead of the names: the tables' words, and 'selects' of the private methods out of them =====
/-- a private method of a class that the tables say can be made, by its rows of tables_1 -/
def lw_okq (q : MethodName × Nat) : Prop := (q.1.cls ≠ "java/lang/invoke/MethodHandle" ∧ q.1.cls ≠ "java/lang/invoke/VarHandle") ∧ Cond.instantiable q.1.cls q.2 ∈ tables_1 ∧ Cond.privateMethod q.1 ∈ tables_1 ∧ Cond.instanceMethod q.1 ∈ tables_1
theorem lw_p0 : lw_okq (⟨"NeighbourDesk", "isBad", "()Z"⟩, 12) := ⟨⟨by decide +kernel, by decide +kernel⟩, List.mem_of_getElem? (i := 19) (by decide +kernel), List.mem_of_getElem? (i := 214) (by decide +kernel), List.mem_of_getElem? (i := 215) (by decide +kernel)⟩
theorem lw_p1 : lw_okq (⟨"NeighbourDesk", "takeIn", "()I"⟩, 12) := ⟨⟨by decide +kernel, by decide +kernel⟩, List.mem_of_getElem? (i := 19) (by decide +kernel), List.mem_of_getElem? (i := 235) (by decide +kernel), List.mem_of_getElem? (i := 236) (by decide +kernel)⟩
theorem lw_p2 : lw_okq (⟨"NeighbourDesk", "isConflict", "()Z"⟩, 12) := ⟨⟨by decide +kernel, by decide +kernel⟩, List.mem_of_getElem? (i := 19) (by decide +kernel), List.mem_of_getElem? (i := 239) (by decide +kernel), List.mem_of_getElem? (i := 240) (by decide +kernel)⟩
theorem lw_p3 : lw_okq (⟨"NeighbourDesk", "meetConflict", "()V"⟩, 12) := ⟨⟨by decide +kernel, by decide +kernel⟩, List.mem_of_getElem? (i := 19) (by decide +kernel), List.mem_of_getElem? (i := 251) (by decide +kernel), List.mem_of_getElem? (i := 252) (by decide +kernel)⟩
theorem lw_p4 : lw_okq (⟨"NeighbourDesk", "giveUp", "()V"⟩, 12) := ⟨⟨by decide +kernel, by decide +kernel⟩, List.mem_of_getElem? (i := 19) (by decide +kernel), List.mem_of_getElem? (i := 255) (by decide +kernel), List.mem_of_getElem? (i := 256) (by decide +kernel)⟩
theorem lw_p5 : lw_okq (⟨"NeighbourDesk", "loseWaiting", "(LNeighbourDesk$Entry;)V"⟩, 12) := ⟨⟨by decide +kernel, by decide +kernel⟩, List.mem_of_getElem? (i := 19) (by decide +kernel), List.mem_of_getElem? (i := 259) (by decide +kernel), List.mem_of_getElem? (i := 260) (by decide +kernel)⟩
theorem lw_p6 : lw_okq (⟨"NeighbourDesk", "announce", "()V"⟩, 12) := ⟨⟨by decide +kernel, by decide +kernel⟩, List.mem_of_getElem? (i := 19) (by decide +kernel), List.mem_of_getElem? (i := 274) (by decide +kernel), List.mem_of_getElem? (i := 275) (by decide +kernel)⟩
theorem lw_p7 : lw_okq (⟨"NeighbourDesk", "request", "(JII)V"⟩, 12) := ⟨⟨by decide +kernel, by decide +kernel⟩, List.mem_of_getElem? (i := 19) (by decide +kernel), List.mem_of_getElem? (i := 278) (by decide +kernel), List.mem_of_getElem? (i := 279) (by decide +kernel)⟩
theorem lw_p8 : lw_okq (⟨"NeighbourDesk", "learn", "(LNeighbourDesk$Entry;J)V"⟩, 12) := ⟨⟨by decide +kernel, by decide +kernel⟩, List.mem_of_getElem? (i := 19) (by decide +kernel), List.mem_of_getElem? (i := 292) (by decide +kernel), List.mem_of_getElem? (i := 293) (by decide +kernel)⟩
theorem lw_p9 : lw_okq (⟨"NeighbourDesk", "takeInForOwn", "()V"⟩, 12) := ⟨⟨by decide +kernel, by decide +kernel⟩, List.mem_of_getElem? (i := 19) (by decide +kernel), List.mem_of_getElem? (i := 304) (by decide +kernel), List.mem_of_getElem? (i := 305) (by decide +kernel)⟩
theorem lw_p10 : lw_okq (⟨"NeighbourDesk$Cache", "moveToEnd", "(I)LNeighbourDesk$Entry;"⟩, 2) := ⟨⟨by decide +kernel, by decide +kernel⟩, List.mem_of_getElem? (i := 100) (by decide +kernel), List.mem_of_getElem? (i := 316) (by decide +kernel), List.mem_of_getElem? (i := 317) (by decide +kernel)⟩
theorem lw_p11 : lw_okq (⟨"java/lang/Throwable", "fillInStackTrace", "(I)Ljava/lang/Throwable;"⟩, 6) := ⟨⟨by decide +kernel, by decide +kernel⟩, List.mem_of_getElem? (i := 384) (by decide +kernel), List.mem_of_getElem? (i := 382) (by decide +kernel), List.mem_of_getElem? (i := 383) (by decide +kernel)⟩
theorem lw_p12 : lw_okq (⟨"NeighbourDesk", "probe", "()V"⟩, 12) := ⟨⟨by decide +kernel, by decide +kernel⟩, List.mem_of_getElem? (i := 19) (by decide +kernel), List.mem_of_getElem? (i := 446) (by decide +kernel), List.mem_of_getElem? (i := 447) (by decide +kernel)⟩
theorem lw_p13 : lw_okq (⟨"NeighbourDesk", "sendToStranger", "(II)I"⟩, 12) := ⟨⟨by decide +kernel, by decide +kernel⟩, List.mem_of_getElem? (i := 19) (by decide +kernel), List.mem_of_getElem? (i := 457) (by decide +kernel), List.mem_of_getElem? (i := 458) (by decide +kernel)⟩
theorem lw_p14 : lw_okq (⟨"NeighbourDesk", "putInLine", "(LNeighbourDesk$Entry;I)I"⟩, 12) := ⟨⟨by decide +kernel, by decide +kernel⟩, List.mem_of_getElem? (i := 19) (by decide +kernel), List.mem_of_getElem? (i := 461) (by decide +kernel), List.mem_of_getElem? (i := 462) (by decide +kernel)⟩
theorem lw_p15 : lw_okq (⟨"NeighbourDesk", "sendTo", "(LNeighbourDesk$Entry;I)I"⟩, 12) := ⟨⟨by decide +kernel, by decide +kernel⟩, List.mem_of_getElem? (i := 19) (by decide +kernel), List.mem_of_getElem? (i := 469) (by decide +kernel), List.mem_of_getElem? (i := 470) (by decide +kernel)⟩
def lw_privs_1 : List (MethodName × Nat) := [(⟨"NeighbourDesk", "isBad", "()Z"⟩, 12), (⟨"NeighbourDesk", "takeIn", "()I"⟩, 12), (⟨"NeighbourDesk", "isConflict", "()Z"⟩, 12), (⟨"NeighbourDesk", "meetConflict", "()V"⟩, 12), (⟨"NeighbourDesk", "giveUp", "()V"⟩, 12), (⟨"NeighbourDesk", "loseWaiting", "(LNeighbourDesk$Entry;)V"⟩, 12), (⟨"NeighbourDesk", "announce", "()V"⟩, 12), (⟨"NeighbourDesk", "request", "(JII)V"⟩, 12), (⟨"NeighbourDesk", "learn", "(LNeighbourDesk$Entry;J)V"⟩, 12), (⟨"NeighbourDesk", "takeInForOwn", "()V"⟩, 12), (⟨"NeighbourDesk$Cache", "moveToEnd", "(I)LNeighbourDesk$Entry;"⟩, 2), (⟨"java/lang/Throwable", "fillInStackTrace", "(I)Ljava/lang/Throwable;"⟩, 6), (⟨"NeighbourDesk", "probe", "()V"⟩, 12), (⟨"NeighbourDesk", "sendToStranger", "(II)I"⟩, 12), (⟨"NeighbourDesk", "putInLine", "(LNeighbourDesk$Entry;I)I"⟩, 12), (⟨"NeighbourDesk", "sendTo", "(LNeighbourDesk$Entry;I)I"⟩, 12)]
theorem lw_r1 : ∀ q ∈ lw_privs_1, lw_okq q := List.forall_mem_cons.mpr ⟨lw_p0, List.forall_mem_cons.mpr ⟨lw_p1, List.forall_mem_cons.mpr ⟨lw_p2, List.forall_mem_cons.mpr ⟨lw_p3, List.forall_mem_cons.mpr ⟨lw_p4, List.forall_mem_cons.mpr ⟨lw_p5, List.forall_mem_cons.mpr ⟨lw_p6, List.forall_mem_cons.mpr ⟨lw_p7, List.forall_mem_cons.mpr ⟨lw_p8, List.forall_mem_cons.mpr ⟨lw_p9, List.forall_mem_cons.mpr ⟨lw_p10, List.forall_mem_cons.mpr ⟨lw_p11, List.forall_mem_cons.mpr ⟨lw_p12, List.forall_mem_cons.mpr ⟨lw_p13, List.forall_mem_cons.mpr ⟨lw_p14, List.forall_mem_cons.mpr ⟨lw_p15, fun _ h => absurd h List.not_mem_nil⟩⟩⟩⟩⟩⟩⟩⟩⟩⟩⟩⟩⟩⟩⟩⟩
theorem lw_p16 : lw_okq (⟨"NeighbourDesk", "tickOwn", "()V"⟩, 12) := ⟨⟨by decide +kernel, by decide +kernel⟩, List.mem_of_getElem? (i := 19) (by decide +kernel), List.mem_of_getElem? (i := 480) (by decide +kernel), List.mem_of_getElem? (i := 481) (by decide +kernel)⟩
theorem lw_p17 : lw_okq (⟨"NeighbourDesk", "tickEntries", "()V"⟩, 12) := ⟨⟨by decide +kernel, by decide +kernel⟩, List.mem_of_getElem? (i := 19) (by decide +kernel), List.mem_of_getElem? (i := 484) (by decide +kernel), List.mem_of_getElem? (i := 485) (by decide +kernel)⟩
theorem lw_p18 : lw_okq (⟨"NeighbourDesk", "isOver", "(LNeighbourDesk$Entry;)Z"⟩, 12) := ⟨⟨by decide +kernel, by decide +kernel⟩, List.mem_of_getElem? (i := 19) (by decide +kernel), List.mem_of_getElem? (i := 488) (by decide +kernel), List.mem_of_getElem? (i := 489) (by decide +kernel)⟩
theorem lw_p19 : lw_okq (⟨"NeighbourDesk", "tickEntry", "(LNeighbourDesk$Entry;)V"⟩, 12) := ⟨⟨by decide +kernel, by decide +kernel⟩, List.mem_of_getElem? (i := 19) (by decide +kernel), List.mem_of_getElem? (i := 493) (by decide +kernel), List.mem_of_getElem? (i := 494) (by decide +kernel)⟩
theorem lw_p20 : lw_okq (⟨"NeighbourDeskModel", "heard", "()I"⟩, 27) := ⟨⟨by decide +kernel, by decide +kernel⟩, List.mem_of_getElem? (i := 614) (by decide +kernel), List.mem_of_getElem? (i := 727) (by decide +kernel), List.mem_of_getElem? (i := 728) (by decide +kernel)⟩
theorem lw_p21 : lw_okq (⟨"NeighbourDeskModel", "isBad", "()Z"⟩, 27) := ⟨⟨by decide +kernel, by decide +kernel⟩, List.mem_of_getElem? (i := 614) (by decide +kernel), List.mem_of_getElem? (i := 731) (by decide +kernel), List.mem_of_getElem? (i := 732) (by decide +kernel)⟩
theorem lw_p22 : lw_okq (⟨"NeighbourDeskModel", "number", "(II)J"⟩, 27) := ⟨⟨by decide +kernel, by decide +kernel⟩, List.mem_of_getElem? (i := 614) (by decide +kernel), List.mem_of_getElem? (i := 735) (by decide +kernel), List.mem_of_getElem? (i := 736) (by decide +kernel)⟩
theorem lw_p23 : lw_okq (⟨"NeighbourDeskModel", "address", "(I)I"⟩, 27) := ⟨⟨by decide +kernel, by decide +kernel⟩, List.mem_of_getElem? (i := 614) (by decide +kernel), List.mem_of_getElem? (i := 740) (by decide +kernel), List.mem_of_getElem? (i := 741) (by decide +kernel)⟩
theorem lw_p24 : lw_okq (⟨"NeighbourDeskModel", "conflict", "()I"⟩, 27) := ⟨⟨by decide +kernel, by decide +kernel⟩, List.mem_of_getElem? (i := 614) (by decide +kernel), List.mem_of_getElem? (i := 744) (by decide +kernel), List.mem_of_getElem? (i := 745) (by decide +kernel)⟩
theorem lw_p25 : lw_okq (⟨"NeighbourDeskModel", "request", "(JI)V"⟩, 27) := ⟨⟨by decide +kernel, by decide +kernel⟩, List.mem_of_getElem? (i := 614) (by decide +kernel), List.mem_of_getElem? (i := 748) (by decide +kernel), List.mem_of_getElem? (i := 749) (by decide +kernel)⟩
theorem lw_p26 : lw_okq (⟨"NeighbourDeskModel", "sendPacket", "(JIIJI)V"⟩, 27) := ⟨⟨by decide +kernel, by decide +kernel⟩, List.mem_of_getElem? (i := 614) (by decide +kernel), List.mem_of_getElem? (i := 752) (by decide +kernel), List.mem_of_getElem? (i := 753) (by decide +kernel)⟩
theorem lw_p27 : lw_okq (⟨"NeighbourDeskModel", "giveUp", "()V"⟩, 27) := ⟨⟨by decide +kernel, by decide +kernel⟩, List.mem_of_getElem? (i := 614) (by decide +kernel), List.mem_of_getElem? (i := 756) (by decide +kernel), List.mem_of_getElem? (i := 757) (by decide +kernel)⟩
theorem lw_p28 : lw_okq (⟨"NeighbourDeskModel", "goes", "(I)V"⟩, 27) := ⟨⟨by decide +kernel, by decide +kernel⟩, List.mem_of_getElem? (i := 614) (by decide +kernel), List.mem_of_getElem? (i := 760) (by decide +kernel), List.mem_of_getElem? (i := 761) (by decide +kernel)⟩
theorem lw_p29 : lw_okq (⟨"NeighbourDeskModel", "lose", "(I)V"⟩, 27) := ⟨⟨by decide +kernel, by decide +kernel⟩, List.mem_of_getElem? (i := 614) (by decide +kernel), List.mem_of_getElem? (i := 764) (by decide +kernel), List.mem_of_getElem? (i := 765) (by decide +kernel)⟩
theorem lw_p30 : lw_okq (⟨"NeighbourDeskModel", "take", "(I)V"⟩, 27) := ⟨⟨by decide +kernel, by decide +kernel⟩, List.mem_of_getElem? (i := 614) (by decide +kernel), List.mem_of_getElem? (i := 768) (by decide +kernel), List.mem_of_getElem? (i := 769) (by decide +kernel)⟩
theorem lw_p31 : lw_okq (⟨"NeighbourDeskModel", "move", "(II)V"⟩, 27) := ⟨⟨by decide +kernel, by decide +kernel⟩, List.mem_of_getElem? (i := 614) (by decide +kernel), List.mem_of_getElem? (i := 772) (by decide +kernel), List.mem_of_getElem? (i := 773) (by decide +kernel)⟩
def lw_privs_2 : List (MethodName × Nat) := [(⟨"NeighbourDesk", "tickOwn", "()V"⟩, 12), (⟨"NeighbourDesk", "tickEntries", "()V"⟩, 12), (⟨"NeighbourDesk", "isOver", "(LNeighbourDesk$Entry;)Z"⟩, 12), (⟨"NeighbourDesk", "tickEntry", "(LNeighbourDesk$Entry;)V"⟩, 12), (⟨"NeighbourDeskModel", "heard", "()I"⟩, 27), (⟨"NeighbourDeskModel", "isBad", "()Z"⟩, 27), (⟨"NeighbourDeskModel", "number", "(II)J"⟩, 27), (⟨"NeighbourDeskModel", "address", "(I)I"⟩, 27), (⟨"NeighbourDeskModel", "conflict", "()I"⟩, 27), (⟨"NeighbourDeskModel", "request", "(JI)V"⟩, 27), (⟨"NeighbourDeskModel", "sendPacket", "(JIIJI)V"⟩, 27), (⟨"NeighbourDeskModel", "giveUp", "()V"⟩, 27), (⟨"NeighbourDeskModel", "goes", "(I)V"⟩, 27), (⟨"NeighbourDeskModel", "lose", "(I)V"⟩, 27), (⟨"NeighbourDeskModel", "take", "(I)V"⟩, 27), (⟨"NeighbourDeskModel", "move", "(II)V"⟩, 27)]
theorem lw_r2 : ∀ q ∈ lw_privs_2, lw_okq q := List.forall_mem_cons.mpr ⟨lw_p16, List.forall_mem_cons.mpr ⟨lw_p17, List.forall_mem_cons.mpr ⟨lw_p18, List.forall_mem_cons.mpr ⟨lw_p19, List.forall_mem_cons.mpr ⟨lw_p20, List.forall_mem_cons.mpr ⟨lw_p21, List.forall_mem_cons.mpr ⟨lw_p22, List.forall_mem_cons.mpr ⟨lw_p23, List.forall_mem_cons.mpr ⟨lw_p24, List.forall_mem_cons.mpr ⟨lw_p25, List.forall_mem_cons.mpr ⟨lw_p26, List.forall_mem_cons.mpr ⟨lw_p27, List.forall_mem_cons.mpr ⟨lw_p28, List.forall_mem_cons.mpr ⟨lw_p29, List.forall_mem_cons.mpr ⟨lw_p30, List.forall_mem_cons.mpr ⟨lw_p31, fun _ h => absurd h List.not_mem_nil⟩⟩⟩⟩⟩⟩⟩⟩⟩⟩⟩⟩⟩⟩⟩⟩
theorem lw_p32 : lw_okq (⟨"NeighbourDeskModel", "find", "(I)I"⟩, 27) := ⟨⟨by decide +kernel, by decide +kernel⟩, List.mem_of_getElem? (i := 614) (by decide +kernel), List.mem_of_getElem? (i := 776) (by decide +kernel), List.mem_of_getElem? (i := 777) (by decide +kernel)⟩
theorem lw_p33 : lw_okq (⟨"NeighbourDeskModel", "learn", "(IJ)V"⟩, 27) := ⟨⟨by decide +kernel, by decide +kernel⟩, List.mem_of_getElem? (i := 614) (by decide +kernel), List.mem_of_getElem? (i := 780) (by decide +kernel), List.mem_of_getElem? (i := 781) (by decide +kernel)⟩
theorem lw_p34 : lw_okq (⟨"NeighbourDeskModel", "sendData", "(JI)V"⟩, 27) := ⟨⟨by decide +kernel, by decide +kernel⟩, List.mem_of_getElem? (i := 614) (by decide +kernel), List.mem_of_getElem? (i := 784) (by decide +kernel), List.mem_of_getElem? (i := 785) (by decide +kernel)⟩
theorem lw_p35 : lw_okq (⟨"NeighbourDeskModel", "makeRoom", "()Z"⟩, 27) := ⟨⟨by decide +kernel, by decide +kernel⟩, List.mem_of_getElem? (i := 614) (by decide +kernel), List.mem_of_getElem? (i := 788) (by decide +kernel), List.mem_of_getElem? (i := 789) (by decide +kernel)⟩
theorem lw_p36 : lw_okq (⟨"NeighbourDeskModel", "make", "(IIJ)V"⟩, 27) := ⟨⟨by decide +kernel, by decide +kernel⟩, List.mem_of_getElem? (i := 614) (by decide +kernel), List.mem_of_getElem? (i := 792) (by decide +kernel), List.mem_of_getElem? (i := 793) (by decide +kernel)⟩
theorem lw_p37 : lw_okq (⟨"NeighbourDeskModel", "probe", "()V"⟩, 27) := ⟨⟨by decide +kernel, by decide +kernel⟩, List.mem_of_getElem? (i := 614) (by decide +kernel), List.mem_of_getElem? (i := 800) (by decide +kernel), List.mem_of_getElem? (i := 801) (by decide +kernel)⟩
theorem lw_p38 : lw_okq (⟨"NeighbourDeskModel", "use", "(I)V"⟩, 27) := ⟨⟨by decide +kernel, by decide +kernel⟩, List.mem_of_getElem? (i := 614) (by decide +kernel), List.mem_of_getElem? (i := 812) (by decide +kernel), List.mem_of_getElem? (i := 813) (by decide +kernel)⟩
theorem lw_p39 : lw_okq (⟨"NeighbourDeskModel", "ownTick", "()V"⟩, 27) := ⟨⟨by decide +kernel, by decide +kernel⟩, List.mem_of_getElem? (i := 614) (by decide +kernel), List.mem_of_getElem? (i := 820) (by decide +kernel), List.mem_of_getElem? (i := 821) (by decide +kernel)⟩
theorem lw_p40 : lw_okq (⟨"NeighbourDeskModel", "entryTick", "(I)Z"⟩, 27) := ⟨⟨by decide +kernel, by decide +kernel⟩, List.mem_of_getElem? (i := 614) (by decide +kernel), List.mem_of_getElem? (i := 824) (by decide +kernel), List.mem_of_getElem? (i := 825) (by decide +kernel)⟩
theorem lw_p41 : lw_okq (⟨"NeighbourDeskModel", "frame", "(I)I"⟩, 27) := ⟨⟨by decide +kernel, by decide +kernel⟩, List.mem_of_getElem? (i := 614) (by decide +kernel), List.mem_of_getElem? (i := 856) (by decide +kernel), List.mem_of_getElem? (i := 857) (by decide +kernel)⟩
def lw_privs_3 : List (MethodName × Nat) := [(⟨"NeighbourDeskModel", "find", "(I)I"⟩, 27), (⟨"NeighbourDeskModel", "learn", "(IJ)V"⟩, 27), (⟨"NeighbourDeskModel", "sendData", "(JI)V"⟩, 27), (⟨"NeighbourDeskModel", "makeRoom", "()Z"⟩, 27), (⟨"NeighbourDeskModel", "make", "(IIJ)V"⟩, 27), (⟨"NeighbourDeskModel", "probe", "()V"⟩, 27), (⟨"NeighbourDeskModel", "use", "(I)V"⟩, 27), (⟨"NeighbourDeskModel", "ownTick", "()V"⟩, 27), (⟨"NeighbourDeskModel", "entryTick", "(I)Z"⟩, 27), (⟨"NeighbourDeskModel", "frame", "(I)I"⟩, 27)]
theorem lw_r3 : ∀ q ∈ lw_privs_3, lw_okq q := List.forall_mem_cons.mpr ⟨lw_p32, List.forall_mem_cons.mpr ⟨lw_p33, List.forall_mem_cons.mpr ⟨lw_p34, List.forall_mem_cons.mpr ⟨lw_p35, List.forall_mem_cons.mpr ⟨lw_p36, List.forall_mem_cons.mpr ⟨lw_p37, List.forall_mem_cons.mpr ⟨lw_p38, List.forall_mem_cons.mpr ⟨lw_p39, List.forall_mem_cons.mpr ⟨lw_p40, List.forall_mem_cons.mpr ⟨lw_p41, fun _ h => absurd h List.not_mem_nil⟩⟩⟩⟩⟩⟩⟩⟩⟩⟩
def lw_privs : List (MethodName × Nat) := lw_privs_1 ++ (lw_privs_2 ++ (lw_privs_3))
def lw_tbl : List Cond := k2_sels lw_privs ++ tables_1
theorem lw_privs_ok : ∀ q ∈ lw_privs, lw_okq q := by
  show ∀ q ∈ lw_privs_1 ++ (lw_privs_2 ++ (lw_privs_3)), lw_okq q
  exact List.forall_mem_append.mpr ⟨lw_r1, List.forall_mem_append.mpr ⟨lw_r2, lw_r3⟩⟩
end
section
/-! ===== BEGIN words of one list among another's, by their places ===== -/
theorem goodIn_r {big : List Cond} (ws : List Cond) (ps : List Nat) (hp : ws = ps.filterMap (fun i => big[i]?)) (h : ws.all goodWord = true) : GoodIn big ws := by
  intro w hw
  have h1 := List.all_eq_true.mp h w hw
  rw [hp] at hw
  obtain ⟨i, -, hi⟩ := List.mem_filterMap.mp hw
  have hm : w ∈ big := by first | exact List.mem_of_getElem? hi | exact List.getElem?_mem hi
  exact ⟨hm, good_of_word h1⟩
theorem goodIn_app {big a b : List Cond} (ha : GoodIn big a) (hb : GoodIn big b) : GoodIn big (a ++ b) := fun w h => (List.mem_append.mp h).elim (ha w) (hb w)
theorem goodIn_ca {big a b : List Cond} {c : Cond} (ha : GoodIn big (c :: a)) (hb : GoodIn big b) : GoodIn big (c :: (a ++ b)) := fun w h => (List.mem_cons.mp h).elim (fun e => ha w (List.mem_cons.mpr (Or.inl e))) (fun h => (List.mem_append.mp h).elim (fun h => ha w (List.mem_cons.mpr (Or.inr h))) (hb w))
theorem goodIn_sub {big ws : List Cond} (hm : ∀ w ∈ ws, w ∈ big) (h : ws.all goodWord = true) : GoodIn big ws := fun w hw => ⟨hm w hw, good_of_word (List.all_eq_true.mp h w hw)⟩
/-! ===== END ===== -/

/-! ===== BEGIN exceptions that leave a method, and their catching by the caller (launches without stack traces) ===== -/
section VXA
/-! The laws vx_back, vx_callV, vx_callS, vx_callSW, vx_throw0, vx_throwS follow proofs of the library, with one case more: JvmDerived/Free/Laws.lean (Back.of_free), Shelf42/LK1.lean (callV, callS), Shelf/KitTraced.lean (throwNew0V, throwNewS). -/
/-- where a method has thrown q: the class by its name, the cell, what was written, the world -/
def vx_T (XC : String → State → State → Prop) (st : State) (q : Addr) (t : State) (mc ms : Nat) (free : Addr → Prop) : Prop :=
  ∃ (E : String) (ce : Cell) (L : List Loc), XC E st t ∧ t.heap[q]? = some ce ∧ ce.vm = .none ∧ st.vm.findClass E = some ce.cls ∧ st.WarmedH t.vm ∧ st.sameButNew ({ t with vm := st.vm } : State) L mc ms ∧ ∀ z ∈ L, free z.base
def vx_Q (Qc : Array Value → State → Outcome → State → Prop) (XC : String → State → State → Prop) (mc ms : Nat) (free : Addr → Prop) : Array Value → State → Outcome → State → Prop := fun a st o t =>
  (Qc a st o t ∧ ∃ L, FrameEnd st o t L mc ms ∧ ∀ q ∈ L, free q.base) ∨ ∃ q, o = .threw q ∧ vx_T XC st q t mc ms free
/-- a callee that returns or throws -/
def vx_Met (l : Launch) (y : MethodName) (ws : List Cond) (rm : Room) (Pc : Array Value → State → Prop) (Qc : Array Value → State → Outcome → State → Prop) (XC : String → State → State → Prop) (mc ms : Nat) (free : Addr → Prop) : Prop :=
  MetFree l y (headSpec ws rm) Pc (fun _ _ _ _ _ => True) (vx_Q Qc XC mc ms free)
def vx_Post (XC : String → State → State → Prop) (mc ms : Nat) (free : Addr → Prop) : Pt → Array Value → Addr → Pt → Prop := fun A a q B =>
  ∃ (g : JFrame) (mk : MethodId) (t : State) (L : List Loc) (E : String) (ce : Cell), B.U.heap = t.heap ∧ B.U.vm = t.vm ∧ XC E (A.U.calling g mk a) t ∧ t.heap[q]? = some ce ∧ ce.vm = .none ∧ A.U.vm.findClass E = some ce.cls ∧ B.locs = A.locs ++ L ∧ (∀ z ∈ L, free z.base) ∧ B.cells = A.cells + mc ∧ B.slots = A.slots + ms
def vx_Back (l : Launch) (R : Room) (p : Program) (e : Env) (below : List Frame) (s : State) (sargs : Array Value) (y : MethodName) (len W9 : Nat)
    (Pre : Pt → Array Value → Prop) (Post : Pt → Array Value → Option Value → Pt → Prop) (PostX : Pt → Array Value → Addr → Pt → Prop) : Prop :=
  ∀ (m : MethodId) (meth : Method) (c : Code) (A : Pt) (g : JFrame) (ig : Instr) (mk : MethodId) (a : Array Value),
    Stand p l e R s m sargs below meth c A.U A.locs A.cells A.slots → g.method = m → g.locals.size = c.maxLocals → decode c.code g.pc = .ok (ig, len) →
    2 * g.monitorRoom + (g.stack.map fun v => v.category).sum ≤ W9 → A.U.methodNamed? y = some mk → Pre A a →
    (∃ (v : Option Value) (B : Pt), Stand p l e R s m sargs below meth c B.U B.locs B.cells B.slots ∧ Post A a v B ∧
      Steps p.tables e below (doInvoke e (A.U.setTop g) [] mk a).1 (B.U.setTop { g with pc := g.pc + len, stack := v.toList ++ g.stack })) ∨
    (∃ (q : Addr) (B : Pt), Stand p l e R s m sargs below meth c B.U B.locs B.cells B.slots ∧ PostX A a q B ∧
      Steps p.tables e below (doInvoke e (A.U.setTop g) [] mk a).1 ((B.U.setTop g).pushFrame (.throwing q)))
section Payer
variable {l : Launch} {R : Room} {p : Program} {e : Env} {below : List Frame} {s : State} {sargs : Array Value} {y : MethodName} {len W9 : Nat}
theorem vx_back {ws : List Cond} {rm : Room} {Pc : Array Value → State → Prop} {Qc : Array Value → State → Outcome → State → Prop} {XC : String → State → State → Prop} {mc ms : Nat} {free : Addr → Prop} {bytes : ByteArray} {maxL : Nat} {ret : Option FieldType}
    (hM : vx_Met l y ws rm Pc Qc XC mc ms free) (hblind : FrameBlind Pc) (hrc : rm.cells = mc) (hrs : rm.slots = ms)
    (hframes : rm.frames + 1 ≤ R.frames) (hlocals : W9 + (maxL + 11) + rm.locals ≤ R.locals)
    (hws : ∀ w ∈ ws, ∀ a' U, s.WarmedH U.vm → w.before a' U = true) (hcode : Cond.code y bytes maxL ret ∈ ws) (hinit : ∀ a' U, s.WarmedH U.vm → (Cond.initialized y.cls).before a' U = true) :
    vx_Back l R p e below s sargs y len W9 (PreOf R mc ms Pc) (PostOf Qc mc ms free) (vx_Post XC mc ms free) := by
  intro m meth c A g ig mk a X hg hsize hdg hW hn hp
  have h1 : (headSpec ws rm).pre.before a A.U = true := atoms_intro fun w hw => hws w hw _ _ X.warmed
  have h2 : (Cond.code y bytes maxL ret).before a A.U = true := hws _ hcode _ _ X.warmed
  have h3 : (Cond.initialized y.cls).before a A.U = true := hinit _ _ X.warmed
  have h4 : A.cells + (headSpec ws rm).room.cells ≤ R.cells := by rw [show (headSpec ws rm).room.cells = mc from hrc]; exact hp.1
  have h5 : A.slots + (headSpec ws rm).room.slots ≤ R.slots := by rw [show (headSpec ws rm).room.slots = ms from hrs]; exact hp.2.1
  have hPc : Pc a (A.U.calling g mk a) := hblind _ _ _ _ hp.2.2
  obtain ⟨U, Ls, c0, s0⟩ := A
  dsimp only [Pt.U, Pt.locs, Pt.cells, Pt.slots] at h1 h2 h3 h4 h5 X hn hPc ⊢
  obtain ⟨methY, cY, hmY, hcY, -, hlY, -, -, -, -⟩ := Cond.code_spec hn h2
  obtain ⟨kY, hkY, -⟩ := className_of_methodNamed hn
  have hinitY : kY.init = .initialized := Cond.initialized_spec (findClass_of_methodNamed hn) hkY h3
  have h : At U g.method c below := by rw [hg]; exact X.here
  have hlocals9 : W9 + (maxL + 11) + (headSpec ws rm).room.locals ≤ R.locals := hlocals
  have happ : (headSpec ws rm).appliesLoose y e.platform (U.calling g mk a) = true :=
    Spec.appliesLoose_calling (g := g) h hdg hn hkY hinitY
      (X.room_calling (g := g) (R' := (headSpec ws rm).room) hsize hmY hcY hframes (by rw [hlY]; omega) h4 h5) h1
  obtain ⟨mid, hmid⟩ := h.above
  have hfr : (U.setTop g).frames = (.java g :: mid) ++ below := by rw [State.frames_setTop' g h.top, hmid]; rfl
  obtain ⟨o, s₂, hsteps, -, hend, hq⟩ := Steps.callFree hM p X.admits X.cas X.clock (acts := []) hfr happ hPc trivial
  have hq' : vx_Q Qc XC mc ms free a (U.calling g mk a) o s₂ := hq
  rw [State.frames_setTop' g h.top] at hend
  obtain ⟨g₀, hg0⟩ := Option.isSome_iff_exists.mp h.top
  obtain ⟨r, hr⟩ := State.topJava?_eq_some.mp hg0
  have hr' : (({ U with heap := s₂.heap, slotsUsed := s₂.slotsUsed } : State).setVm s₂.vm).frames = .java g₀ :: r := hr
  rcases hq' with ⟨hqc, L, hfe, hL⟩ | ⟨q, rfl, E, ce, L, hx, hce, hcv, hcl, hW₂, hsm, hL⟩
  · obtain ⟨⟨v, rfl⟩, hW₂, e2, q2, q3, q4, q5, q6⟩ := id hfe
    have e3 : s₂ = ({ (U.calling g mk a).setFrames s₂.frames with heap := s₂.heap, slotsUsed := s₂.slotsUsed } : State).setVm s₂.vm := by
      have : s₂ = ({ s₂ with vm := (U.calling g mk a).vm } : State).setVm s₂.vm := rfl
      rw [e2] at this
      exact this
    obtain ⟨c₂, i₂, len₂, hc₂, hd₂, hf₂⟩ := hend
    have hW' : U.WarmedH s₂.vm := hW₂
    have hcc : c₂ = c := by
      have h1 : s₂.code? g.method = U.code? g.method := by
        rw [State.code?_eq, State.code?_eq, hW'.alike.method?]
      exact Option.some.inj (hc₂.symm.trans (h1.trans h.code))
    subst hcc
    have hlen : len₂ = len := by rw [hdg] at hd₂; cases hd₂; rfl
    subst hlen
    have hs₂ : s₂ = (({ U with heap := s₂.heap, slotsUsed := s₂.slotsUsed } : State).setVm s₂.vm).setTop { g with pc := g.pc + len₂, stack := v.toList ++ g.stack } := by
      refine e3.trans ?_
      rw [hf₂, State.calling_eq h.top, State.setFrames_setFrames, State.setTop_of_frames _ hr', hr]
      rfl
    have hsame : U.sameButNew ({ U with heap := s₂.heap, slotsUsed := s₂.slotsUsed } : State) L mc ms := by
      refine ⟨?_, q2, q3, q4, q5, q6⟩
      obtain ⟨t, ht, -⟩ := State.frames_cons hr
      show ({ U with heap := s₂.heap, slotsUsed := s₂.slotsUsed } : State) = { U.setFrames U.frames with heap := s₂.heap, slotsUsed := s₂.slotsUsed }
      rw [State.setFrames_self ht]
    subst hg
    refine Or.inl ⟨v, ⟨(({ U with heap := s₂.heap, slotsUsed := s₂.slotsUsed } : State).setVm s₂.vm), Ls ++ L, c0 + mc, s0 + ms⟩,
      ⟨X.admits, X.cas, X.clock, X.frames, X.room, X.hears, X.method, X.code, (X.here.setHeapUsed s₂.heap s₂.slotsUsed).setVm hW'.alike, X.tail, State.WarmedH.trans X.warmed hW', X.limits, X.bytes, X.same.trans (hsame.setVm s.vm)⟩,
      ⟨g, mk, s₂, L, rfl, rfl, hqc, rfl, hL, rfl, rfl⟩, ?_⟩
    show Steps p.tables e below _ ((({ U with heap := s₂.heap, slotsUsed := s₂.slotsUsed } : State).setVm s₂.vm).setTop { g with pc := g.pc + len₂, stack := v.toList ++ g.stack })
    rw [← hs₂]
    exact hsteps
  · obtain ⟨e2, q2, q3, q4, q5, q6⟩ := id hsm
    have e3 : s₂ = ({ (U.calling g mk a).setFrames s₂.frames with heap := s₂.heap, slotsUsed := s₂.slotsUsed } : State).setVm s₂.vm := by
      have : s₂ = ({ s₂ with vm := (U.calling g mk a).vm } : State).setVm s₂.vm := rfl
      rw [e2] at this
      exact this
    have hf₂ : s₂.frames = .throwing q :: .java g :: U.frames.tail := hend
    have hW' : U.WarmedH s₂.vm := hW₂
    have hs₂ : s₂ = ((({ U with heap := s₂.heap, slotsUsed := s₂.slotsUsed } : State).setVm s₂.vm).setTop g).pushFrame (.throwing q) := by
      refine e3.trans ?_
      rw [hf₂, State.calling_eq h.top, State.setFrames_setFrames, State.pushFrame, State.frames_setTop _ hr', State.setTop_of_frames _ hr', State.setFrames_setFrames, hr]
      rfl
    have hsame : U.sameButNew ({ U with heap := s₂.heap, slotsUsed := s₂.slotsUsed } : State) L mc ms := by
      refine ⟨?_, q2, q3, q4, q5, q6⟩
      obtain ⟨t, ht, -⟩ := State.frames_cons hr
      show ({ U with heap := s₂.heap, slotsUsed := s₂.slotsUsed } : State) = { U.setFrames U.frames with heap := s₂.heap, slotsUsed := s₂.slotsUsed }
      rw [State.setFrames_self ht]
    subst hg
    refine Or.inr ⟨q, ⟨(({ U with heap := s₂.heap, slotsUsed := s₂.slotsUsed } : State).setVm s₂.vm), Ls ++ L, c0 + mc, s0 + ms⟩,
      ⟨X.admits, X.cas, X.clock, X.frames, X.room, X.hears, X.method, X.code, (X.here.setHeapUsed s₂.heap s₂.slotsUsed).setVm hW'.alike, X.tail, State.WarmedH.trans X.warmed hW', X.limits, X.bytes, X.same.trans (hsame.setVm s.vm)⟩,
      ⟨g, mk, s₂, L, E, ce, rfl, rfl, hx, hce, hcv, hcl, rfl, hL, rfl, rfl⟩, ?_⟩
    show Steps p.tables e below _ (((({ U with heap := s₂.heap, slotsUsed := s₂.slotsUsed } : State).setVm s₂.vm).setTop g).pushFrame (.throwing q))
    rw [← hs₂]
    exact hsteps
end Payer
section Calls
variable {p : Program} {l : Launch} {e : Env} {R : Room} {s : State} {m : MethodId} {args : Array Value} {below : List Frame} {meth : Method} {c : Code} {T : State} {locs : List Loc} {cells slots : Nat}
theorem vx_callV (X : Stand p l e R s m args below meth c T locs cells slots) (hexec : p.tables.exec = Jvm.exec) {own C : String} {index : Nat} {y : MethodName} {bytes : ByteArray} {maxL : Nat} {ret : Option FieldType}
    (hown : s.vm.findClass own = some m.cls) (hlink : (Cond.methodLink own index y).before args s = true) (hinst : (Cond.instanceMethod y).before args s = true) (hsel : (Cond.selects C y y).before args s = true)
    (hcode : (Cond.code y bytes maxL ret).before args s = true) (hy : y.cls ≠ "java/lang/invoke/MethodHandle" ∧ y.cls ≠ "java/lang/invoke/VarHandle")
    {W9 : Nat} {Pre : Pt → Array Value → Prop} {Post : Pt → Array Value → Option Value → Pt → Prop} {PostX : Pt → Array Value → Addr → Pt → Prop} (hK : vx_Back l R p e below s args y 3 W9 Pre Post PostX)
    {b : Addr} {cellB : Cell} (hcell : T.heap[b]? = some cellB) (hobj : cellB.vm.isStatics = false) (hcls : s.vm.findClass C = some cellB.cls)
    {g : JFrame} (hg : g.method = m) (hsize : g.locals.size = c.maxLocals) {argsL rest : List Value} (hlen : ∀ sig, parseMethodDescriptor y.desc = some sig → argsL.length = sig.parameters.length)
    (hstack : g.stack = argsL.reverse ++ .ref b :: rest) (hW : 2 * g.monitorRoom + (rest.map fun v => v.category).sum ≤ W9) (hdg : decode c.code g.pc = .ok (.invokevirtual index, 3))
    (hpre : ∀ vm₁, s.WarmedH vm₁ → Pre ⟨T.setVm vm₁, locs, cells, slots⟩ (Value.ref b :: argsL).toArray) :
    (∃ (v : Option Value) (vm₁ : Vm) (B : Pt), s.WarmedH vm₁ ∧ Stand p l e R s m args below meth c B.U B.locs B.cells B.slots ∧ Post ⟨T.setVm vm₁, locs, cells, slots⟩ (Value.ref b :: argsL).toArray v B ∧
      ∀ target, Steps p.tables e below (B.U.setTop { g with pc := g.pc + 3, stack := v.toList ++ rest }) target → Steps p.tables e below (T.setTop g) target) ∨
    (∃ (q : Addr) (vm₁ : Vm) (B : Pt), s.WarmedH vm₁ ∧ Stand p l e R s m args below meth c B.U B.locs B.cells B.slots ∧ PostX ⟨T.setVm vm₁, locs, cells, slots⟩ (Value.ref b :: argsL).toArray q B ∧
      Steps p.tables e below (T.setTop g) ((B.U.setTop { g with stack := rest }).pushFrame (.throwing q))) := by
  obtain ⟨mk, methM, hnamed, hmethM, hstM, habM⟩ := Cond.instanceMethod_spec hinst
  obtain ⟨methM', cM, hmethM', -, -, -, -, -, -, hsigM⟩ := Cond.code_spec hnamed hcode
  cases hmethM.symm.trans hmethM'
  obtain ⟨c2, r2, m2, q1, q2, q3, q4, kP, hkP, hkPi⟩ := Cond.selects_spec hsel
  cases hcls.symm.trans q1
  cases (State.methodFound?_of_named hnamed hy).symm.trans q2
  cases hnamed.symm.trans q3
  have hselP : selectMethod e.platform s.vm cellB.cls mk = .method mk := by rw [Launch.admits_selectMethod X.admits]; exact q4
  obtain ⟨vm₁, X₁, hstep₁⟩ := X.invokevirtual hexec hown hlink hnamed hmethM hstM hkP hkPi hy (a := b) (cell := cellB) hcell
    (fun z h => by rw [h] at hobj; cases hobj) hselP hmethM habM hkP hkPi (g := g) hg (argsL := argsL) (rest := rest) (hlen _ hsigM) hstack hdg
  rcases hK m meth c ⟨T.setVm vm₁, locs, cells, slots⟩ { g with stack := rest } (.invokevirtual index) mk (Value.ref b :: argsL).toArray X₁ hg hsize hdg hW (X₁.named hnamed) (hpre vm₁ X₁.warmed) with ⟨v, B, X', hpost, hsteps⟩ | ⟨q, B, X', hpost, hsteps⟩
  · exact Or.inl ⟨v, vm₁, B, X₁.warmed, X', hpost, fun target h => hstep₁ _ fun acts => by rw [doInvoke_state]; exact hsteps.trans h⟩
  · exact Or.inr ⟨q, vm₁, B, X₁.warmed, X', hpost, hstep₁ _ fun acts => by rw [doInvoke_state]; exact hsteps⟩
theorem vx_callS (X : Stand p l e R s m args below meth c T locs cells slots) (hexec : p.tables.exec = Jvm.exec) {own : String} {index : Nat} {y : MethodName} {bytes : ByteArray} {maxL : Nat} {ret : Option FieldType}
    (hown : s.vm.findClass own = some m.cls) (hlink : (Cond.methodLink own index y).before args s = true) (hstat : (Cond.static y).before args s = true) (hinit : (Cond.initialized y.cls).before args s = true)
    (hcode : (Cond.code y bytes maxL ret).before args s = true) (hy : y.cls ≠ "java/lang/invoke/MethodHandle" ∧ y.cls ≠ "java/lang/invoke/VarHandle")
    {W9 : Nat} {Pre : Pt → Array Value → Prop} {Post : Pt → Array Value → Option Value → Pt → Prop} {PostX : Pt → Array Value → Addr → Pt → Prop} (hK : vx_Back l R p e below s args y 3 W9 Pre Post PostX)
    {g : JFrame} (hg : g.method = m) (hsize : g.locals.size = c.maxLocals) {argsL rest : List Value} (hlen : ∀ sig, parseMethodDescriptor y.desc = some sig → argsL.length = sig.parameters.length)
    (hstack : g.stack = argsL.reverse ++ rest) (hW : 2 * g.monitorRoom + (rest.map fun v => v.category).sum ≤ W9) (hdg : decode c.code g.pc = .ok (.invokestatic index, 3))
    (hpre : ∀ vm₁, s.WarmedH vm₁ → Pre ⟨T.setVm vm₁, locs, cells, slots⟩ argsL.toArray) :
    (∃ (v : Option Value) (vm₁ : Vm) (B : Pt), s.WarmedH vm₁ ∧ Stand p l e R s m args below meth c B.U B.locs B.cells B.slots ∧ Post ⟨T.setVm vm₁, locs, cells, slots⟩ argsL.toArray v B ∧
      ∀ target, Steps p.tables e below (B.U.setTop { g with pc := g.pc + 3, stack := v.toList ++ rest }) target → Steps p.tables e below (T.setTop g) target) ∨
    (∃ (q : Addr) (vm₁ : Vm) (B : Pt), s.WarmedH vm₁ ∧ Stand p l e R s m args below meth c B.U B.locs B.cells B.slots ∧ PostX ⟨T.setVm vm₁, locs, cells, slots⟩ argsL.toArray q B ∧
      Steps p.tables e below (T.setTop g) ((B.U.setTop { g with stack := rest }).pushFrame (.throwing q))) := by
  obtain ⟨mk, hnamed⟩ := Cond.code_named hcode
  obtain ⟨methM, cM, hmethM, -, -, -, -, -, -, hsigM⟩ := Cond.code_spec hnamed hcode
  have hstatic : methM.isStatic = true := Cond.static_spec hnamed hmethM hstat
  obtain ⟨kP, hkP, -⟩ := className_of_methodNamed hnamed
  have hinitP : kP.init = .initialized := Cond.initialized_spec (findClass_of_methodNamed hnamed) hkP hinit
  obtain ⟨vm₁, X₁, hstep₁⟩ := X.invokestatic hexec hown hlink hnamed hmethM hstatic hkP hinitP hy (g := g) hg (argsL := argsL) (rest := rest) (hlen _ hsigM) hstack hdg
  rcases hK m meth c ⟨T.setVm vm₁, locs, cells, slots⟩ { g with stack := rest } (.invokestatic index) mk argsL.toArray X₁ hg hsize hdg hW (X₁.named hnamed) (hpre vm₁ X₁.warmed) with ⟨v, B, X', hpost, hsteps⟩ | ⟨q, B, X', hpost, hsteps⟩
  · exact Or.inl ⟨v, vm₁, B, X₁.warmed, X', hpost, fun target h => hstep₁ _ fun acts => by rw [doInvoke_state]; exact hsteps.trans h⟩
  · exact Or.inr ⟨q, vm₁, B, X₁.warmed, X', hpost, hstep₁ _ fun acts => by rw [doInvoke_state]; exact hsteps⟩
end Calls
theorem vx_cls {s : State} {T : State} {vm₁ : Vm} {E : String} {k : ClassId} (hW : s.WarmedH vm₁) (h : (T.setVm vm₁).vm.findClass E = some k) : s.vm.findClass E = some k := by
  have h1 : vm₁.findClass E = some k := h
  rw [hW.alike.findClass] at h1
  exact h1
/-- the method's frame g, with q thrown over it -/
def vx_W (p : Program) (l : Launch) (e : Env) (R : Room) (s : State) (m : MethodId) (args : Array Value) (below : List Frame) (meth : Method) (c : Code) (H : Heap) (locs : List Loc) (cells slots : Nat) (Q : State → Prop) (g : JFrame) (q : Addr) : Prop :=
  ∀ T : State, T.heap = H → Stand p l e R s m args below meth c T locs cells slots → ∃ t, Steps p.tables e below ((T.setTop g).pushFrame (.throwing q)) t ∧ Q t
def vx_Run (p : Program) (l : Launch) (e : Env) (R : Room) (s : State) (m : MethodId) (args : Array Value) (below : List Frame) (meth : Method) (c : Code) (H : Heap) (locs : List Loc) (cells slots mc ms : Nat) (g : JFrame) (rest : List Value) (Qa : State → Outcome → State → Prop) (XC : String → State → State → Prop) (free : Addr → Prop) : Prop :=
  ∀ T : State, T.heap = H → Stand p l e R s m args below meth c T locs cells slots →
    (∃ (v : Option Value) (st₀ t T' : State) (L : List Loc), st₀.heap = H ∧ Stand p l e R s m args below meth c T' (locs ++ L) (cells + mc) (slots + ms) ∧ (∀ q ∈ L, free q.base) ∧ T'.heap = t.heap ∧ T'.vm = t.vm ∧ Qa st₀ (.returned v) t ∧
      Goes p e below T g T' { g with pc := g.pc + 3, stack := v.toList ++ rest }) ∨
    (∃ (q : Addr) (st₀ t T' : State) (L : List Loc) (E : String) (ce : Cell), st₀.heap = H ∧ Stand p l e R s m args below meth c T' (locs ++ L) (cells + mc) (slots + ms) ∧ (∀ z ∈ L, free z.base) ∧ T'.heap = t.heap ∧ T'.vm = t.vm ∧ XC E st₀ t ∧ t.heap[q]? = some ce ∧ ce.vm = .none ∧ s.vm.findClass E = some ce.cls ∧
      Steps p.tables e below (T.setTop g) ((T'.setTop { g with stack := rest }).pushFrame (.throwing q)))
def vx_X {S : Type} (px : S → Prop) (B : String → S → State → Prop) (A : Nat → Prop) : String → State → State → Prop := fun E st t => ∃ u : S, px u ∧ B E u t ∧ va_F A st t
section Runs
variable {p : Program} {l : Launch} {e : Env} {R : Room} {s : State} {m : MethodId} {args : Array Value} {below : List Frame} {meth : Method} {c : Code} {H : Heap} {locs : List Loc} {cells slots : Nat}
variable {y : MethodName} {bytes cc : ByteArray} {maxL nL mc ms n index : Nat} {ret : Option FieldType} {ws : List Cond} {rm : Room} {Pc : Array Value → State → Prop} {Qc : Array Value → State → Outcome → State → Prop} {XC : String → State → State → Prop} {free : Addr → Prop} {Ts : List Cond} {own C : String} {b : Addr} {As rest : List Value} {g : JFrame}
theorem vx_callBack (cb : CallB R s args own index y bytes maxL ret ws rm mc ms n) (hM : vx_Met l y ws rm Pc Qc XC mc ms free) (hbl : FrameBlind Pc) : vx_Back l R p e below s args y 3 8 (PreOf R mc ms Pc) (PostOf Qc mc ms free) (vx_Post XC mc ms free) := by
  obtain ⟨hrc, hrs, hfr, hlo, hws, hcw, -, hini, -⟩ := cb
  exact vx_back (bytes := bytes) (maxL := maxL) (ret := ret) hM hbl hrc hrs hfr hlo hws hcw (fun a' U hW => word_at hW (Or.inl (by first | rfl | simp [Cond.onTables, Cond.keeps, Cond.steady])) hini)
theorem vx_runV (S : CallFix p m c cc nL s args Ts own) (hM : vx_Met l y ws rm Pc Qc XC mc ms free) (cw : CallW R s args own C index y bytes maxL ret ws rm mc ms n) (hp : PreV s H C b Pc As)
    (hg : g.method = m) (hn : As.length = n) (hsize : g.locals.size = nL) (hstack : g.stack = As.reverse ++ .ref b :: rest) (hW : 2 * g.monitorRoom + (rest.map fun v => v.category).sum ≤ 8) (hdg : decode cc g.pc = .ok (.invokevirtual index, 3)) (hf : cells + mc ≤ R.cells ∧ slots + ms ≤ R.slots) :
    vx_Run p l e R s m args below meth c H locs cells slots mc ms g rest (Qc (Value.ref b :: As).toArray) XC free := by
  have hK : vx_Back l R p e below s args y 3 8 (PreOf R mc ms Pc) (PostOf Qc mc ms free) (vx_Post XC mc ms free) := vx_callBack cw.1 hM hp.1
  obtain ⟨⟨-, -, -, -, -, -, hcode, -, hy, hlen, hl⟩, hin, hse⟩ := cw
  obtain ⟨hx, hb, hml, ho, -⟩ := S
  obtain ⟨-, ⟨cellB, hcB, hoB, hclB⟩, hPc⟩ := hp
  intro T hT X
  rcases vx_callV X hx (C := C) (bytes := bytes) (maxL := maxL) (ret := ret) ho hl hin hse hcode hy hK (by rw [hT]; exact hcB) hoB hclB hg (hsize.trans hml.symm) (argsL := As) (rest := rest) (fun sig h => hn.trans (hlen sig h)) hstack hW (by rw [hb]; exact hdg)
    (fun vm₁ hW₁ => ⟨hf.1, hf.2, hPc (T.setVm vm₁) hT hW₁⟩) with ⟨v, vm₁, ⟨U', l2, c2, s2⟩, hW₁, X', ⟨g', mk, t, L, e1, e2, hq, h1, hL, h2, h3⟩, st⟩ | ⟨q, vm₁, ⟨U', l2, c2, s2⟩, hW₁, X', ⟨g', mk, t, L, E, ce, e1, e2, hq, hce, hcv, hcl, h1, hL, h2, h3⟩, st⟩
  · dsimp only [Pt.U, Pt.locs, Pt.cells, Pt.slots] at X' e1 e2 h1 h2 h3 st
    subst h1; subst h2; subst h3
    exact Or.inl ⟨v, (T.setVm vm₁).calling g' mk (Value.ref b :: As).toArray, t, U', L, hT, X', hL, e1, e2, hq, st⟩
  · dsimp only [Pt.U, Pt.locs, Pt.cells, Pt.slots] at X' e1 e2 h1 h2 h3 st hcl
    subst h1; subst h2; subst h3
    exact Or.inr ⟨q, (T.setVm vm₁).calling g' mk (Value.ref b :: As).toArray, t, U', L, E, ce, hT, X', hL, e1, e2, hq, hce, hcv, vx_cls hW₁ hcl, st⟩
theorem vx_runS (S : CallFix p m c cc nL s args Ts own) (hM : vx_Met l y ws rm Pc Qc XC mc ms free) (cw : CallB R s args own index y bytes maxL ret ws rm mc ms n ∧ (Cond.static y).before args s = true) (hp : PreS s H Pc As)
    (hg : g.method = m) (hn : As.length = n) (hsize : g.locals.size = nL) (hstack : g.stack = As.reverse ++ rest) (hW : 2 * g.monitorRoom + (rest.map fun v => v.category).sum ≤ 8) (hdg : decode cc g.pc = .ok (.invokestatic index, 3)) (hf : cells + mc ≤ R.cells ∧ slots + ms ≤ R.slots) :
    vx_Run p l e R s m args below meth c H locs cells slots mc ms g rest (Qc As.toArray) XC free := by
  have hK : vx_Back l R p e below s args y 3 8 (PreOf R mc ms Pc) (PostOf Qc mc ms free) (vx_Post XC mc ms free) := vx_callBack cw.1 hM hp.1
  obtain ⟨⟨-, -, -, -, -, -, hcode, hini, hy, hlen, hl⟩, hstt⟩ := cw
  obtain ⟨hx, hb, hml, ho, -⟩ := S
  intro T hT X
  rcases vx_callS X hx (bytes := bytes) (maxL := maxL) (ret := ret) ho hl hstt hini hcode hy hK hg (hsize.trans hml.symm) (argsL := As) (rest := rest) (fun sig h => hn.trans (hlen sig h)) hstack hW (by rw [hb]; exact hdg)
    (fun vm₁ hW₁ => ⟨hf.1, hf.2, hp.2 (T.setVm vm₁) hT hW₁⟩) with ⟨v, vm₁, ⟨U', l2, c2, s2⟩, hW₁, X', ⟨g', mk, t, L, e1, e2, hq, h1, hL, h2, h3⟩, st⟩ | ⟨q, vm₁, ⟨U', l2, c2, s2⟩, hW₁, X', ⟨g', mk, t, L, E, ce, e1, e2, hq, hce, hcv, hcl, h1, hL, h2, h3⟩, st⟩
  · dsimp only [Pt.U, Pt.locs, Pt.cells, Pt.slots] at X' e1 e2 h1 h2 h3 st
    subst h1; subst h2; subst h3
    exact Or.inl ⟨v, (T.setVm vm₁).calling g' mk As.toArray, t, U', L, hT, X', hL, e1, e2, hq, st⟩
  · dsimp only [Pt.U, Pt.locs, Pt.cells, Pt.slots] at X' e1 e2 h1 h2 h3 st hcl
    subst h1; subst h2; subst h3
    exact Or.inr ⟨q, (T.setVm vm₁).calling g' mk As.toArray, t, U', L, E, ce, hT, X', hL, e1, e2, hq, hce, hcv, vx_cls hW₁ hcl, st⟩
end Runs
section Rows
variable {p : Program} {l : Launch} {e : Env} {R : Room} {s : State} {m : MethodId} {args : Array Value} {below : List Frame} {meth : Method} {c : Code} {H : Heap} {locs : List Loc} {cells slots : Nat} {Q : State → Prop}
variable {mc ms : Nat} {free : Addr → Prop} {A0 A1 : Nat → Prop} {H0 : Heap} {a : Array Value} {pc : Nat} {ls : Array Slot} {st0 rest : List Value}
theorem vx_keep {st₀ t T' : State} {L : List Loc} (h0 : st₀.heap = H) (e1 : T'.heap = t.heap) (hS : va_S A0 H0 H locs) (hA : ∀ q, q < H.size → A1 q → A0 q) (hf : ∀ q, free q → A0 q) (hL : ∀ q ∈ L, free q.base) (hF : va_F A1 st₀ t) :
    H.size ≤ T'.heap.size ∧ (∀ q : Nat, q < H.size → ¬ A1 q → T'.heap[q]? = H[q]?) ∧ va_S A0 H0 T'.heap (locs ++ L) := by
  obtain ⟨hz, hk⟩ := hF
  rw [h0] at hz hk
  exact ⟨by rw [e1]; exact hz, fun q h1 h2 => by rw [e1]; exact hk q h1 h2,
    ⟨Nat.le_trans hS.1 (by rw [e1]; exact hz), fun q h1 h2 => by rw [e1, hk q (Nat.lt_of_lt_of_le h1 hS.1) (fun z => h2 (hA q (Nat.lt_of_lt_of_le h1 hS.1) z))]; exact hS.2.1 q h1 h2, fun q hq => by
      rcases List.mem_append.mp hq with h | h
      · exact hS.2.2 q h
      · exact hf _ (hL q h)⟩⟩
theorem vx_calli {S SX : Type} {post : Int32 → S → Prop} {px : SX → Prop} {B : S → State → Prop} {BX : String → SX → State → Prop} {AX : Nat → Prop} (hr : vx_Run p l e R s m args below meth c H locs cells slots mc ms (F0 m pc ls st0) rest (va_Qi post B A1 a) (vx_X px BX AX) free) (hS : va_S A0 H0 H locs) (hA : ∀ q, q < H.size → A1 q → A0 q) (hf : ∀ q, free q → A0 q) (hAX : ∀ q, q < H.size → AX q → A0 q)
    (kx : ∀ (E : String) (ce : Cell) (q9 : Addr) (u : SX) (t : State) (H1 : Heap) (locs1 : List Loc), t.heap = H1 → s.vm.Alike t.vm → px u → BX E u t → H.size ≤ H1.size → (∀ q : Nat, q < H.size → ¬ AX q → H1[q]? = H[q]?) → va_S A0 H0 H1 locs1 → H1[q9]? = some ce → ce.vm = .none → s.vm.findClass E = some ce.cls → vx_W p l e R s m args below meth c H1 locs1 (cells + mc) (slots + ms) Q (F0 m pc ls rest) q9)
    (kk : ∀ (r : Int32) (u : S) (t : State) (H1 : Heap) (locs1 : List Loc), t.heap = H1 → s.vm.Alike t.vm → post r u → B u t → H.size ≤ H1.size → (∀ q : Nat, q < H.size → ¬ A1 q → H1[q]? = H[q]?) → va_S A0 H0 H1 locs1 → W p l e R s m args below meth c H1 locs1 (cells + mc) (slots + ms) Q (F0 m (pc + 3) ls (.int r :: rest))) : W p l e R s m args below meth c H locs cells slots Q (F0 m pc ls st0) := by
  intro T hT X
  rcases hr T hT X with ⟨v, st₀, t, T', L, h0, X', hL, e1, e2, ⟨⟨r, u, hv, hp, hb⟩, hF⟩, st⟩ | ⟨q, st₀, t, T', L, E, ce, h0, X', hL, e1, e2, ⟨u, hp, hb, hF⟩, hce, hcv, hcl, st⟩
  · cases hv
    obtain ⟨k1, k2, k3⟩ := vx_keep h0 e1 hS hA hf hL hF
    obtain ⟨t2, a1, b1⟩ := kk r u t T'.heap (locs ++ L) e1.symm (by rw [← e2]; exact X'.warmed.alike) hp hb k1 k2 k3 T' rfl X'
    exact ⟨t2, st t2 a1, b1⟩
  · obtain ⟨k1, k2, k3⟩ := vx_keep h0 e1 hS hAX hf hL hF
    obtain ⟨t2, a1, b1⟩ := kx E ce q u t T'.heap (locs ++ L) e1.symm (by rw [← e2]; exact X'.warmed.alike) hp hb k1 k2 k3 (by rw [e1]; exact hce) hcv hcl T' rfl X'
    exact ⟨t2, st.trans a1, b1⟩
theorem vx_calll {S SX : Type} {post : Int64 → S → Prop} {px : SX → Prop} {B : S → State → Prop} {BX : String → SX → State → Prop} {AX : Nat → Prop} (hr : vx_Run p l e R s m args below meth c H locs cells slots mc ms (F0 m pc ls st0) rest (va_Ql post B A1 a) (vx_X px BX AX) free) (hS : va_S A0 H0 H locs) (hA : ∀ q, q < H.size → A1 q → A0 q) (hf : ∀ q, free q → A0 q) (hAX : ∀ q, q < H.size → AX q → A0 q)
    (kx : ∀ (E : String) (ce : Cell) (q9 : Addr) (u : SX) (t : State) (H1 : Heap) (locs1 : List Loc), t.heap = H1 → s.vm.Alike t.vm → px u → BX E u t → H.size ≤ H1.size → (∀ q : Nat, q < H.size → ¬ AX q → H1[q]? = H[q]?) → va_S A0 H0 H1 locs1 → H1[q9]? = some ce → ce.vm = .none → s.vm.findClass E = some ce.cls → vx_W p l e R s m args below meth c H1 locs1 (cells + mc) (slots + ms) Q (F0 m pc ls rest) q9)
    (kk : ∀ (r : Int64) (u : S) (t : State) (H1 : Heap) (locs1 : List Loc), t.heap = H1 → s.vm.Alike t.vm → post r u → B u t → H.size ≤ H1.size → (∀ q : Nat, q < H.size → ¬ A1 q → H1[q]? = H[q]?) → va_S A0 H0 H1 locs1 → W p l e R s m args below meth c H1 locs1 (cells + mc) (slots + ms) Q (F0 m (pc + 3) ls (.long r :: rest))) : W p l e R s m args below meth c H locs cells slots Q (F0 m pc ls st0) := by
  intro T hT X
  rcases hr T hT X with ⟨v, st₀, t, T', L, h0, X', hL, e1, e2, ⟨⟨r, u, hv, hp, hb⟩, hF⟩, st⟩ | ⟨q, st₀, t, T', L, E, ce, h0, X', hL, e1, e2, ⟨u, hp, hb, hF⟩, hce, hcv, hcl, st⟩
  · cases hv
    obtain ⟨k1, k2, k3⟩ := vx_keep h0 e1 hS hA hf hL hF
    obtain ⟨t2, a1, b1⟩ := kk r u t T'.heap (locs ++ L) e1.symm (by rw [← e2]; exact X'.warmed.alike) hp hb k1 k2 k3 T' rfl X'
    exact ⟨t2, st t2 a1, b1⟩
  · obtain ⟨k1, k2, k3⟩ := vx_keep h0 e1 hS hAX hf hL hF
    obtain ⟨t2, a1, b1⟩ := kx E ce q u t T'.heap (locs ++ L) e1.symm (by rw [← e2]; exact X'.warmed.alike) hp hb k1 k2 k3 (by rw [e1]; exact hce) hcv hcl T' rfl X'
    exact ⟨t2, st.trans a1, b1⟩
theorem vx_callf {S SX : Type} {post : UInt32 → S → Prop} {px : SX → Prop} {B : S → State → Prop} {BX : String → SX → State → Prop} {AX : Nat → Prop} (hr : vx_Run p l e R s m args below meth c H locs cells slots mc ms (F0 m pc ls st0) rest (va_Qf post B A1 a) (vx_X px BX AX) free) (hS : va_S A0 H0 H locs) (hA : ∀ q, q < H.size → A1 q → A0 q) (hf : ∀ q, free q → A0 q) (hAX : ∀ q, q < H.size → AX q → A0 q)
    (kx : ∀ (E : String) (ce : Cell) (q9 : Addr) (u : SX) (t : State) (H1 : Heap) (locs1 : List Loc), t.heap = H1 → s.vm.Alike t.vm → px u → BX E u t → H.size ≤ H1.size → (∀ q : Nat, q < H.size → ¬ AX q → H1[q]? = H[q]?) → va_S A0 H0 H1 locs1 → H1[q9]? = some ce → ce.vm = .none → s.vm.findClass E = some ce.cls → vx_W p l e R s m args below meth c H1 locs1 (cells + mc) (slots + ms) Q (F0 m pc ls rest) q9)
    (kk : ∀ (r : UInt32) (u : S) (t : State) (H1 : Heap) (locs1 : List Loc), t.heap = H1 → s.vm.Alike t.vm → post r u → B u t → H.size ≤ H1.size → (∀ q : Nat, q < H.size → ¬ A1 q → H1[q]? = H[q]?) → va_S A0 H0 H1 locs1 → W p l e R s m args below meth c H1 locs1 (cells + mc) (slots + ms) Q (F0 m (pc + 3) ls (.float r :: rest))) : W p l e R s m args below meth c H locs cells slots Q (F0 m pc ls st0) := by
  intro T hT X
  rcases hr T hT X with ⟨v, st₀, t, T', L, h0, X', hL, e1, e2, ⟨⟨r, u, hv, hp, hb⟩, hF⟩, st⟩ | ⟨q, st₀, t, T', L, E, ce, h0, X', hL, e1, e2, ⟨u, hp, hb, hF⟩, hce, hcv, hcl, st⟩
  · cases hv
    obtain ⟨k1, k2, k3⟩ := vx_keep h0 e1 hS hA hf hL hF
    obtain ⟨t2, a1, b1⟩ := kk r u t T'.heap (locs ++ L) e1.symm (by rw [← e2]; exact X'.warmed.alike) hp hb k1 k2 k3 T' rfl X'
    exact ⟨t2, st t2 a1, b1⟩
  · obtain ⟨k1, k2, k3⟩ := vx_keep h0 e1 hS hAX hf hL hF
    obtain ⟨t2, a1, b1⟩ := kx E ce q u t T'.heap (locs ++ L) e1.symm (by rw [← e2]; exact X'.warmed.alike) hp hb k1 k2 k3 (by rw [e1]; exact hce) hcv hcl T' rfl X'
    exact ⟨t2, st.trans a1, b1⟩
theorem vx_calld {S SX : Type} {post : UInt64 → S → Prop} {px : SX → Prop} {B : S → State → Prop} {BX : String → SX → State → Prop} {AX : Nat → Prop} (hr : vx_Run p l e R s m args below meth c H locs cells slots mc ms (F0 m pc ls st0) rest (va_Qd post B A1 a) (vx_X px BX AX) free) (hS : va_S A0 H0 H locs) (hA : ∀ q, q < H.size → A1 q → A0 q) (hf : ∀ q, free q → A0 q) (hAX : ∀ q, q < H.size → AX q → A0 q)
    (kx : ∀ (E : String) (ce : Cell) (q9 : Addr) (u : SX) (t : State) (H1 : Heap) (locs1 : List Loc), t.heap = H1 → s.vm.Alike t.vm → px u → BX E u t → H.size ≤ H1.size → (∀ q : Nat, q < H.size → ¬ AX q → H1[q]? = H[q]?) → va_S A0 H0 H1 locs1 → H1[q9]? = some ce → ce.vm = .none → s.vm.findClass E = some ce.cls → vx_W p l e R s m args below meth c H1 locs1 (cells + mc) (slots + ms) Q (F0 m pc ls rest) q9)
    (kk : ∀ (r : UInt64) (u : S) (t : State) (H1 : Heap) (locs1 : List Loc), t.heap = H1 → s.vm.Alike t.vm → post r u → B u t → H.size ≤ H1.size → (∀ q : Nat, q < H.size → ¬ A1 q → H1[q]? = H[q]?) → va_S A0 H0 H1 locs1 → W p l e R s m args below meth c H1 locs1 (cells + mc) (slots + ms) Q (F0 m (pc + 3) ls (.double r :: rest))) : W p l e R s m args below meth c H locs cells slots Q (F0 m pc ls st0) := by
  intro T hT X
  rcases hr T hT X with ⟨v, st₀, t, T', L, h0, X', hL, e1, e2, ⟨⟨r, u, hv, hp, hb⟩, hF⟩, st⟩ | ⟨q, st₀, t, T', L, E, ce, h0, X', hL, e1, e2, ⟨u, hp, hb, hF⟩, hce, hcv, hcl, st⟩
  · cases hv
    obtain ⟨k1, k2, k3⟩ := vx_keep h0 e1 hS hA hf hL hF
    obtain ⟨t2, a1, b1⟩ := kk r u t T'.heap (locs ++ L) e1.symm (by rw [← e2]; exact X'.warmed.alike) hp hb k1 k2 k3 T' rfl X'
    exact ⟨t2, st t2 a1, b1⟩
  · obtain ⟨k1, k2, k3⟩ := vx_keep h0 e1 hS hAX hf hL hF
    obtain ⟨t2, a1, b1⟩ := kx E ce q u t T'.heap (locs ++ L) e1.symm (by rw [← e2]; exact X'.warmed.alike) hp hb k1 k2 k3 (by rw [e1]; exact hce) hcv hcl T' rfl X'
    exact ⟨t2, st.trans a1, b1⟩
theorem vx_callv {S SX : Type} {post : S → Prop} {px : SX → Prop} {B : S → State → Prop} {BX : String → SX → State → Prop} {AX : Nat → Prop} (hr : vx_Run p l e R s m args below meth c H locs cells slots mc ms (F0 m pc ls st0) rest (va_Qv post B A1 a) (vx_X px BX AX) free) (hS : va_S A0 H0 H locs) (hA : ∀ q, q < H.size → A1 q → A0 q) (hf : ∀ q, free q → A0 q) (hAX : ∀ q, q < H.size → AX q → A0 q)
    (kx : ∀ (E : String) (ce : Cell) (q9 : Addr) (u : SX) (t : State) (H1 : Heap) (locs1 : List Loc), t.heap = H1 → s.vm.Alike t.vm → px u → BX E u t → H.size ≤ H1.size → (∀ q : Nat, q < H.size → ¬ AX q → H1[q]? = H[q]?) → va_S A0 H0 H1 locs1 → H1[q9]? = some ce → ce.vm = .none → s.vm.findClass E = some ce.cls → vx_W p l e R s m args below meth c H1 locs1 (cells + mc) (slots + ms) Q (F0 m pc ls rest) q9)
    (kk : ∀ (u : S) (t : State) (H1 : Heap) (locs1 : List Loc), t.heap = H1 → s.vm.Alike t.vm → post u → B u t → H.size ≤ H1.size → (∀ q : Nat, q < H.size → ¬ A1 q → H1[q]? = H[q]?) → va_S A0 H0 H1 locs1 → W p l e R s m args below meth c H1 locs1 (cells + mc) (slots + ms) Q (F0 m (pc + 3) ls (rest))) : W p l e R s m args below meth c H locs cells slots Q (F0 m pc ls st0) := by
  intro T hT X
  rcases hr T hT X with ⟨v, st₀, t, T', L, h0, X', hL, e1, e2, ⟨⟨u, hv, hp, hb⟩, hF⟩, st⟩ | ⟨q, st₀, t, T', L, E, ce, h0, X', hL, e1, e2, ⟨u, hp, hb, hF⟩, hce, hcv, hcl, st⟩
  · cases hv
    obtain ⟨k1, k2, k3⟩ := vx_keep h0 e1 hS hA hf hL hF
    obtain ⟨t2, a1, b1⟩ := kk u t T'.heap (locs ++ L) e1.symm (by rw [← e2]; exact X'.warmed.alike) hp hb k1 k2 k3 T' rfl X'
    exact ⟨t2, st t2 a1, b1⟩
  · obtain ⟨k1, k2, k3⟩ := vx_keep h0 e1 hS hAX hf hL hF
    obtain ⟨t2, a1, b1⟩ := kx E ce q u t T'.heap (locs ++ L) e1.symm (by rw [← e2]; exact X'.warmed.alike) hp hb k1 k2 k3 (by rw [e1]; exact hce) hcv hcl T' rfl X'
    exact ⟨t2, st.trans a1, b1⟩
/-- caught by the row x of this method's table; the rows ahead don't take it -/
theorem vx_catch {own name : String} {E : String} {ce : Cell} {q : Addr} (hown : s.vm.findClass own = some m.cls) (pre : List ExceptionTableEntry) (x : ExceptionTableEntry) (suf : List ExceptionTableEntry) (hsplit : c.exceptionTable.toList = pre ++ x :: suf)
    (hpass : ∀ z ∈ pre, covers z pc = false ∨ (z.catchType ≠ 0 ∧ ∃ nm : String, (Cond.classLink own z.catchType nm).before args s = true ∧ va_Nc E nm s)) (hx : covers x pc = true) (h0 : x.catchType ≠ 0)
    (hlink : (Cond.classLink own x.catchType name).before args s = true) (hcast : (Cond.castable E name).before args s = true) (hcell : H[q]? = some ce) (hv : ce.vm = .none) (hcl : s.vm.findClass E = some ce.cls)
    (kk : W p l e R s m args below meth c H locs cells slots Q (F0 m x.handlerPc ls [.ref q])) : vx_W p l e R s m args below meth c H locs cells slots Q (F0 m pc ls rest) q := by
  intro T hT X
  have hpl : e.platform.magicAccessors = ({} : Platform).magicAccessors := by rw [X.admits.platform]
  obtain ⟨c3, c4, hc3, hc4, hasg⟩ := Cond.castable_spec hcast
  cases Option.some.inj (hc3.symm.trans hcl)
  obtain ⟨c5, hc5, hcl5⟩ := Cond.classLink_spec hown hlink e.platform hpl
  cases Option.some.inj (hc4.symm.trans hc5)
  obtain ⟨vm', X', st⟩ := X.thenCaughtThrough q (g := F0 m pc ls rest) rfl (Steps.refl _) (by rw [hT]; exact hcell) (by rw [hv]; rfl) (by obtain ⟨k9, h9, -⟩ := Vm.findClass_spec hcl; exact ⟨k9, h9⟩) pre x suf hsplit
    (fun z hz => by
      rcases hpass z hz with h | ⟨hz0, nm, hl1, hn1⟩
      · exact Or.inl h
      · obtain ⟨c6, hc6, hcl6⟩ := Cond.classLink_spec hown hl1 e.platform hpl
        obtain ⟨a8, b8, h1, h2, h3⟩ := hn1
        cases Option.some.inj (h1.symm.trans hcl)
        cases Option.some.inj (h2.symm.trans hc6)
        exact Or.inr ⟨hz0, _, hcl6, h3⟩) hx (Or.inr ⟨h0, c4, hcl5, hasg⟩)
  obtain ⟨t, a1, b1⟩ := kk (T.setVm vm') hT X'
  exact ⟨t, st.trans a1, b1⟩
end Rows
section Ends
variable {p : Program} {l : Launch} {e : Env} {R : Room} {s : State} {m : MethodId} {args : Array Value} {below : List Frame} {meth : Method} {c : Code} {H : Heap} {locs : List Loc} {cells slots : Nat} {Q : State → Prop}
variable {mc ms : Nat} {free : Addr → Prop} {A0 A1 : Nat → Prop} {H0 : Heap} {a : Array Value} {ls : Array Slot} {st0 rest : List Value}
variable {Qc : Array Value → State → Outcome → State → Prop} {XC : String → State → State → Prop}
/-- what a body that may throw owes at its end -/
def vx_MQ (below : List Frame) (Qc : Array Value → State → Outcome → State → Prop) (XC : String → State → State → Prop) (a : Array Value) (s : State) (mc ms : Nat) (free : Addr → Prop) : State → Prop := fun t =>
  ∃ o, t.status = .running ∧ Ended t below o ∧ vx_Q Qc XC mc ms free a s o t
theorem vx_ret {g : JFrame} {mc ms : Nat} (k : W p l e R s m args below meth c H locs cells slots (MQ below Qc args s mc ms free) g) : W p l e R s m args below meth c H locs cells slots (vx_MQ below Qc XC args s mc ms free) g := by
  intro T hT X
  obtain ⟨t, a1, o, b1, b2, b3, b4⟩ := k T hT X
  exact ⟨t, a1, o, b1, b2, Or.inl ⟨b3, b4⟩⟩
/-- not caught here: it goes on to the caller -/
theorem vx_widen {g : JFrame} {q : Addr} {k n : Nat} (h1 : cells ≤ k) (h2 : slots ≤ n) (kk : vx_W p l e R s m args below meth c H locs k n Q g q) : vx_W p l e R s m args below meth c H locs cells slots Q g q := fun T hT X => kk T hT (stand_widen X h1 h2)
theorem vx_out {pc : Nat} {E : String} {ce : Cell} {q : Addr} {mc ms : Nat} (hout : ∀ x ∈ c.exceptionTable.toList, covers x pc = false) (hlocks : meth.locks = false) (hcell : H[q]? = some ce) (hv : ce.vm = .none) (hcl : s.vm.findClass E = some ce.cls)
    (hx : ∀ t : State, t.heap = H → s.vm.Alike t.vm → XC E s t) (hf : ∀ z ∈ locs, free z.base) (hc : cells ≤ mc) (hs : slots ≤ ms) :
    vx_W p l e R s m args below meth c H locs cells slots (vx_MQ below Qc XC args s mc ms free) (F0 m pc ls rest) q := by
  intro T hT X
  obtain ⟨st1, hrun, hend, hW, hsm⟩ := X.leaveThrown q (g := F0 m pc ls rest) rfl rfl rfl hout hlocks
  have hcell9 : (T.setFrames (.throwing q :: below)).heap[q]? = some ce := by
    show T.heap[q]? = some ce
    rw [hT]; exact hcell
  exact ⟨_, st1, .threw q, hrun, hend, Or.inr ⟨q, rfl, E, ce, locs, hx _ hT hW.alike, hcell9, hv, hcl, hW, hsm.mono hc hs, hf⟩⟩
theorem vx_frame {U : State} {k n : Nat} (h : s.sameButNew ({ U with vm := s.vm } : State) locs k n) : s.heap.size ≤ U.heap.size ∧ ∀ q : Nat, q < s.heap.size → (∀ z ∈ locs, z.base ≠ q) → U.heap[q]? = s.heap[q]? := by
  obtain ⟨-, h2, -, -, -, h6⟩ := h
  refine ⟨h2, fun q hq hz => ?_⟩
  obtain ⟨c9, e1, e2, e3, e4⟩ := h6 q _ (Array.getElem?_eq_getElem hq)
  have hs : c9.slots = (s.heap[q]).slots := Array.ext_getElem? fun i => e4 i fun hm => hz _ hm rfl
  have h9 : c9 = s.heap[q] := by
    rw [hs] at e2
    exact e2
  have e5 : U.heap[q]? = some c9 := e1
  rw [e5, h9, Array.getElem?_eq_getElem hq]
/-- the words of a throw but the four that speak of the heap -/
def vx_no (w : Cond) : Bool := decide (w ≠ .isRef (.static Bundle.tN "UNASSIGNED_STACK" Bundle.steD)) && decide (w ≠ .isRef (.static Bundle.tN "SUPPRESSED_SENTINEL" Bundle.listD)) && decide (w ≠ .laysStatic Bundle.tN "UNASSIGNED_STACK" Bundle.steD) && decide (w ≠ .laysStatic Bundle.tN "SUPPRESSED_SENTINEL" Bundle.listD)
def vx_at0 (own : String) (ic : Nat) (X : String) (names : List String) : List Cond := (Bundle.ownAtoms0 own ic X names).filter vx_no
def vx_atS (own : String) (ic : Nat) (X : String) (names : List String) : List Cond := (Bundle.ownAtoms own ic X names).filter vx_no
/-- a word that the tables alone decide, or a good one -/
def vx_ot (w : Cond) : Bool := w.onTables || goodWord w
theorem vx_ot_at {args a' : Array Value} {s U : State} {w : Cond} (hW : s.WarmedH U.vm) (hvm : s.vm = U.vm) (hg : vx_ot w = true) (h : w.before args s = true) : w.before a' U = true := by
  simp only [vx_ot, Bool.or_eq_true] at hg
  rcases hg with hg | hg
  · exact va_tabs hg hvm h
  · exact word_at hW (good_of_word hg) h
/-- a list's words: the good ones out of the method's own list, the others by premises of their own -/
theorem vx_hat {args : Array Value} {s : State} {L B : List Cond} (h1 : ∀ w ∈ L.filter goodWord, w.before args s = true) (h2 : ∀ w ∈ L.filter (fun w => !goodWord w), w ∈ B) (h3 : ∀ w ∈ B, w.before args s = true) : ∀ w ∈ L, w.before args s = true := by
  intro w hw
  by_cases g : goodWord w = true
  · exact h1 w (List.mem_filter.mpr ⟨hw, g⟩)
  · refine h3 w (h2 w (List.mem_filter.mpr ⟨hw, ?_⟩))
    show (!goodWord w) = true
    cases hgw : goodWord w
    · rfl
    · exact absurd hgw g
theorem vx_c {args : Array Value} {s : State} {w : Cond} {B : List Cond} (h : w.before args s = true) (t : ∀ w ∈ B, w.before args s = true) : ∀ w' ∈ w :: B, w'.before args s = true := fun w' h' => (List.mem_cons.mp h').elim (fun e => by rw [e]; exact h) (t w')
theorem vx_n {args : Array Value} {s : State} : ∀ w ∈ ([] : List Cond), w.before args s = true := fun _ h => nomatch h
theorem vx_own {args : Array Value} {s : State} {L : List Cond} (h1 : ∀ w ∈ L.filter vx_no, w.before args s = true)
    (hU : (Cond.isRef (.static Bundle.tN "UNASSIGNED_STACK" Bundle.steD)).before args s = true) (hN : (Cond.isRef (.static Bundle.tN "SUPPRESSED_SENTINEL" Bundle.listD)).before args s = true)
    (lU : (Cond.laysStatic Bundle.tN "UNASSIGNED_STACK" Bundle.steD).before args s = true) (lN : (Cond.laysStatic Bundle.tN "SUPPRESSED_SENTINEL" Bundle.listD).before args s = true) : ∀ w ∈ L, w.before args s = true := by
  intro w hw
  by_cases e1 : w = .isRef (.static Bundle.tN "UNASSIGNED_STACK" Bundle.steD)
  · rw [e1]; exact hU
  · by_cases e2 : w = .isRef (.static Bundle.tN "SUPPRESSED_SENTINEL" Bundle.listD)
    · rw [e2]; exact hN
    · by_cases e3 : w = .laysStatic Bundle.tN "UNASSIGNED_STACK" Bundle.steD
      · rw [e3]; exact lU
      · by_cases e4 : w = .laysStatic Bundle.tN "SUPPRESSED_SENTINEL" Bundle.listD
        · rw [e4]; exact lN
        · exact h1 w (List.mem_filter.mpr ⟨hw, by unfold vx_no; rw [decide_eq_true e1, decide_eq_true e2, decide_eq_true e3, decide_eq_true e4]; rfl⟩)
/-- where a static field lies, its class's statics cell in H -/
def vx_L (C n d : String) (A : Nat → Prop) (U : State) (H : Heap) : Prop := ∃ (c : ClassId) (k : Class) (i : Nat) (f : Field) (a : Nat) (cell : Cell), U.vm.findClass C = some c ∧ U.fieldFound? C n d = some (c, k, i, f) ∧ f.isStatic = true ∧ k.statics = some a ∧ H[a]? = some cell ∧ cell.vm.isStatics = true ∧ cell.cls = c ∧ f.slot < cell.slots.size ∧ k.staticTypes[f.slot]? = some f.type ∧ ¬ A a
theorem vx_L.moved {C n d : String} {A : Nat → Prop} {u U : State} {H : Heap} (hvm : u.vm.Alike U.vm) (h : vx_L C n d A u H) : vx_L C n d A U H := by
  obtain ⟨c, k, i, f, a, cell, h1, h2, h3, h4, h5, h6, h7, h8, h9, h10⟩ := h
  obtain ⟨k', hi', he⟩ := State.fieldFound?_setVm hvm h2
  exact ⟨c, k', i, f, a, cell, by rw [hvm.findClass]; exact h1, hi', h3, by rw [he]; exact h4, h5, h6, h7, h8, by rw [he]; exact h9, h10⟩
theorem vx_L.kept {C n d : String} {A : Nat → Prop} {U : State} {H H1 : Heap} (h : vx_L C n d A U H) (hq : ∀ a : Nat, a < H.size → ¬ A a → H1[a]? = H[a]?) : vx_L C n d A U H1 := by
  obtain ⟨c, k, i, f, a, cell, h1, h2, h3, h4, h5, h6, h7, h8, h9, h10⟩ := h
  exact ⟨c, k, i, f, a, cell, h1, h2, h3, h4, by rw [hq a (Array.getElem?_eq_some_iff.mp h5).1 h10]; exact h5, h6, h7, h8, h9, h10⟩
theorem vx_L.narrow {C n d : String} {A B : Nat → Prop} {U : State} {H : Heap} (h : vx_L C n d A U H) (hAB : ∀ q, B q → A q) : vx_L C n d B U H := by
  obtain ⟨c, k, i, f, a, cell, h1, h2, h3, h4, h5, h6, h7, h8, h9, h10⟩ := h
  exact ⟨c, k, i, f, a, cell, h1, h2, h3, h4, h5, h6, h7, h8, h9, fun z => h10 (hAB _ z)⟩
theorem vx_L.word {C n d : String} {A : Nat → Prop} {s : State} {args : Array Value} (h : vx_L C n d A s s.heap) : (Cond.laysStatic C n d).before args s = true := by
  obtain ⟨c, k, i, f, a, cell, h1, h2, h3, h4, h5, h6, h7, h8, h9, -⟩ := h
  show (Cond.laysStatic C n d).holds args s none s [] = true
  exact Cond.laysStatic_of h1 h2 h3 h4 h5 h6 h7 h8 h9
/-- .. and what it holds: null or some reference -/
def vx_Zq (C n d : String) (A : Nat → Prop) (U : State) (H : Heap) : Prop := va_Zq C n d A U H ∧ vx_L C n d A U H
theorem vx_Zq.moved {C n d : String} {A : Nat → Prop} {u U : State} {H : Heap} (hvm : u.vm.Alike U.vm) (h : vx_Zq C n d A u H) : vx_Zq C n d A U H := ⟨va_Zq.moved hvm h.1, vx_L.moved hvm h.2⟩
theorem vx_Zq.kept {C n d : String} {A : Nat → Prop} {U : State} {H H1 : Heap} (h : vx_Zq C n d A U H) (hq : ∀ a : Nat, a < H.size → ¬ A a → H1[a]? = H[a]?) : vx_Zq C n d A U H1 := ⟨va_Zq.kept h.1 hq, vx_L.kept h.2 hq⟩
theorem vx_Zq.narrow {C n d : String} {A B : Nat → Prop} {U : State} {H : Heap} (h : vx_Zq C n d A U H) (hAB : ∀ q, B q → A q) : vx_Zq C n d B U H := ⟨va_Zq.narrow h.1 hAB, vx_L.narrow h.2 hAB⟩
theorem vx_Zqof {args : Array Value} {s : State} {C n d : String} {A : Nat → Prop} (hl : (Cond.laysStatic C n d).before args s = true) (hini : (Cond.initialized C).before args s = true) (h : (Cond.isRef (.static C n d)).before args s = true) (hA : ∀ a : Nat, a < s.heap.size → ¬ A a) : vx_Zq C n d A s s.heap := by
  refine ⟨va_Zqof hl hini h hA, ?_⟩
  obtain ⟨c, k, i, f, a, cell, h1, h2, h3, h4, h5, h6, h7, h8, h9⟩ := Cond.laysStatic_spec hl
  exact ⟨c, k, i, f, a, cell, h1, h2, h3, h4, h5, h6, h7, h8, h9, hA a (Array.getElem?_eq_some_iff.mp h5).1⟩
theorem vx_isRef {C n d : String} {v : Value} {A : Nat → Prop} {s : State} {args : Array Value} (h : va_Z C n d v A s s.heap) (hv : v.isRef = true) : (Cond.isRef (.static C n d)).before args s = true := by
  obtain ⟨cf, kf, fi, f, a, cell, h1, h2, h3, h4, h5, h6, h7, -⟩ := h
  have he : (Term.static C n d).eval args s none [] s = some v := by
    simp [Term.eval, State.fieldNamed?, h1, h2, h4, h5, h6, h7]
  simp only [Cond.before, Cond.holds, Cond.value, he]
  cases v <;> simp_all [Value.isRef]
theorem vx_isRefq {C n d : String} {A : Nat → Prop} {s : State} {args : Array Value} (h : va_Zq C n d A s s.heap) : (Cond.isRef (.static C n d)).before args s = true := by
  rcases h with h | ⟨t, h⟩
  · exact vx_isRef h rfl
  · exact vx_isRef h rfl
/-- the same frame, seen from here: as if the method were called anew in this heap -/
theorem vx_rebase {T : State} (X : Stand p l e R s m args below meth c T locs cells slots) {R' : Room} (hf : R'.frames ≤ R.frames) (hl : R'.locals ≤ R.locals) (hc : cells + R'.cells ≤ R.cells) (hs : slots + R'.slots ≤ R.slots) :
    Stand p l e R' ((T.setVm s.vm).setFrames (.invoking m args :: below)) m args below meth c T [] 0 0 := by
  have htop : (T.setVm s.vm).topJava?.isSome := X.here.top
  have hF : ((T.setVm s.vm).setFrames (.invoking m args :: below)).frames = .invoking m args :: below := State.frames_setFrames _ (State.cur_lt_of_top htop)
  obtain ⟨g₀, hg0⟩ := Option.isSome_iff_exists.mp htop
  obtain ⟨r, hr⟩ := State.topJava?_eq_some.mp hg0
  have hl9 : e.platform.stackLimits (T.setVm s.vm).me = e.platform.stackLimits s.me := X.limits
  have hb9 : (T.setVm s.vm).me.stackBytes = s.me.stackBytes := X.bytes
  refine ⟨X.admits, X.cas, X.clock, hF, ?_, X.hears, X.method, X.code, X.here, X.tail, X.warmed, ?_, ?_, ?_⟩
  · have h := X.room
    have hU : ((T.setVm s.vm).setFrames (.invoking m args :: below)).localsInUse = s.localsInUse := by
      rw [State.localsInUse_invoking hF (meth := meth) (c := c) X.method X.code, State.localsInUse_invoking X.frames X.method X.code]
    simp only [State.hasRoom, Bool.and_eq_true, decide_eq_true_eq] at h ⊢
    obtain ⟨⟨⟨⟨h1, h2, h3, h4, h5, h6⟩, h7⟩, h8⟩, h9⟩ := h
    rw [X.frames, List.length_cons] at h2 h3
    have q1 := X.heapSize
    have q2 := X.used
    simp only [hF, hU, List.length_cons, State.stackLimits_setFrames, State.stackBytes_setFrames, hl9, hb9]
    refine ⟨⟨⟨⟨by omega, by omega, by omega, by omega, by omega, h6⟩, ?_⟩, ?_⟩, X.book⟩
    · show T.heap.size + R'.cells ≤ e.platform.maxCells
      omega
    · show T.slotsUsed + R'.slots ≤ e.platform.maxSlots
      omega
  · rw [State.stackLimits_setFrames]; rfl
  · rw [State.stackBytes_setFrames]; rfl
  · refine ⟨?_, Nat.le_refl _, Nat.le_refl _, ?_, ?_, fun a c9 h9 => ⟨c9, h9, rfl, rfl, fun _ _ => rfl⟩⟩
    · obtain ⟨t, ht, -⟩ := State.frames_cons hr
      show T.setVm s.vm = { ((T.setVm s.vm).setFrames (.invoking m args :: below)).setFrames (T.setVm s.vm).frames with heap := T.heap, slotsUsed := T.slotsUsed }
      rw [State.setFrames_setFrames, State.setFrames_self ht]
      rfl
    · show T.slotsUsed = T.slotsUsed + ((T.heap.toList.drop T.heap.size).map (·.slots.size)).sum
      rw [List.drop_eq_nil_of_le (Nat.le_of_eq Array.length_toList)]
      rfl
    · show ((T.heap.toList.drop T.heap.size).map (·.slots.size)).sum ≤ 0
      rw [List.drop_eq_nil_of_le (Nat.le_of_eq Array.length_toList)]
      exact Nat.le_refl _
/-- 'throw new E()': new; dup; invokespecial; athrow -/
theorem vx_throw0 {cc : ByteArray} {pc : Nat} (hexec : p.tables.exec = Jvm.exec) (hb : c.code = cc) (hl : l.stackTraces = false) {own cls : String} {names : List String} {ik ic mc ms : Nat} {A : Nat → Prop}
    (hown : s.vm.findClass own = some m.cls) (hcls : Bundle.fit cls = true) (hnames : ∀ n ∈ names, Bundle.fit n = true)
    (hk : (Cond.classLink own ik cls).before args s = true) (hini : (Cond.initialized cls).before args s = true) (hat : ∀ w ∈ vx_at0 own ic cls names, w.before args s = true)
    (hgood : ∀ w ∈ Cond.classLink own ik cls :: Cond.initialized cls :: vx_at0 own ic cls names, vx_ot w = true)
    (hU : vx_Zq Bundle.tN "UNASSIGNED_STACK" Bundle.steD A s s.heap) (hN : vx_Zq Bundle.tN "SUPPRESSED_SENTINEL" Bundle.listD A s s.heap) (hS : va_S A s.heap H locs) (hsize : ls.size = c.maxLocals)
    (d0 : decode cc pc = .ok (.new ik, 3)) (d3 : decode cc (pc + 3) = .ok (.dup, 1)) (d4 : decode cc (pc + 4) = .ok (.invokespecial ic, 3)) (d7 : decode cc (pc + 7) = .ok (.athrow, 1))
    (hout : ∀ x ∈ c.exceptionTable.toList, covers x (pc + 7) = false)
    (hRframes : names.length + 3 < R.frames) (hRlocals : (rest.map fun v => v.category).sum + (13 * (names.length + 1) + 42) ≤ R.locals) (hRcells : cells + 1 ≤ R.cells) (hRslots : slots + 6 ≤ R.slots) (hlocks : meth.locks = false)
    (hx : ∀ t : State, s.vm.Alike t.vm → H.size ≤ t.heap.size → (∀ q : Nat, q < H.size → t.heap[q]? = H[q]?) → XC cls s t)
    (hf : ∀ z ∈ locs, free z.base) (hc : cells + 1 ≤ mc) (hs : slots + 6 ≤ ms) :
    W p l e R s m args below meth c H locs cells slots (vx_MQ below Qc XC args s mc ms free) (F0 m pc ls rest) := by
  intro T hT X
  have htr : e.platform.stackTraces = false := (show e.platform.stackTraces = l.stackTraces by rw [X.admits.platform]).trans hl
  have Y := vx_rebase X (R' := { frames := R.frames, locals := R.locals, cells := 1, slots := 6 }) (Nat.le_refl _) (Nat.le_refl _) hRcells hRslots
  obtain ⟨s', hA⟩ : ∃ z, z = (T.setVm s.vm).setFrames (.invoking m args :: below) := ⟨_, rfl⟩
  rw [← hA] at Y
  have hvm : s'.vm = s.vm := by rw [hA]; rfl
  have hhp : s'.heap = H := by rw [hA]; exact hT
  have hW0 : s.WarmedH s'.vm := by rw [hvm]; exact State.WarmedH.refl s
  have hat' : ∀ w ∈ vx_at0 own ic cls names, w.before args s' = true := fun w hw => vx_ot_at hW0 hvm.symm (hgood w (List.mem_cons_of_mem _ (List.mem_cons_of_mem _ hw))) (hat w hw)
  have hk' : (Cond.classLink own ik cls).before args s' = true := vx_ot_at hW0 hvm.symm (hgood _ List.mem_cons_self) hk
  have hini' : (Cond.initialized cls).before args s' = true := vx_ot_at hW0 hvm.symm (hgood _ (List.mem_cons_of_mem _ List.mem_cons_self)) hini
  have hU' : vx_Zq Bundle.tN "UNASSIGNED_STACK" Bundle.steD A s' s'.heap := by rw [hhp]; exact vx_Zq.moved hW0.alike (hU.kept hS.2.1)
  have hN' : vx_Zq Bundle.tN "SUPPRESSED_SENTINEL" Bundle.listD A s' s'.heap := by rw [hhp]; exact vx_Zq.moved hW0.alike (hN.kept hS.2.1)
  have h : ∀ w ∈ Bundle.ownAtoms0 own ic cls names, w.before args s' = true := vx_own hat' (vx_isRefq hU'.1) (vx_isRefq hN'.1) hU'.2.word hN'.2.word
  have hown' : s'.vm.findClass own = some m.cls := by rw [hvm]; exact hown
  have hins : (Cond.instantiable cls 6).before args s' = true := h _ (by simp [Bundle.ownAtoms0])
  obtain ⟨vm₁, cX, kX, hfX, hkX, -, -, X₁, st1⟩ := Y.newCold hexec (own := own) (C := cls) (index := ik) (n := 6) hown' hk' hins hini'
    (g := F0 m pc ls rest) rfl (by rw [hb]; exact d0) (Nat.le_refl _) (Nat.le_refl _)
  generalize hT1 : (T.setVm vm₁).pushCell { cls := cX, slots := kX.instanceTypes.map defaultValue, vm := .none } = T1 at X₁ st1
  have hcat : (Value.ref T.heap.size).category = 1 := rfl
  have hcellA : T1.heap[T.heap.size]? = some (freshCell cX kX) := by rw [← hT1]; exact State.heap_pushCell_size _ _
  have d3' : decode c.code (pc + 3) = .ok (.dup, 1) := by rw [hb]; exact d3
  obtain ⟨U, hsteps, hrun, hend, hW, hsame, ce, hce, hO⟩ := X₁.ctorThrow0 hexec htr (own := own) (cls := cls) (names := names) (ic := ic) hown' hcls hnames h (fun x hx => nomatch hx) hfX hkX hcellA (by rw [hhp, hT]; exact Nat.le_refl _)
    (g := { method := m, pc := pc + 4, locals := ls, stack := .ref T.heap.size :: .ref T.heap.size :: rest, locked := none }) rfl hsize rfl rfl (rest := rest) rfl
    (by rw [hb]; exact d4) (by rw [hb]; exact d7) hout hRframes (by simp only [List.map_cons, List.sum_cons, hcat]; omega) hlocks
  obtain ⟨f1, f2⟩ := vx_frame hsame
  rw [hhp] at f1 f2
  have hWs : s.WarmedH U.vm := State.WarmedH.trans hW0 hW
  have hcl : s.vm.findClass cls = some ce.cls := by
    have h9 := hO.cls
    rw [hvm] at h9
    exact h9
  have hall : s.sameButNew ({ U with vm := s.vm } : State) locs mc ms := by
    subst hA
    obtain ⟨e1, e2⟩ := hsame
    rw [State.setFrames_setFrames] at e1
    have h2 : (T.setVm s.vm).sameButNew ({ U with vm := s.vm } : State) [] (0 + 1) (0 + 6) := ⟨e1, e2⟩
    have h3 := X.same.trans h2
    rw [List.append_nil] at h3
    exact h3.mono hc hs
  refine ⟨U, ?_, .threw T.heap.size, hrun, hend, Or.inr ⟨T.heap.size, rfl, cls, ce, locs, hx U hWs.alike f1 (fun q hq => f2 q hq (fun z hz => nomatch hz)), hce, hO.vm, hcl, hWs, hall, hf⟩⟩
  refine st1 _ ?_
  show Steps p.tables e below (T1.setTop { method := m, pc := pc + 3, locals := ls, stack := .ref T.heap.size :: rest, locked := none }) _
  jvm_step X₁.here [X₁.here.top, hexec, d3', Value.category]
  exact hsteps
/-- 'throw new E("text")': new; dup; ldc; invokespecial; athrow -/
theorem vx_throwS {cc : ByteArray} {pc : Nat} (hexec : p.tables.exec = Jvm.exec) (hb : c.code = cc) (hl : l.stackTraces = false) {own cls text : String} {names : List String} {ik is ic mc ms sa : Nat} {A : Nat → Prop}
    (hown : s.vm.findClass own = some m.cls) (hcls : Bundle.fit cls = true) (hnames : ∀ n ∈ names, Bundle.fit n = true)
    (hk : (Cond.classLink own ik cls).before args s = true) (hini : (Cond.initialized cls).before args s = true) (hstr : vk_R own is text sa s) (hat : ∀ w ∈ vx_atS own ic cls names, w.before args s = true)
    (hgood : ∀ w ∈ Cond.classLink own ik cls :: Cond.initialized cls :: vx_atS own ic cls names, vx_ot w = true)
    (hU : vx_Zq Bundle.tN "UNASSIGNED_STACK" Bundle.steD A s s.heap) (hN : vx_Zq Bundle.tN "SUPPRESSED_SENTINEL" Bundle.listD A s s.heap) (hS : va_S A s.heap H locs) (hsize : ls.size = c.maxLocals)
    (d0 : decode cc pc = .ok (.new ik, 3)) (d3 : decode cc (pc + 3) = .ok (.dup, 1)) (d4 : decode cc (pc + 4) = .ok (.ldc is, 2)) (d6 : decode cc (pc + 6) = .ok (.invokespecial ic, 3)) (d9 : decode cc (pc + 9) = .ok (.athrow, 1))
    (hout : ∀ x ∈ c.exceptionTable.toList, covers x (pc + 9) = false)
    (hRframes : names.length + 3 < R.frames) (hRlocals : (rest.map fun v => v.category).sum + (13 * (names.length + 1) + 43) ≤ R.locals) (hRcells : cells + 1 ≤ R.cells) (hRslots : slots + 6 ≤ R.slots) (hlocks : meth.locks = false)
    (hx : ∀ t : State, s.vm.Alike t.vm → H.size ≤ t.heap.size → (∀ q : Nat, q < H.size → t.heap[q]? = H[q]?) → XC cls s t)
    (hf : ∀ z ∈ locs, free z.base) (hc : cells + 1 ≤ mc) (hs : slots + 6 ≤ ms) :
    W p l e R s m args below meth c H locs cells slots (vx_MQ below Qc XC args s mc ms free) (F0 m pc ls rest) := by
  intro T hT X
  have htr : e.platform.stackTraces = false := (show e.platform.stackTraces = l.stackTraces by rw [X.admits.platform]).trans hl
  have Y := vx_rebase X (R' := { frames := R.frames, locals := R.locals, cells := 1, slots := 6 }) (Nat.le_refl _) (Nat.le_refl _) hRcells hRslots
  obtain ⟨s', hA⟩ : ∃ z, z = (T.setVm s.vm).setFrames (.invoking m args :: below) := ⟨_, rfl⟩
  rw [← hA] at Y
  have hvm : s'.vm = s.vm := by rw [hA]; rfl
  have hhp : s'.heap = H := by rw [hA]; exact hT
  have hW0 : s.WarmedH s'.vm := by rw [hvm]; exact State.WarmedH.refl s
  have hat' : ∀ w ∈ vx_atS own ic cls names, w.before args s' = true := fun w hw => vx_ot_at hW0 hvm.symm (hgood w (List.mem_cons_of_mem _ (List.mem_cons_of_mem _ hw))) (hat w hw)
  have hk' : (Cond.classLink own ik cls).before args s' = true := vx_ot_at hW0 hvm.symm (hgood _ List.mem_cons_self) hk
  have hini' : (Cond.initialized cls).before args s' = true := vx_ot_at hW0 hvm.symm (hgood _ (List.mem_cons_of_mem _ List.mem_cons_self)) hini
  have hU' : vx_Zq Bundle.tN "UNASSIGNED_STACK" Bundle.steD A s' s'.heap := by rw [hhp]; exact vx_Zq.moved hW0.alike (hU.kept hS.2.1)
  have hN' : vx_Zq Bundle.tN "SUPPRESSED_SENTINEL" Bundle.listD A s' s'.heap := by rw [hhp]; exact vx_Zq.moved hW0.alike (hN.kept hS.2.1)
  have h : ∀ w ∈ Bundle.ownAtoms own ic cls names, w.before args s' = true := vx_own hat' (vx_isRefq hU'.1) (vx_isRefq hN'.1) hU'.2.word hN'.2.word
  have hown' : s'.vm.findClass own = some m.cls := by rw [hvm]; exact hown
  have hins : (Cond.instantiable cls 6).before args s' = true := h _ (by simp [Bundle.ownAtoms])
  obtain ⟨vm₁, cX, kX, hfX, hkX, -, -, X₁, st1⟩ := Y.newCold hexec (own := own) (C := cls) (index := ik) (n := 6) hown' hk' hins hini'
    (g := F0 m pc ls rest) rfl (by rw [hb]; exact d0) (Nat.le_refl _) (Nat.le_refl _)
  generalize hT1 : (T.setVm vm₁).pushCell { cls := cX, slots := kX.instanceTypes.map defaultValue, vm := .none } = T1 at X₁ st1
  have hcat : (Value.ref T.heap.size).category = 1 := rfl
  have hcellA : T1.heap[T.heap.size]? = some (freshCell cX kX) := by rw [← hT1]; exact State.heap_pushCell_size _ _
  have d3' : decode c.code (pc + 3) = .ok (.dup, 1) := by rw [hb]; exact d3
  have d4' : decode c.code (pc + 4) = .ok (.ldc is, 2) := by rw [hb]; exact d4
  have hstr' : vk_R own is text sa s' := vk_R.warm hW0 hstr
  obtain ⟨U, hsteps, hrun, hend, hW, hsame, ce, hce, hO⟩ := X₁.ctorThrowS hexec htr (own := own) (cls := cls) (names := names) (ic := ic) hown' hcls hnames h (fun x hx => nomatch hx) hfX hkX hcellA (by rw [hhp, hT]; exact Nat.le_refl _) (msg := .ref sa) rfl
    (g := { method := m, pc := pc + 6, locals := ls, stack := .ref sa :: .ref T.heap.size :: .ref T.heap.size :: rest, locked := none }) rfl hsize rfl rfl (rest := rest) rfl
    (by rw [hb]; exact d6) (by rw [hb]; exact d9) hout hRframes (by simp only [List.map_cons, List.sum_cons, hcat]; omega) hlocks
  obtain ⟨f1, f2⟩ := vx_frame hsame
  rw [hhp] at f1 f2
  have hWs : s.WarmedH U.vm := State.WarmedH.trans hW0 hW
  have hcl : s.vm.findClass cls = some ce.cls := by
    have h9 := hO.cls
    rw [hvm] at h9
    exact h9
  have hall : s.sameButNew ({ U with vm := s.vm } : State) locs mc ms := by
    subst hA
    obtain ⟨e1, e2⟩ := hsame
    rw [State.setFrames_setFrames] at e1
    have h2 : (T.setVm s.vm).sameButNew ({ U with vm := s.vm } : State) [] (0 + 1) (0 + 6) := ⟨e1, e2⟩
    have h3 := X.same.trans h2
    rw [List.append_nil] at h3
    exact h3.mono hc hs
  refine ⟨U, ?_, .threw T.heap.size, hrun, hend, Or.inr ⟨T.heap.size, rfl, cls, ce, locs, hx U hWs.alike f1 (fun q hq => f2 q hq (fun z hz => nomatch hz)), hce, hO.vm, hcl, hWs, hall, hf⟩⟩
  refine st1 _ ?_
  show Steps p.tables e below (T1.setTop { method := m, pc := pc + 3, locals := ls, stack := .ref T.heap.size :: rest, locked := none }) _
  jvm_step X₁.here [X₁.here.top, hexec, d3', Value.category]
  exact X₁.ldcString hexec (own := own) (text := text) (index := is) (a := sa) hown' hstr'.1 hstr'.2
    (g := { method := m, pc := pc + 4, locals := ls, stack := .ref T.heap.size :: .ref T.heap.size :: rest, locked := none }) rfl d4' _ hsteps
/-- 'throw new E("text")', the text by a wide index -/
theorem vx_throwSW {cc : ByteArray} {pc : Nat} (hexec : p.tables.exec = Jvm.exec) (hb : c.code = cc) (hl : l.stackTraces = false) {own cls text : String} {names : List String} {ik is ic mc ms sa : Nat} {A : Nat → Prop}
    (hown : s.vm.findClass own = some m.cls) (hcls : Bundle.fit cls = true) (hnames : ∀ n ∈ names, Bundle.fit n = true)
    (hk : (Cond.classLink own ik cls).before args s = true) (hini : (Cond.initialized cls).before args s = true) (hstr : vk_R own is text sa s) (hat : ∀ w ∈ vx_atS own ic cls names, w.before args s = true)
    (hgood : ∀ w ∈ Cond.classLink own ik cls :: Cond.initialized cls :: vx_atS own ic cls names, vx_ot w = true)
    (hU : vx_Zq Bundle.tN "UNASSIGNED_STACK" Bundle.steD A s s.heap) (hN : vx_Zq Bundle.tN "SUPPRESSED_SENTINEL" Bundle.listD A s s.heap) (hS : va_S A s.heap H locs) (hsize : ls.size = c.maxLocals)
    (d0 : decode cc pc = .ok (.new ik, 3)) (d3 : decode cc (pc + 3) = .ok (.dup, 1)) (d4 : decode cc (pc + 4) = .ok (.ldc_w is, 3)) (d7 : decode cc (pc + 7) = .ok (.invokespecial ic, 3)) (d10 : decode cc (pc + 10) = .ok (.athrow, 1))
    (hout : ∀ x ∈ c.exceptionTable.toList, covers x (pc + 10) = false)
    (hRframes : names.length + 3 < R.frames) (hRlocals : (rest.map fun v => v.category).sum + (13 * (names.length + 1) + 43) ≤ R.locals) (hRcells : cells + 1 ≤ R.cells) (hRslots : slots + 6 ≤ R.slots) (hlocks : meth.locks = false)
    (hx : ∀ t : State, s.vm.Alike t.vm → H.size ≤ t.heap.size → (∀ q : Nat, q < H.size → t.heap[q]? = H[q]?) → XC cls s t)
    (hf : ∀ z ∈ locs, free z.base) (hc : cells + 1 ≤ mc) (hs : slots + 6 ≤ ms) :
    W p l e R s m args below meth c H locs cells slots (vx_MQ below Qc XC args s mc ms free) (F0 m pc ls rest) := by
  intro T hT X
  have htr : e.platform.stackTraces = false := (show e.platform.stackTraces = l.stackTraces by rw [X.admits.platform]).trans hl
  have Y := vx_rebase X (R' := { frames := R.frames, locals := R.locals, cells := 1, slots := 6 }) (Nat.le_refl _) (Nat.le_refl _) hRcells hRslots
  obtain ⟨s', hA⟩ : ∃ z, z = (T.setVm s.vm).setFrames (.invoking m args :: below) := ⟨_, rfl⟩
  rw [← hA] at Y
  have hvm : s'.vm = s.vm := by rw [hA]; rfl
  have hhp : s'.heap = H := by rw [hA]; exact hT
  have hW0 : s.WarmedH s'.vm := by rw [hvm]; exact State.WarmedH.refl s
  have hat' : ∀ w ∈ vx_atS own ic cls names, w.before args s' = true := fun w hw => vx_ot_at hW0 hvm.symm (hgood w (List.mem_cons_of_mem _ (List.mem_cons_of_mem _ hw))) (hat w hw)
  have hk' : (Cond.classLink own ik cls).before args s' = true := vx_ot_at hW0 hvm.symm (hgood _ List.mem_cons_self) hk
  have hini' : (Cond.initialized cls).before args s' = true := vx_ot_at hW0 hvm.symm (hgood _ (List.mem_cons_of_mem _ List.mem_cons_self)) hini
  have hU' : vx_Zq Bundle.tN "UNASSIGNED_STACK" Bundle.steD A s' s'.heap := by rw [hhp]; exact vx_Zq.moved hW0.alike (hU.kept hS.2.1)
  have hN' : vx_Zq Bundle.tN "SUPPRESSED_SENTINEL" Bundle.listD A s' s'.heap := by rw [hhp]; exact vx_Zq.moved hW0.alike (hN.kept hS.2.1)
  have h : ∀ w ∈ Bundle.ownAtoms own ic cls names, w.before args s' = true := vx_own hat' (vx_isRefq hU'.1) (vx_isRefq hN'.1) hU'.2.word hN'.2.word
  have hown' : s'.vm.findClass own = some m.cls := by rw [hvm]; exact hown
  have hins : (Cond.instantiable cls 6).before args s' = true := h _ (by simp [Bundle.ownAtoms])
  obtain ⟨vm₁, cX, kX, hfX, hkX, -, -, X₁, st1⟩ := Y.newCold hexec (own := own) (C := cls) (index := ik) (n := 6) hown' hk' hins hini'
    (g := F0 m pc ls rest) rfl (by rw [hb]; exact d0) (Nat.le_refl _) (Nat.le_refl _)
  generalize hT1 : (T.setVm vm₁).pushCell { cls := cX, slots := kX.instanceTypes.map defaultValue, vm := .none } = T1 at X₁ st1
  have hcat : (Value.ref T.heap.size).category = 1 := rfl
  have hcellA : T1.heap[T.heap.size]? = some (freshCell cX kX) := by rw [← hT1]; exact State.heap_pushCell_size _ _
  have d3' : decode c.code (pc + 3) = .ok (.dup, 1) := by rw [hb]; exact d3
  have d4' : decode c.code (pc + 4) = .ok (.ldc_w is, 3) := by rw [hb]; exact d4
  have hstr' : vk_R own is text sa s' := vk_R.warm hW0 hstr
  obtain ⟨U, hsteps, hrun, hend, hW, hsame, ce, hce, hO⟩ := X₁.ctorThrowS hexec htr (own := own) (cls := cls) (names := names) (ic := ic) hown' hcls hnames h (fun x hx => nomatch hx) hfX hkX hcellA (by rw [hhp, hT]; exact Nat.le_refl _) (msg := .ref sa) rfl
    (g := { method := m, pc := pc + 7, locals := ls, stack := .ref sa :: .ref T.heap.size :: .ref T.heap.size :: rest, locked := none }) rfl hsize rfl rfl (rest := rest) rfl
    (by rw [hb]; exact d7) (by rw [hb]; exact d10) hout hRframes (by simp only [List.map_cons, List.sum_cons, hcat]; omega) hlocks
  obtain ⟨f1, f2⟩ := vx_frame hsame
  rw [hhp] at f1 f2
  have hWs : s.WarmedH U.vm := State.WarmedH.trans hW0 hW
  have hcl : s.vm.findClass cls = some ce.cls := by
    have h9 := hO.cls
    rw [hvm] at h9
    exact h9
  have hall : s.sameButNew ({ U with vm := s.vm } : State) locs mc ms := by
    subst hA
    obtain ⟨e1, e2⟩ := hsame
    rw [State.setFrames_setFrames] at e1
    have h2 : (T.setVm s.vm).sameButNew ({ U with vm := s.vm } : State) [] (0 + 1) (0 + 6) := ⟨e1, e2⟩
    have h3 := X.same.trans h2
    rw [List.append_nil] at h3
    exact h3.mono hc hs
  refine ⟨U, ?_, .threw T.heap.size, hrun, hend, Or.inr ⟨T.heap.size, rfl, cls, ce, locs, hx U hWs.alike f1 (fun q hq => f2 q hq (fun z hz => nomatch hz)), hce, hO.vm, hcl, hWs, hall, hf⟩⟩
  refine st1 _ ?_
  show Steps p.tables e below (T1.setTop { method := m, pc := pc + 3, locals := ls, stack := .ref T.heap.size :: rest, locked := none }) _
  jvm_step X₁.here [X₁.here.top, hexec, d3', Value.category]
  exact X₁.ldcStringW hexec (own := own) (text := text) (index := is) (a := sa) hown' hstr'.1 hstr'.2
    (g := { method := m, pc := pc + 4, locals := ls, stack := .ref T.heap.size :: .ref T.heap.size :: rest, locked := none }) rfl d4' _ hsteps
end Ends
section Bodies
variable {l : Launch}
theorem vx_ofW {y : MethodName} {ws ws' : List Cond} {rm : Room} {Pc : Array Value → State → Prop} {Qc : Array Value → State → Outcome → State → Prop} {XC : String → State → State → Prop} {mc ms : Nat} {free : Addr → Prop} {cc : ByteArray} {maxL : Nat} {ret : Option FieldType}
    (hy : plainName y.cls = true) (hw : ws = Cond.code y cc maxL ret :: ws')
    (body : ∀ p e s m args below meth c s₁, BodyLoose p l y (headSpec ws rm) cc maxL ret e s m args below meth c s₁ → c.maxLocals = maxL → (∀ x ∈ c.exceptionTable.toList, False) → Pc args s →
      W p l e (headSpec ws rm).room s m args below meth c s.heap [] 0 0 (vx_MQ below Qc XC args s mc ms free) (entryFrame m args maxL)) : vx_Met l y ws rm Pc Qc XC mc ms free := by
  refine MetFree.of_bodyS (code := cc) (maxLocals := maxL) (ret := ret) hy ?_ ?_
  · intro args s m h hn
    obtain ⟨meth, c, h1, h2, h3, h4, h5, h6, -, -⟩ := Cond.code_spec hn (atoms_spec (ws := ws) h _ (by rw [hw]; exact List.mem_cons_self))
    exact ⟨meth, c, h1, h2, h3, h4, h5, h6⟩
  · intro p e s m args below meth c s₁ B hml hP _
    have hh0 : s₁.heap = s.heap := by rw [B.state]; rfl
    have ht : ∀ x ∈ c.exceptionTable.toList, False := by
      obtain ⟨meth9, c9, h1, h2, -, -, -, -, h7, -⟩ := Cond.code_spec B.named (atoms_spec (ws := ws) B.pre _ (by rw [hw]; exact List.mem_cons_self))
      cases Option.some.inj (h1.symm.trans B.method)
      cases Option.some.inj (h2.symm.trans (Stand.of_body B).code)
      intro x hx
      rw [Array.isEmpty_iff.mp h7] at hx
      cases hx
    obtain ⟨t, a1, o, b1, b2, b3⟩ := body p e s m args below meth c s₁ B hml ht hP s₁ hh0 (Stand.of_body B)
    exact ⟨t, o, a1, b1, b2, b3⟩
/-- the table of a body with handlers -/
theorem vx_table {p : Program} {x y : MethodName} {S : Spec} {cc bytes : ByteArray} {maxL maxL' : Nat} {ret ret' : Option FieldType} {e : Env} {s s₁ : State} {m : MethodId} {args : Array Value} {below : List Frame} {meth : Method} {c : Code} {hh : List (Nat × Nat × Nat × Nat)}
    (B : BodyLoose p l y S cc maxL ret e s m args below meth c s₁) (h : (Cond.codeWith y bytes maxL' ret' hh).before args s = true) : c.exceptionTable.toList = tableOf hh := by
  obtain ⟨m9, meth9, c9, hn9, h1, h2, -, -, h6, -⟩ := Cond.codeWith_spec h
  cases Option.some.inj (hn9.symm.trans B.named)
  cases Option.some.inj (h1.symm.trans B.method)
  cases Option.some.inj (h2.symm.trans (Stand.of_body B).code)
  rw [← h6, table_eq]
end Bodies
end VXA
/-! ===== END ===== -/
/-! ===== BEGIN a static call of a method with an exception table ===== -/
section VXS
variable {p : Program} {l : Launch} {e : Env} {R : Room} {s : State} {m : MethodId} {args : Array Value} {below : List Frame} {meth : Method} {c : Code} {T : State} {H : Heap} {locs : List Loc} {cells slots : Nat}
abbrev vx_CSW (R : Room) (s : State) (args : Array Value) (own : String) (index : Nat) (y : MethodName) (bytes : ByteArray) (maxL : Nat) (ret : Option FieldType) (hh : List (Nat × Nat × Nat × Nat)) (ws : List Cond) (rm : Room) (mc ms n : Nat) : Prop :=
  (rm.cells = mc ∧ rm.slots = ms ∧ rm.frames + 1 ≤ R.frames ∧ 8 + (maxL + 11) + rm.locals ≤ R.locals ∧ (∀ w ∈ ws, ∀ (a' : Array Value) (U : State), s.WarmedH U.vm → w.before a' U = true) ∧ Cond.codeWith y bytes maxL ret hh ∈ ws) ∧
  (Cond.codeWith y bytes maxL ret hh).before args s = true ∧ (Cond.initialized y.cls).before args s = true ∧ (y.cls ≠ "java/lang/invoke/MethodHandle" ∧ y.cls ≠ "java/lang/invoke/VarHandle") ∧
  (∀ sig, parseMethodDescriptor y.desc = some sig → n = sig.parameters.length) ∧ (Cond.methodLink own index y).before args s = true ∧ (Cond.static y).before args s = true
theorem vx_cwSW {own : String} {index maxL mc ms : Nat} {y : MethodName} {bytes : ByteArray} {ret : Option FieldType} {hh : List (Nat × Nat × Nat × Nat)} {Ts ws ws' : List Cond} {rm : Room} (n : Nat) (ht : ∀ w ∈ Ts, w.before args s = true) (hT : GoodIn Ts (va_wsS own index y ws)) (hw : ws = Cond.codeWith y bytes maxL ret hh :: ws') (hrc : rm.cells = mc) (hrs : rm.slots = ms)
    (hd : y.cls ≠ "java/lang/invoke/MethodHandle" ∧ y.cls ≠ "java/lang/invoke/VarHandle" ∧ (parseMethodDescriptor y.desc).map (fun d => d.parameters.length) = some n) (hR : rm.frames + 1 ≤ R.frames ∧ 8 + (maxL + 11) + rm.locals ≤ R.locals) :
    vx_CSW R s args own index y bytes maxL ret hh ws rm mc ms n := by
  have ok : ∀ w ∈ va_wsS own index y ws, w.before args s = true := fun w h => ht w (hT w h).1
  have hG : GoodIn Ts ws := fun w h => hT w (by unfold va_wsS; exact List.mem_append_right _ h)
  have hc : Cond.codeWith y bytes maxL ret hh ∈ ws := by rw [hw]; exact List.mem_cons_self
  refine ⟨⟨hrc, hrs, hR.1, hR.2, pay_in ht hG, hc⟩, ht _ (hG _ hc).1, ok _ (by simp [va_wsS]), ⟨hd.1, hd.2.1⟩, fun sig h => ?_, ok _ (by simp [va_wsS]), ok _ (by simp [va_wsS])⟩
  have h2 := hd.2.2
  rw [h] at h2
  exact (Option.some.inj h2).symm
theorem vx_callSW (X : Stand p l e R s m args below meth c T locs cells slots) (hexec : p.tables.exec = Jvm.exec) {own : String} {index : Nat} {y : MethodName} {bytes : ByteArray} {maxL : Nat} {ret : Option FieldType} {hh : List (Nat × Nat × Nat × Nat)}
    (hown : s.vm.findClass own = some m.cls) (hlink : (Cond.methodLink own index y).before args s = true) (hstat : (Cond.static y).before args s = true) (hinit : (Cond.initialized y.cls).before args s = true)
    (hcode : (Cond.codeWith y bytes maxL ret hh).before args s = true) (hy : y.cls ≠ "java/lang/invoke/MethodHandle" ∧ y.cls ≠ "java/lang/invoke/VarHandle")
    {W9 : Nat} {Pre : Pt → Array Value → Prop} {Post : Pt → Array Value → Option Value → Pt → Prop} (hK : Back l R p e below s args y 3 W9 Pre Post)
    {g : JFrame} (hg : g.method = m) (hsize : g.locals.size = c.maxLocals) {argsL rest : List Value} (hlen : ∀ sig, parseMethodDescriptor y.desc = some sig → argsL.length = sig.parameters.length)
    (hstack : g.stack = argsL.reverse ++ rest) (hW : 2 * g.monitorRoom + (rest.map fun v => v.category).sum ≤ W9) (hdg : decode c.code g.pc = .ok (.invokestatic index, 3))
    (hpre : ∀ vm₁, s.WarmedH vm₁ → Pre ⟨T.setVm vm₁, locs, cells, slots⟩ argsL.toArray) :
    ∃ (v : Option Value) (vm₁ : Vm) (B : Pt), s.WarmedH vm₁ ∧ Stand p l e R s m args below meth c B.U B.locs B.cells B.slots ∧ Post ⟨T.setVm vm₁, locs, cells, slots⟩ argsL.toArray v B ∧
      ∀ target, Steps p.tables e below (B.U.setTop { g with pc := g.pc + 3, stack := v.toList ++ rest }) target → Steps p.tables e below (T.setTop g) target := by
  obtain ⟨mk, methM, cM, hnamed, hmethM, -, -, -, -, -, -, hsigM⟩ := Cond.codeWith_spec hcode
  have hstatic : methM.isStatic = true := Cond.static_spec hnamed hmethM hstat
  obtain ⟨kP, hkP, -⟩ := className_of_methodNamed hnamed
  have hinitP : kP.init = .initialized := Cond.initialized_spec (findClass_of_methodNamed hnamed) hkP hinit
  obtain ⟨vm₁, X₁, hstep₁⟩ := X.invokestatic hexec hown hlink hnamed hmethM hstatic hkP hinitP hy (g := g) hg (argsL := argsL) (rest := rest) (hlen _ hsigM) hstack hdg
  obtain ⟨v, B, X', hpost, hsteps⟩ := hK m meth c ⟨T.setVm vm₁, locs, cells, slots⟩ { g with stack := rest } (.invokestatic index) mk argsL.toArray X₁ hg hsize hdg hW (X₁.named hnamed) (hpre vm₁ X₁.warmed)
  exact ⟨v, vm₁, B, X₁.warmed, X', hpost, fun target h => hstep₁ _ fun acts => by rw [doInvoke_state]; exact hsteps.trans h⟩
theorem vx_runSW {y : MethodName} {bytes cc : ByteArray} {maxL nL mc ms n index : Nat} {ret : Option FieldType} {hh : List (Nat × Nat × Nat × Nat)} {ws : List Cond} {rm : Room} {Pc : Array Value → State → Prop} {Qc : Array Value → State → Outcome → State → Prop} {free : Addr → Prop} {Ts : List Cond} {own : String} {As rest : List Value} {g : JFrame}
    (S : CallFix p m c cc nL s args Ts own) (hM : Met l y ws rm Pc Qc mc ms free) (cw : vx_CSW R s args own index y bytes maxL ret hh ws rm mc ms n) (hp : PreS s H Pc As)
    (hg : g.method = m) (hn : As.length = n) (hsize : g.locals.size = nL) (hstack : g.stack = As.reverse ++ rest) (hW : 2 * g.monitorRoom + (rest.map fun v => v.category).sum ≤ 8) (hdg : decode cc g.pc = .ok (.invokestatic index, 3)) (hf : cells + mc ≤ R.cells ∧ slots + ms ≤ R.slots) :
    va_Run p l e R s m args below meth c H locs cells slots mc ms g rest (Qc As.toArray) (free) := by
  obtain ⟨⟨hrc, hrs, hfr, hlo, hws, hcw⟩, hcode, hini, hy, hlen, hl, hstt⟩ := cw
  have hK : Back l R p e below s args y 3 8 (PreOf R mc ms Pc) (PostOf Qc mc ms free) := va_backW (hh := hh) (bytes := bytes) (maxL := maxL) (ret := ret) hM hp.1 hrc hrs hfr hlo hws hcw (fun a' U hW => word_at hW (Or.inl (by first | rfl | simp [Cond.onTables, Cond.keeps, Cond.steady])) hini)
  obtain ⟨hx, hb, hml, ho, -⟩ := S
  intro T hT X
  obtain ⟨v, vm₁, ⟨U', l2, c2, s2⟩, hW₁, X', ⟨g', mk, t, L, e1, e2, hq, h1, hL, h2, h3⟩, st⟩ := vx_callSW X hx (hh := hh) (bytes := bytes) (maxL := maxL) (ret := ret) ho hl hstt hini hcode hy hK hg (hsize.trans hml.symm) (argsL := As) (rest := rest) (fun sig h => hn.trans (hlen sig h)) hstack hW (by rw [hb]; exact hdg)
    (fun vm₁ hW₁ => ⟨hf.1, hf.2, hp.2 (T.setVm vm₁) hT hW₁⟩)
  dsimp only [Pt.U, Pt.locs, Pt.cells, Pt.slots] at X' e1 e2 h1 h2 h3 st
  subst h1; subst h2; subst h3
  exact ⟨v, (T.setVm vm₁).calling g' mk As.toArray, t, U', L, hT, X', hL, e1, e2, hq, st⟩
/-- not caught here, past rows that name other classes: it goes on to the caller -/
theorem vx_outP {p : Program} {l : Launch} {e : Env} {R : Room} {s : State} {m : MethodId} {args : Array Value} {below : List Frame} {meth : Method} {c : Code} {H : Heap} {locs : List Loc} {cells slots : Nat} {free : Addr → Prop} {ls : Array Slot} {rest : List Value} {Qc : Array Value → State → Outcome → State → Prop} {XC : String → State → State → Prop}
    {pc : Nat} {own E : String} {ce : Cell} {q : Addr} {mc ms : Nat} (hown : s.vm.findClass own = some m.cls) (hlocks : meth.locks = false)
    (hpass : ∀ z ∈ c.exceptionTable.toList, covers z pc = false ∨ (z.catchType ≠ 0 ∧ ∃ nm : String, (Cond.classLink own z.catchType nm).before args s = true ∧ va_Nc E nm s)) (hcell : H[q]? = some ce) (hv : ce.vm = .none) (hcl : s.vm.findClass E = some ce.cls)
    (hx : ∀ t : State, t.heap = H → s.vm.Alike t.vm → XC E s t) (hf : ∀ z ∈ locs, free z.base) (hc : cells ≤ mc) (hs : slots ≤ ms) :
    vx_W p l e R s m args below meth c H locs cells slots (vx_MQ below Qc XC args s mc ms free) (F0 m pc ls rest) q := by
  intro T hT X
  have hpl : e.platform.magicAccessors = ({} : Platform).magicAccessors := by rw [X.admits.platform]
  obtain ⟨vm', hW', X', st⟩ := X.outThrough hlocks q (g := F0 m pc ls rest) rfl rfl rfl (cell := ce) (by rw [hT]; exact hcell) (by rw [hv]; rfl)
    (by obtain ⟨k9, h9, -⟩ := Vm.findClass_spec hcl; exact ⟨k9, h9⟩) (fun z hz => by
      rcases hpass z hz with h | ⟨hz0, nm, hl1, hn1⟩
      · exact Or.inl h
      · obtain ⟨c6, hc6, hcl6⟩ := Cond.classLink_spec hown hl1 e.platform hpl
        obtain ⟨a8, b8, h1, h2, h3⟩ := hn1
        cases Option.some.inj (h1.symm.trans hcl)
        cases Option.some.inj (h2.symm.trans hc6)
        exact Or.inr ⟨hz0, _, hcl6, h3⟩)
  obtain ⟨g₀, hfr⟩ := X'.frames_eq
  have hcell9 : ((T.setVm vm').setFrames (.throwing q :: below)).heap[q]? = some ce := by
    show T.heap[q]? = some ce
    rw [hT]; exact hcell
  have hend : Ended ((T.setVm vm').setFrames (.throwing q :: below)) below (.threw q) := State.frames_setFrames _ (State.cur_lt_of_frames hfr)
  refine ⟨(T.setVm vm').setFrames (.throwing q :: below), ?_, .threw q, X'.here.running, hend, Or.inr ⟨q, rfl, E, ce, locs, hx _ hT (X'.ends _).1.alike, hcell9, hv, hcl, (X'.ends _).1, (X'.ends _).2.mono hc hs, hf⟩⟩
  rw [X.pushThrowing_eq]
  exact st
/-- a thing of a world lies in the heap -/
theorem vx_lt {D : va_G} {cl : List vw_C} {ws : va_W} {H1 : Heap} (h : va_P D cl ws H1) {k : Nat} {q : Nat × va_E} (hk : ws[k]? = some q) : q.1 < H1.size := (h k q hk).lt
end VXS
/-! ===== END ===== -/
/-! ===== BEGIN methods with a table of their own: called by a name, returning or throwing ===== -/
section VXH
/-! vx_backW, vx_callVX, vx_callSX, vx_callVW, vx_runVW, vx_runVX, vx_runSX, vx_ofWH follow the same proofs as their sisters above (Free/Laws.lean, Shelf42/LK1.lean); vx_outP calls Shelf42/NT130.lean (outThrough). -/
section
variable {l : Launch} {R : Room} {p : Program} {e : Env} {below : List Frame} {s : State} {sargs : Array Value} {y : MethodName} {len W9 : Nat}
theorem vx_backW {ws : List Cond} {rm : Room} {Pc : Array Value → State → Prop} {Qc : Array Value → State → Outcome → State → Prop} {XC : String → State → State → Prop} {mc ms : Nat} {free : Addr → Prop} {bytes : ByteArray} {maxL : Nat} {ret : Option FieldType} {hh : List (Nat × Nat × Nat × Nat)}
    (hM : vx_Met l y ws rm Pc Qc XC mc ms free) (hblind : FrameBlind Pc) (hrc : rm.cells = mc) (hrs : rm.slots = ms)
    (hframes : rm.frames + 1 ≤ R.frames) (hlocals : W9 + (maxL + 11) + rm.locals ≤ R.locals)
    (hws : ∀ w ∈ ws, ∀ a' U, s.WarmedH U.vm → w.before a' U = true) (hcode : Cond.codeWith y bytes maxL ret hh ∈ ws) (hinit : ∀ a' U, s.WarmedH U.vm → (Cond.initialized y.cls).before a' U = true) :
    vx_Back l R p e below s sargs y len W9 (PreOf R mc ms Pc) (PostOf Qc mc ms free) (vx_Post XC mc ms free) := by
  intro m meth c A g ig mk a X hg hsize hdg hW hn hp
  have h1 : (headSpec ws rm).pre.before a A.U = true := atoms_intro fun w hw => hws w hw _ _ X.warmed
  have h2 : (Cond.codeWith y bytes maxL ret hh).before a A.U = true := hws _ hcode _ _ X.warmed
  have h3 : (Cond.initialized y.cls).before a A.U = true := hinit _ _ X.warmed
  have h4 : A.cells + (headSpec ws rm).room.cells ≤ R.cells := by rw [show (headSpec ws rm).room.cells = mc from hrc]; exact hp.1
  have h5 : A.slots + (headSpec ws rm).room.slots ≤ R.slots := by rw [show (headSpec ws rm).room.slots = ms from hrs]; exact hp.2.1
  have hPc : Pc a (A.U.calling g mk a) := hblind _ _ _ _ hp.2.2
  obtain ⟨U, Ls, c0, s0⟩ := A
  dsimp only [Pt.U, Pt.locs, Pt.cells, Pt.slots] at h1 h2 h3 h4 h5 X hn hPc ⊢
  obtain ⟨m9, methY, cY, hn9, hmY, hcY, -, hlY, -⟩ := Cond.codeWith_spec h2
  cases Option.some.inj (hn9.symm.trans hn)
  obtain ⟨kY, hkY, -⟩ := className_of_methodNamed hn
  have hinitY : kY.init = .initialized := Cond.initialized_spec (findClass_of_methodNamed hn) hkY h3
  have h : At U g.method c below := by rw [hg]; exact X.here
  have hlocals9 : W9 + (maxL + 11) + (headSpec ws rm).room.locals ≤ R.locals := hlocals
  have happ : (headSpec ws rm).appliesLoose y e.platform (U.calling g mk a) = true :=
    Spec.appliesLoose_calling (g := g) h hdg hn hkY hinitY
      (X.room_calling (g := g) (R' := (headSpec ws rm).room) hsize hmY hcY hframes (by rw [hlY]; omega) h4 h5) h1
  obtain ⟨mid, hmid⟩ := h.above
  have hfr : (U.setTop g).frames = (.java g :: mid) ++ below := by rw [State.frames_setTop' g h.top, hmid]; rfl
  obtain ⟨o, s₂, hsteps, -, hend, hq⟩ := Steps.callFree hM p X.admits X.cas X.clock (acts := []) hfr happ hPc trivial
  have hq' : vx_Q Qc XC mc ms free a (U.calling g mk a) o s₂ := hq
  rw [State.frames_setTop' g h.top] at hend
  obtain ⟨g₀, hg0⟩ := Option.isSome_iff_exists.mp h.top
  obtain ⟨r, hr⟩ := State.topJava?_eq_some.mp hg0
  have hr' : (({ U with heap := s₂.heap, slotsUsed := s₂.slotsUsed } : State).setVm s₂.vm).frames = .java g₀ :: r := hr
  rcases hq' with ⟨hqc, L, hfe, hL⟩ | ⟨q, rfl, E, ce, L, hx, hce, hcv, hcl, hW₂, hsm, hL⟩
  · obtain ⟨⟨v, rfl⟩, hW₂, e2, q2, q3, q4, q5, q6⟩ := id hfe
    have e3 : s₂ = ({ (U.calling g mk a).setFrames s₂.frames with heap := s₂.heap, slotsUsed := s₂.slotsUsed } : State).setVm s₂.vm := by
      have : s₂ = ({ s₂ with vm := (U.calling g mk a).vm } : State).setVm s₂.vm := rfl
      rw [e2] at this
      exact this
    obtain ⟨c₂, i₂, len₂, hc₂, hd₂, hf₂⟩ := hend
    have hW' : U.WarmedH s₂.vm := hW₂
    have hcc : c₂ = c := by
      have h1 : s₂.code? g.method = U.code? g.method := by
        rw [State.code?_eq, State.code?_eq, hW'.alike.method?]
      exact Option.some.inj (hc₂.symm.trans (h1.trans h.code))
    subst hcc
    have hlen : len₂ = len := by rw [hdg] at hd₂; cases hd₂; rfl
    subst hlen
    have hs₂ : s₂ = (({ U with heap := s₂.heap, slotsUsed := s₂.slotsUsed } : State).setVm s₂.vm).setTop { g with pc := g.pc + len₂, stack := v.toList ++ g.stack } := by
      refine e3.trans ?_
      rw [hf₂, State.calling_eq h.top, State.setFrames_setFrames, State.setTop_of_frames _ hr', hr]
      rfl
    have hsame : U.sameButNew ({ U with heap := s₂.heap, slotsUsed := s₂.slotsUsed } : State) L mc ms := by
      refine ⟨?_, q2, q3, q4, q5, q6⟩
      obtain ⟨t, ht, -⟩ := State.frames_cons hr
      show ({ U with heap := s₂.heap, slotsUsed := s₂.slotsUsed } : State) = { U.setFrames U.frames with heap := s₂.heap, slotsUsed := s₂.slotsUsed }
      rw [State.setFrames_self ht]
    subst hg
    refine Or.inl ⟨v, ⟨(({ U with heap := s₂.heap, slotsUsed := s₂.slotsUsed } : State).setVm s₂.vm), Ls ++ L, c0 + mc, s0 + ms⟩,
      ⟨X.admits, X.cas, X.clock, X.frames, X.room, X.hears, X.method, X.code, (X.here.setHeapUsed s₂.heap s₂.slotsUsed).setVm hW'.alike, X.tail, State.WarmedH.trans X.warmed hW', X.limits, X.bytes, X.same.trans (hsame.setVm s.vm)⟩,
      ⟨g, mk, s₂, L, rfl, rfl, hqc, rfl, hL, rfl, rfl⟩, ?_⟩
    show Steps p.tables e below _ ((({ U with heap := s₂.heap, slotsUsed := s₂.slotsUsed } : State).setVm s₂.vm).setTop { g with pc := g.pc + len₂, stack := v.toList ++ g.stack })
    rw [← hs₂]
    exact hsteps
  · obtain ⟨e2, q2, q3, q4, q5, q6⟩ := id hsm
    have e3 : s₂ = ({ (U.calling g mk a).setFrames s₂.frames with heap := s₂.heap, slotsUsed := s₂.slotsUsed } : State).setVm s₂.vm := by
      have : s₂ = ({ s₂ with vm := (U.calling g mk a).vm } : State).setVm s₂.vm := rfl
      rw [e2] at this
      exact this
    have hf₂ : s₂.frames = .throwing q :: .java g :: U.frames.tail := hend
    have hW' : U.WarmedH s₂.vm := hW₂
    have hs₂ : s₂ = ((({ U with heap := s₂.heap, slotsUsed := s₂.slotsUsed } : State).setVm s₂.vm).setTop g).pushFrame (.throwing q) := by
      refine e3.trans ?_
      rw [hf₂, State.calling_eq h.top, State.setFrames_setFrames, State.pushFrame, State.frames_setTop _ hr', State.setTop_of_frames _ hr', State.setFrames_setFrames, hr]
      rfl
    have hsame : U.sameButNew ({ U with heap := s₂.heap, slotsUsed := s₂.slotsUsed } : State) L mc ms := by
      refine ⟨?_, q2, q3, q4, q5, q6⟩
      obtain ⟨t, ht, -⟩ := State.frames_cons hr
      show ({ U with heap := s₂.heap, slotsUsed := s₂.slotsUsed } : State) = { U.setFrames U.frames with heap := s₂.heap, slotsUsed := s₂.slotsUsed }
      rw [State.setFrames_self ht]
    subst hg
    refine Or.inr ⟨q, ⟨(({ U with heap := s₂.heap, slotsUsed := s₂.slotsUsed } : State).setVm s₂.vm), Ls ++ L, c0 + mc, s0 + ms⟩,
      ⟨X.admits, X.cas, X.clock, X.frames, X.room, X.hears, X.method, X.code, (X.here.setHeapUsed s₂.heap s₂.slotsUsed).setVm hW'.alike, X.tail, State.WarmedH.trans X.warmed hW', X.limits, X.bytes, X.same.trans (hsame.setVm s.vm)⟩,
      ⟨g, mk, s₂, L, E, ce, rfl, rfl, hx, hce, hcv, hcl, rfl, hL, rfl, rfl⟩, ?_⟩
    show Steps p.tables e below _ (((({ U with heap := s₂.heap, slotsUsed := s₂.slotsUsed } : State).setVm s₂.vm).setTop g).pushFrame (.throwing q))
    rw [← hs₂]
    exact hsteps
end
variable {p : Program} {l : Launch} {e : Env} {R : Room} {s : State} {m : MethodId} {args : Array Value} {below : List Frame} {meth : Method} {c : Code} {T : State} {H : Heap} {locs : List Loc} {cells slots : Nat}
theorem vx_callVX (X : Stand p l e R s m args below meth c T locs cells slots) (hexec : p.tables.exec = Jvm.exec) {own C : String} {index : Nat} {y : MethodName} {bytes : ByteArray} {maxL : Nat} {ret : Option FieldType} {hh : List (Nat × Nat × Nat × Nat)}
    (hown : s.vm.findClass own = some m.cls) (hlink : (Cond.methodLink own index y).before args s = true) (hinst : (Cond.instanceMethod y).before args s = true) (hsel : (Cond.selects C y y).before args s = true)
    (hcode : (Cond.codeWith y bytes maxL ret hh).before args s = true) (hy : y.cls ≠ "java/lang/invoke/MethodHandle" ∧ y.cls ≠ "java/lang/invoke/VarHandle")
    {W9 : Nat} {Pre : Pt → Array Value → Prop} {Post : Pt → Array Value → Option Value → Pt → Prop} {PostX : Pt → Array Value → Addr → Pt → Prop} (hK : vx_Back l R p e below s args y 3 W9 Pre Post PostX)
    {b : Addr} {cellB : Cell} (hcell : T.heap[b]? = some cellB) (hobj : cellB.vm.isStatics = false) (hcls : s.vm.findClass C = some cellB.cls)
    {g : JFrame} (hg : g.method = m) (hsize : g.locals.size = c.maxLocals) {argsL rest : List Value} (hlen : ∀ sig, parseMethodDescriptor y.desc = some sig → argsL.length = sig.parameters.length)
    (hstack : g.stack = argsL.reverse ++ .ref b :: rest) (hW : 2 * g.monitorRoom + (rest.map fun v => v.category).sum ≤ W9) (hdg : decode c.code g.pc = .ok (.invokevirtual index, 3))
    (hpre : ∀ vm₁, s.WarmedH vm₁ → Pre ⟨T.setVm vm₁, locs, cells, slots⟩ (Value.ref b :: argsL).toArray) :
    (∃ (v : Option Value) (vm₁ : Vm) (B : Pt), s.WarmedH vm₁ ∧ Stand p l e R s m args below meth c B.U B.locs B.cells B.slots ∧ Post ⟨T.setVm vm₁, locs, cells, slots⟩ (Value.ref b :: argsL).toArray v B ∧
      ∀ target, Steps p.tables e below (B.U.setTop { g with pc := g.pc + 3, stack := v.toList ++ rest }) target → Steps p.tables e below (T.setTop g) target) ∨
    (∃ (q : Addr) (vm₁ : Vm) (B : Pt), s.WarmedH vm₁ ∧ Stand p l e R s m args below meth c B.U B.locs B.cells B.slots ∧ PostX ⟨T.setVm vm₁, locs, cells, slots⟩ (Value.ref b :: argsL).toArray q B ∧
      Steps p.tables e below (T.setTop g) ((B.U.setTop { g with stack := rest }).pushFrame (.throwing q))) := by
  obtain ⟨mk, methM, hnamed, hmethM, hstM, habM⟩ := Cond.instanceMethod_spec hinst
  obtain ⟨m8, methM', cM, hn8, hmethM', -, -, -, -, -, -, hsigM⟩ := Cond.codeWith_spec hcode
  cases Option.some.inj (hn8.symm.trans hnamed)
  cases hmethM.symm.trans hmethM'
  obtain ⟨c2, r2, m2, q1, q2, q3, q4, kP, hkP, hkPi⟩ := Cond.selects_spec hsel
  cases hcls.symm.trans q1
  cases (State.methodFound?_of_named hnamed hy).symm.trans q2
  cases hnamed.symm.trans q3
  have hselP : selectMethod e.platform s.vm cellB.cls mk = .method mk := by rw [Launch.admits_selectMethod X.admits]; exact q4
  obtain ⟨vm₁, X₁, hstep₁⟩ := X.invokevirtual hexec hown hlink hnamed hmethM hstM hkP hkPi hy (a := b) (cell := cellB) hcell
    (fun z h => by rw [h] at hobj; cases hobj) hselP hmethM habM hkP hkPi (g := g) hg (argsL := argsL) (rest := rest) (hlen _ hsigM) hstack hdg
  rcases hK m meth c ⟨T.setVm vm₁, locs, cells, slots⟩ { g with stack := rest } (.invokevirtual index) mk (Value.ref b :: argsL).toArray X₁ hg hsize hdg hW (X₁.named hnamed) (hpre vm₁ X₁.warmed) with ⟨v, B, X', hpost, hsteps⟩ | ⟨q, B, X', hpost, hsteps⟩
  · exact Or.inl ⟨v, vm₁, B, X₁.warmed, X', hpost, fun target h => hstep₁ _ fun acts => by rw [doInvoke_state]; exact hsteps.trans h⟩
  · exact Or.inr ⟨q, vm₁, B, X₁.warmed, X', hpost, hstep₁ _ fun acts => by rw [doInvoke_state]; exact hsteps⟩
theorem vx_callSX (X : Stand p l e R s m args below meth c T locs cells slots) (hexec : p.tables.exec = Jvm.exec) {own : String} {index : Nat} {y : MethodName} {bytes : ByteArray} {maxL : Nat} {ret : Option FieldType} {hh : List (Nat × Nat × Nat × Nat)}
    (hown : s.vm.findClass own = some m.cls) (hlink : (Cond.methodLink own index y).before args s = true) (hstat : (Cond.static y).before args s = true) (hinit : (Cond.initialized y.cls).before args s = true)
    (hcode : (Cond.codeWith y bytes maxL ret hh).before args s = true) (hy : y.cls ≠ "java/lang/invoke/MethodHandle" ∧ y.cls ≠ "java/lang/invoke/VarHandle")
    {W9 : Nat} {Pre : Pt → Array Value → Prop} {Post : Pt → Array Value → Option Value → Pt → Prop} {PostX : Pt → Array Value → Addr → Pt → Prop} (hK : vx_Back l R p e below s args y 3 W9 Pre Post PostX)
    {g : JFrame} (hg : g.method = m) (hsize : g.locals.size = c.maxLocals) {argsL rest : List Value} (hlen : ∀ sig, parseMethodDescriptor y.desc = some sig → argsL.length = sig.parameters.length)
    (hstack : g.stack = argsL.reverse ++ rest) (hW : 2 * g.monitorRoom + (rest.map fun v => v.category).sum ≤ W9) (hdg : decode c.code g.pc = .ok (.invokestatic index, 3))
    (hpre : ∀ vm₁, s.WarmedH vm₁ → Pre ⟨T.setVm vm₁, locs, cells, slots⟩ argsL.toArray) :
    (∃ (v : Option Value) (vm₁ : Vm) (B : Pt), s.WarmedH vm₁ ∧ Stand p l e R s m args below meth c B.U B.locs B.cells B.slots ∧ Post ⟨T.setVm vm₁, locs, cells, slots⟩ argsL.toArray v B ∧
      ∀ target, Steps p.tables e below (B.U.setTop { g with pc := g.pc + 3, stack := v.toList ++ rest }) target → Steps p.tables e below (T.setTop g) target) ∨
    (∃ (q : Addr) (vm₁ : Vm) (B : Pt), s.WarmedH vm₁ ∧ Stand p l e R s m args below meth c B.U B.locs B.cells B.slots ∧ PostX ⟨T.setVm vm₁, locs, cells, slots⟩ argsL.toArray q B ∧
      Steps p.tables e below (T.setTop g) ((B.U.setTop { g with stack := rest }).pushFrame (.throwing q))) := by
  obtain ⟨mk, methM, cM, hnamed, hmethM, -, -, -, -, -, -, hsigM⟩ := Cond.codeWith_spec hcode
  have hstatic : methM.isStatic = true := Cond.static_spec hnamed hmethM hstat
  obtain ⟨kP, hkP, -⟩ := className_of_methodNamed hnamed
  have hinitP : kP.init = .initialized := Cond.initialized_spec (findClass_of_methodNamed hnamed) hkP hinit
  obtain ⟨vm₁, X₁, hstep₁⟩ := X.invokestatic hexec hown hlink hnamed hmethM hstatic hkP hinitP hy (g := g) hg (argsL := argsL) (rest := rest) (hlen _ hsigM) hstack hdg
  rcases hK m meth c ⟨T.setVm vm₁, locs, cells, slots⟩ { g with stack := rest } (.invokestatic index) mk argsL.toArray X₁ hg hsize hdg hW (X₁.named hnamed) (hpre vm₁ X₁.warmed) with ⟨v, B, X', hpost, hsteps⟩ | ⟨q, B, X', hpost, hsteps⟩
  · exact Or.inl ⟨v, vm₁, B, X₁.warmed, X', hpost, fun target h => hstep₁ _ fun acts => by rw [doInvoke_state]; exact hsteps.trans h⟩
  · exact Or.inr ⟨q, vm₁, B, X₁.warmed, X', hpost, hstep₁ _ fun acts => by rw [doInvoke_state]; exact hsteps⟩
theorem vx_callVW (X : Stand p l e R s m args below meth c T locs cells slots) (hexec : p.tables.exec = Jvm.exec) {own C : String} {index : Nat} {y : MethodName} {bytes : ByteArray} {maxL : Nat} {ret : Option FieldType} {hh : List (Nat × Nat × Nat × Nat)}
    (hown : s.vm.findClass own = some m.cls) (hlink : (Cond.methodLink own index y).before args s = true) (hinst : (Cond.instanceMethod y).before args s = true) (hsel : (Cond.selects C y y).before args s = true)
    (hcode : (Cond.codeWith y bytes maxL ret hh).before args s = true) (hy : y.cls ≠ "java/lang/invoke/MethodHandle" ∧ y.cls ≠ "java/lang/invoke/VarHandle")
    {W9 : Nat} {Pre : Pt → Array Value → Prop} {Post : Pt → Array Value → Option Value → Pt → Prop} (hK : Back l R p e below s args y 3 W9 Pre Post)
    {b : Addr} {cellB : Cell} (hcell : T.heap[b]? = some cellB) (hobj : cellB.vm.isStatics = false) (hcls : s.vm.findClass C = some cellB.cls)
    {g : JFrame} (hg : g.method = m) (hsize : g.locals.size = c.maxLocals) {argsL rest : List Value} (hlen : ∀ sig, parseMethodDescriptor y.desc = some sig → argsL.length = sig.parameters.length)
    (hstack : g.stack = argsL.reverse ++ .ref b :: rest) (hW : 2 * g.monitorRoom + (rest.map fun v => v.category).sum ≤ W9) (hdg : decode c.code g.pc = .ok (.invokevirtual index, 3))
    (hpre : ∀ vm₁, s.WarmedH vm₁ → Pre ⟨T.setVm vm₁, locs, cells, slots⟩ (Value.ref b :: argsL).toArray) :
    ∃ (v : Option Value) (vm₁ : Vm) (B : Pt), s.WarmedH vm₁ ∧ Stand p l e R s m args below meth c B.U B.locs B.cells B.slots ∧ Post ⟨T.setVm vm₁, locs, cells, slots⟩ (Value.ref b :: argsL).toArray v B ∧
      ∀ target, Steps p.tables e below (B.U.setTop { g with pc := g.pc + 3, stack := v.toList ++ rest }) target → Steps p.tables e below (T.setTop g) target := by
  obtain ⟨mk, methM, hnamed, hmethM, hstM, habM⟩ := Cond.instanceMethod_spec hinst
  obtain ⟨m8, methM', cM, hn8, hmethM', -, -, -, -, -, -, hsigM⟩ := Cond.codeWith_spec hcode
  cases Option.some.inj (hn8.symm.trans hnamed)
  cases hmethM.symm.trans hmethM'
  obtain ⟨c2, r2, m2, q1, q2, q3, q4, kP, hkP, hkPi⟩ := Cond.selects_spec hsel
  cases hcls.symm.trans q1
  cases (State.methodFound?_of_named hnamed hy).symm.trans q2
  cases hnamed.symm.trans q3
  have hselP : selectMethod e.platform s.vm cellB.cls mk = .method mk := by rw [Launch.admits_selectMethod X.admits]; exact q4
  obtain ⟨vm₁, X₁, hstep₁⟩ := X.invokevirtual hexec hown hlink hnamed hmethM hstM hkP hkPi hy (a := b) (cell := cellB) hcell
    (fun z h => by rw [h] at hobj; cases hobj) hselP hmethM habM hkP hkPi (g := g) hg (argsL := argsL) (rest := rest) (hlen _ hsigM) hstack hdg
  obtain ⟨v, B, X', hpost, hsteps⟩ := hK m meth c ⟨T.setVm vm₁, locs, cells, slots⟩ { g with stack := rest } (.invokevirtual index) mk (Value.ref b :: argsL).toArray X₁ hg hsize hdg hW (X₁.named hnamed) (hpre vm₁ X₁.warmed)
  exact ⟨v, vm₁, B, X₁.warmed, X', hpost, fun target h => hstep₁ _ fun acts => by rw [doInvoke_state]; exact hsteps.trans h⟩
abbrev vx_CVW (R : Room) (s : State) (args : Array Value) (own C : String) (index : Nat) (y : MethodName) (bytes : ByteArray) (maxL : Nat) (ret : Option FieldType) (hh : List (Nat × Nat × Nat × Nat)) (ws : List Cond) (rm : Room) (mc ms n : Nat) : Prop :=
  (rm.cells = mc ∧ rm.slots = ms ∧ rm.frames + 1 ≤ R.frames ∧ 8 + (maxL + 11) + rm.locals ≤ R.locals ∧ (∀ w ∈ ws, ∀ (a' : Array Value) (U : State), s.WarmedH U.vm → w.before a' U = true) ∧ Cond.codeWith y bytes maxL ret hh ∈ ws) ∧
  (Cond.codeWith y bytes maxL ret hh).before args s = true ∧ (Cond.initialized y.cls).before args s = true ∧ (y.cls ≠ "java/lang/invoke/MethodHandle" ∧ y.cls ≠ "java/lang/invoke/VarHandle") ∧
  (∀ sig, parseMethodDescriptor y.desc = some sig → n = sig.parameters.length) ∧ (Cond.methodLink own index y).before args s = true ∧ (Cond.instanceMethod y).before args s = true ∧ (Cond.selects C y y).before args s = true
theorem vx_cwVW {own C : String} {index maxL mc ms : Nat} {y : MethodName} {bytes : ByteArray} {ret : Option FieldType} {hh : List (Nat × Nat × Nat × Nat)} {Ts ws ws' : List Cond} {rm : Room} (n : Nat) (ht : ∀ w ∈ Ts, w.before args s = true) (hT : GoodIn Ts (wsV own index C y ws)) (hw : ws = Cond.codeWith y bytes maxL ret hh :: ws') (hrc : rm.cells = mc) (hrs : rm.slots = ms)
    (hd : y.cls = C ∧ y.cls ≠ "java/lang/invoke/MethodHandle" ∧ y.cls ≠ "java/lang/invoke/VarHandle" ∧ (parseMethodDescriptor y.desc).map (fun d => d.parameters.length) = some n) (hR : rm.frames + 1 ≤ R.frames ∧ 8 + (maxL + 11) + rm.locals ≤ R.locals) :
    vx_CVW R s args own C index y bytes maxL ret hh ws rm mc ms n := by
  obtain ⟨hC, hd⟩ := hd
  subst hC
  have ok : ∀ w ∈ wsV own index y.cls y ws, w.before args s = true := fun w h => ht w (hT w h).1
  have hG : GoodIn Ts ws := fun w h => hT w (by unfold wsV; exact List.mem_append_right _ h)
  have hc : Cond.codeWith y bytes maxL ret hh ∈ ws := by rw [hw]; exact List.mem_cons_self
  refine ⟨⟨hrc, hrs, hR.1, hR.2, pay_in ht hG, hc⟩, ht _ (hG _ hc).1, ok _ (by simp [wsV]), ⟨hd.1, hd.2.1⟩, fun sig h => ?_, ok _ (by simp [wsV]), ok _ (by simp [wsV]), ok _ (by simp [wsV])⟩
  have h2 := hd.2.2
  rw [h] at h2
  exact (Option.some.inj h2).symm
theorem vx_runVW {y : MethodName} {bytes cc : ByteArray} {maxL nL mc ms n index : Nat} {ret : Option FieldType} {hh : List (Nat × Nat × Nat × Nat)} {ws : List Cond} {rm : Room} {Pc : Array Value → State → Prop} {Qc : Array Value → State → Outcome → State → Prop} {free : Addr → Prop} {Ts : List Cond} {own C : String} {b : Addr} {As rest : List Value} {g : JFrame}
    (S : CallFix p m c cc nL s args Ts own) (hM : Met l y ws rm Pc Qc mc ms free) (cw : vx_CVW R s args own C index y bytes maxL ret hh ws rm mc ms n) (hp : PreV s H C b Pc As)
    (hg : g.method = m) (hn : As.length = n) (hsize : g.locals.size = nL) (hstack : g.stack = As.reverse ++ .ref b :: rest) (hW : 2 * g.monitorRoom + (rest.map fun v => v.category).sum ≤ 8) (hdg : decode cc g.pc = .ok (.invokevirtual index, 3)) (hf : cells + mc ≤ R.cells ∧ slots + ms ≤ R.slots) :
    va_Run p l e R s m args below meth c H locs cells slots mc ms g rest (Qc (Value.ref b :: As).toArray) free := by
  obtain ⟨⟨hrc, hrs, hfr, hlo, hws, hcw⟩, hcode, hini, hy, hlen, hl, hin, hse⟩ := cw
  have hK : Back l R p e below s args y 3 8 (PreOf R mc ms Pc) (PostOf Qc mc ms free) := va_backW (hh := hh) (bytes := bytes) (maxL := maxL) (ret := ret) hM hp.1 hrc hrs hfr hlo hws hcw (fun a' U hW => word_at hW (Or.inl (by first | rfl | simp [Cond.onTables, Cond.keeps, Cond.steady])) hini)
  obtain ⟨hx, hb, hml, ho, -⟩ := S
  obtain ⟨-, ⟨cellB, hcB, hoB, hclB⟩, hPc⟩ := hp
  intro T hT X
  obtain ⟨v, vm₁, ⟨U', l2, c2, s2⟩, hW₁, X', ⟨g', mk, t, L, e1, e2, hq, h1, hL, h2, h3⟩, st⟩ := vx_callVW X hx (C := C) (hh := hh) (bytes := bytes) (maxL := maxL) (ret := ret) ho hl hin hse hcode hy hK (by rw [hT]; exact hcB) hoB hclB hg (hsize.trans hml.symm) (argsL := As) (rest := rest) (fun sig h => hn.trans (hlen sig h)) hstack hW (by rw [hb]; exact hdg)
    (fun vm₁ hW₁ => ⟨hf.1, hf.2, hPc (T.setVm vm₁) hT hW₁⟩)
  dsimp only [Pt.U, Pt.locs, Pt.cells, Pt.slots] at X' e1 e2 h1 h2 h3 st
  subst h1; subst h2; subst h3
  exact ⟨v, (T.setVm vm₁).calling g' mk (Value.ref b :: As).toArray, t, U', L, hT, X', hL, e1, e2, hq, st⟩
section
variable {y : MethodName} {bytes cc : ByteArray} {maxL nL mc ms n index : Nat} {ret : Option FieldType} {ws : List Cond} {rm : Room} {Pc : Array Value → State → Prop} {Qc : Array Value → State → Outcome → State → Prop} {XC : String → State → State → Prop} {free : Addr → Prop} {Ts : List Cond} {own C : String} {b : Addr} {As rest : List Value} {g : JFrame}
theorem vx_runVX {hh : List (Nat × Nat × Nat × Nat)} (S : CallFix p m c cc nL s args Ts own) (hM : vx_Met l y ws rm Pc Qc XC mc ms free) (cw : vx_CVW R s args own C index y bytes maxL ret hh ws rm mc ms n) (hp : PreV s H C b Pc As)
    (hg : g.method = m) (hn : As.length = n) (hsize : g.locals.size = nL) (hstack : g.stack = As.reverse ++ .ref b :: rest) (hW : 2 * g.monitorRoom + (rest.map fun v => v.category).sum ≤ 8) (hdg : decode cc g.pc = .ok (.invokevirtual index, 3)) (hf : cells + mc ≤ R.cells ∧ slots + ms ≤ R.slots) :
    vx_Run p l e R s m args below meth c H locs cells slots mc ms g rest (Qc (Value.ref b :: As).toArray) XC free := by
  obtain ⟨⟨hrc, hrs, hfr, hlo, hws, hcw⟩, hcode, hini, hy, hlen, hl, hin, hse⟩ := cw
  have hK : vx_Back l R p e below s args y 3 8 (PreOf R mc ms Pc) (PostOf Qc mc ms free) (vx_Post XC mc ms free) := vx_backW (hh := hh) (bytes := bytes) (maxL := maxL) (ret := ret) hM hp.1 hrc hrs hfr hlo hws hcw (fun a' U hW => word_at hW (Or.inl (by first | rfl | simp [Cond.onTables, Cond.keeps, Cond.steady])) hini)
  obtain ⟨hx, hb, hml, ho, -⟩ := S
  obtain ⟨-, ⟨cellB, hcB, hoB, hclB⟩, hPc⟩ := hp
  intro T hT X
  rcases vx_callVX X hx (C := C) (hh := hh) (bytes := bytes) (maxL := maxL) (ret := ret) ho hl hin hse hcode hy hK (by rw [hT]; exact hcB) hoB hclB hg (hsize.trans hml.symm) (argsL := As) (rest := rest) (fun sig h => hn.trans (hlen sig h)) hstack hW (by rw [hb]; exact hdg)
    (fun vm₁ hW₁ => ⟨hf.1, hf.2, hPc (T.setVm vm₁) hT hW₁⟩) with ⟨v, vm₁, ⟨U', l2, c2, s2⟩, hW₁, X', ⟨g', mk, t, L, e1, e2, hq, h1, hL, h2, h3⟩, st⟩ | ⟨q, vm₁, ⟨U', l2, c2, s2⟩, hW₁, X', ⟨g', mk, t, L, E, ce, e1, e2, hq, hce, hcv, hcl, h1, hL, h2, h3⟩, st⟩
  · dsimp only [Pt.U, Pt.locs, Pt.cells, Pt.slots] at X' e1 e2 h1 h2 h3 st
    subst h1; subst h2; subst h3
    exact Or.inl ⟨v, (T.setVm vm₁).calling g' mk (Value.ref b :: As).toArray, t, U', L, hT, X', hL, e1, e2, hq, st⟩
  · dsimp only [Pt.U, Pt.locs, Pt.cells, Pt.slots] at X' e1 e2 h1 h2 h3 st hcl
    subst h1; subst h2; subst h3
    exact Or.inr ⟨q, (T.setVm vm₁).calling g' mk (Value.ref b :: As).toArray, t, U', L, E, ce, hT, X', hL, e1, e2, hq, hce, hcv, vx_cls hW₁ hcl, st⟩
theorem vx_runSX {hh : List (Nat × Nat × Nat × Nat)} (S : CallFix p m c cc nL s args Ts own) (hM : vx_Met l y ws rm Pc Qc XC mc ms free) (cw : vx_CSW R s args own index y bytes maxL ret hh ws rm mc ms n) (hp : PreS s H Pc As)
    (hg : g.method = m) (hn : As.length = n) (hsize : g.locals.size = nL) (hstack : g.stack = As.reverse ++ rest) (hW : 2 * g.monitorRoom + (rest.map fun v => v.category).sum ≤ 8) (hdg : decode cc g.pc = .ok (.invokestatic index, 3)) (hf : cells + mc ≤ R.cells ∧ slots + ms ≤ R.slots) :
    vx_Run p l e R s m args below meth c H locs cells slots mc ms g rest (Qc As.toArray) XC free := by
  obtain ⟨⟨hrc, hrs, hfr, hlo, hws, hcw⟩, hcode, hini, hy, hlen, hl, hstt⟩ := cw
  have hK : vx_Back l R p e below s args y 3 8 (PreOf R mc ms Pc) (PostOf Qc mc ms free) (vx_Post XC mc ms free) := vx_backW (hh := hh) (bytes := bytes) (maxL := maxL) (ret := ret) hM hp.1 hrc hrs hfr hlo hws hcw (fun a' U hW => word_at hW (Or.inl (by first | rfl | simp [Cond.onTables, Cond.keeps, Cond.steady])) hini)
  obtain ⟨hx, hb, hml, ho, -⟩ := S
  intro T hT X
  rcases vx_callSX X hx (hh := hh) (bytes := bytes) (maxL := maxL) (ret := ret) ho hl hstt hini hcode hy hK hg (hsize.trans hml.symm) (argsL := As) (rest := rest) (fun sig h => hn.trans (hlen sig h)) hstack hW (by rw [hb]; exact hdg)
    (fun vm₁ hW₁ => ⟨hf.1, hf.2, hp.2 (T.setVm vm₁) hT hW₁⟩) with ⟨v, vm₁, ⟨U', l2, c2, s2⟩, hW₁, X', ⟨g', mk, t, L, e1, e2, hq, h1, hL, h2, h3⟩, st⟩ | ⟨q, vm₁, ⟨U', l2, c2, s2⟩, hW₁, X', ⟨g', mk, t, L, E, ce, e1, e2, hq, hce, hcv, hcl, h1, hL, h2, h3⟩, st⟩
  · dsimp only [Pt.U, Pt.locs, Pt.cells, Pt.slots] at X' e1 e2 h1 h2 h3 st
    subst h1; subst h2; subst h3
    exact Or.inl ⟨v, (T.setVm vm₁).calling g' mk As.toArray, t, U', L, hT, X', hL, e1, e2, hq, st⟩
  · dsimp only [Pt.U, Pt.locs, Pt.cells, Pt.slots] at X' e1 e2 h1 h2 h3 st hcl
    subst h1; subst h2; subst h3
    exact Or.inr ⟨q, (T.setVm vm₁).calling g' mk As.toArray, t, U', L, E, ce, hT, X', hL, e1, e2, hq, hce, hcv, vx_cls hW₁ hcl, st⟩
end
end VXH
theorem vx_ofWH {l : Launch} {y : MethodName} {ws ws' : List Cond} {rm : Room} {Pc : Array Value → State → Prop} {Qc : Array Value → State → Outcome → State → Prop} {XC : String → State → State → Prop} {mc ms : Nat} {free : Addr → Prop} {cc : ByteArray} {maxL : Nat} {ret : Option FieldType} {hh : List (Nat × Nat × Nat × Nat)}
    (hy : plainName y.cls = true) (hw : ws = Cond.codeWith y cc maxL ret hh :: ws')
    (body : ∀ p e s m args below meth c s₁, BodyLoose p l y (headSpec ws rm) cc maxL ret e s m args below meth c s₁ → c.maxLocals = maxL → Pc args s →
      W p l e (headSpec ws rm).room s m args below meth c s.heap [] 0 0 (vx_MQ below Qc XC args s mc ms free) (entryFrame m args maxL)) : vx_Met l y ws rm Pc Qc XC mc ms free := by
  refine MetFree.of_bodyS (code := cc) (maxLocals := maxL) (ret := ret) hy ?_ ?_
  · intro args s m h hn
    obtain ⟨m9, meth, c, hn9, h1, h2, h3, h4, -, h5, h6, -⟩ := Cond.codeWith_spec (atoms_spec (ws := ws) h _ (by rw [hw]; exact List.mem_cons_self))
    cases hn.symm.trans hn9
    exact ⟨meth, c, h1, h2, h3, h4, h5, h6⟩
  · intro p e s m args below meth c s₁ B hml hP _
    have hh0 : s₁.heap = s.heap := by rw [B.state]; rfl
    obtain ⟨t, a1, o, b1, b2, b3⟩ := body p e s m args below meth c s₁ B hml hP s₁ hh0 (Stand.of_body B)
    exact ⟨t, o, a1, b1, b2, b3⟩
/-! ===== END ===== -/
end
section
/-! names: fields, methods, decode rows, out of the printed names; words of the tables by their places -/
def RX0 : String := "NeighbourDesk$Cache"
def TX0 : u_T := fun k => match k with
  | 0 => ("NeighbourDesk$Cache", "row", "[LNeighbourDesk$Entry;", true)
  | _ => ("NeighbourDesk$Cache", "size", "I", false)
def tyX0 : Nat → FieldType := fun k => match k with
  | 0 => .array (.object "NeighbourDesk$Entry")
  | _ => .int
theorem nmX0 : ∀ a, a < 2 → ∀ b, b < 2 → a ≠ b → (TX0 a).2.1 ≠ (TX0 b).2.1 := by decide +kernel
theorem tyX0_ok : ∀ k, k < 2 → parseFieldDescriptor (TX0 k).2.2.1 = some (tyX0 k) := by decide +kernel
abbrev cX0_init : ByteArray := prog_2_method_1_code
def yX0_init : MethodName := ⟨RX0, "<init>", "(I)V"⟩
abbrev cX0_indexOf : ByteArray := prog_2_method_2_code
def yX0_indexOf : MethodName := ⟨RX0, "indexOf", "(I)I"⟩
abbrev cX0_countWaiting : ByteArray := prog_2_method_3_code
def yX0_countWaiting : MethodName := ⟨RX0, "countWaiting", "()I"⟩
abbrev cX0_makeRoom : ByteArray := prog_2_method_4_code
def yX0_makeRoom : MethodName := ⟨RX0, "makeRoom", "()Z"⟩
abbrev cX0_add : ByteArray := prog_2_method_5_code
def yX0_add : MethodName := ⟨RX0, "add", "(IJII)LNeighbourDesk$Entry;"⟩
abbrev cX0_use : ByteArray := prog_2_method_6_code
def yX0_use : MethodName := ⟨RX0, "use", "(II)LNeighbourDesk$Entry;"⟩
abbrev cX0_remove : ByteArray := prog_2_method_7_code
def yX0_remove : MethodName := ⟨RX0, "remove", "(I)V"⟩
abbrev cX0_moveToEnd : ByteArray := prog_2_method_8_code
def yX0_moveToEnd : MethodName := ⟨RX0, "moveToEnd", "(I)LNeighbourDesk$Entry;"⟩
def RX1 : String := "NeighbourDesk$Entry"
def TX1 : u_T := fun k => match k with
  | 0 => ("NeighbourDesk$Entry", "queue", "[I", true)
  | 1 => ("NeighbourDesk$Entry", "waiting", "I", false)
  | 2 => ("NeighbourDesk$Entry", "address", "I", false)
  | 3 => ("NeighbourDesk$Entry", "number", "J", false)
  | 4 => ("NeighbourDesk$Entry", "kind", "I", false)
  | 5 => ("NeighbourDesk$Entry", "since", "I", false)
  | _ => ("NeighbourDesk$Entry", "used", "I", false)
def tyX1 : Nat → FieldType := fun k => match k with
  | 0 => .array .int
  | 1 => .int
  | 2 => .int
  | 3 => .long
  | 4 => .int
  | 5 => .int
  | _ => .int
theorem nmX1 : ∀ a, a < 7 → ∀ b, b < 7 → a ≠ b → (TX1 a).2.1 ≠ (TX1 b).2.1 := by decide +kernel
theorem tyX1_ok : ∀ k, k < 7 → parseFieldDescriptor (TX1 k).2.2.1 = some (tyX1 k) := by decide +kernel
abbrev cX1_init : ByteArray := prog_3_method_1_code
def yX1_init : MethodName := ⟨RX1, "<init>", "()V"⟩
abbrev cX1_become : ByteArray := prog_3_method_2_code
def yX1_become : MethodName := ⟨RX1, "become", "(II)V"⟩
def RX2 : String := "NeighbourDesk$Frames"
def TX2 : u_T := fun k => match k with
  | 0 => ("NeighbourDesk$Frames", "ring", "LNeighbourDesk$Ring;", true)
  | 1 => ("NeighbourDesk$Frames", "goals", "[J", true)
  | 2 => ("NeighbourDesk$Frames", "numbers", "[I", true)
  | 3 => ("NeighbourDesk$Frames", "packets", "[Z", true)
  | _ => ("NeighbourDesk$Frames", "bytes", "[B", true)
def tyX2 : Nat → FieldType := fun k => match k with
  | 0 => .object "NeighbourDesk$Ring"
  | 1 => .array .long
  | 2 => .array .int
  | 3 => .array .boolean
  | _ => .array .byte
theorem nmX2 : ∀ a, a < 5 → ∀ b, b < 5 → a ≠ b → (TX2 a).2.1 ≠ (TX2 b).2.1 := by decide +kernel
theorem tyX2_ok : ∀ k, k < 5 → parseFieldDescriptor (TX2 k).2.2.1 = some (tyX2 k) := by decide +kernel
abbrev cX2_init : ByteArray := prog_4_method_1_code
def yX2_init : MethodName := ⟨RX2, "<init>", "()V"⟩
abbrev cX2_addData : ByteArray := prog_4_method_2_code
def yX2_addData : MethodName := ⟨RX2, "addData", "(JI)V"⟩
abbrev cX2_addPacket : ByteArray := prog_4_method_3_code
def yX2_addPacket : MethodName := ⟨RX2, "addPacket", "(JIJIJI)V"⟩
abbrev cX2_isPacket : ByteArray := prog_4_method_4_code
def yX2_isPacket : MethodName := ⟨RX2, "isPacket", "(I)Z"⟩
abbrev cX2_byteOf : ByteArray := prog_4_method_5_code
def yX2_byteOf : MethodName := ⟨RX2, "byteOf", "(II)I"⟩
def RX3 : String := "NeighbourDesk$Losses"
def TX3 : u_T := fun k => match k with
  | 0 => ("NeighbourDesk$Losses", "ring", "LNeighbourDesk$Ring;", true)
  | _ => ("NeighbourDesk$Losses", "numbers", "[I", true)
def tyX3 : Nat → FieldType := fun k => match k with
  | 0 => .object "NeighbourDesk$Ring"
  | _ => .array .int
theorem nmX3 : ∀ a, a < 2 → ∀ b, b < 2 → a ≠ b → (TX3 a).2.1 ≠ (TX3 b).2.1 := by decide +kernel
theorem tyX3_ok : ∀ k, k < 2 → parseFieldDescriptor (TX3 k).2.2.1 = some (tyX3 k) := by decide +kernel
abbrev cX3_init : ByteArray := prog_5_method_1_code
def yX3_init : MethodName := ⟨RX3, "<init>", "()V"⟩
abbrev cX3_add : ByteArray := prog_5_method_2_code
def yX3_add : MethodName := ⟨RX3, "add", "(I)V"⟩
def RX4 : String := "NeighbourDesk$Ring"
def TX4 : u_T := fun k => match k with
  | _ => ("NeighbourDesk$Ring", "total", "I", false)
def tyX4 : Nat → FieldType := fun k => match k with
  | _ => .int
theorem nmX4 : ∀ a, a < 1 → ∀ b, b < 1 → a ≠ b → (TX4 a).2.1 ≠ (TX4 b).2.1 := by decide +kernel
theorem tyX4_ok : ∀ k, k < 1 → parseFieldDescriptor (TX4 k).2.2.1 = some (tyX4 k) := by decide +kernel
abbrev cX4_init : ByteArray := prog_6_method_1_code
def yX4_init : MethodName := ⟨RX4, "<init>", "()V"⟩
abbrev cX4_nextSlot : ByteArray := prog_6_method_2_code
def yX4_nextSlot : MethodName := ⟨RX4, "nextSlot", "()I"⟩
abbrev cX4_holds : ByteArray := prog_6_method_3_code
def yX4_holds : MethodName := ⟨RX4, "holds", "(I)Z"⟩
abbrev cX4_slotOf : ByteArray := prog_6_method_4_code
def yX4_slotOf : MethodName := ⟨RX4, "slotOf", "(I)I"⟩
def RX5 : String := "NeighbourDesk$Tape"
def TX5 : u_T := fun k => match k with
  | 0 => ("NeighbourDesk$Tape", "bytes", "[B", true)
  | _ => ("NeighbourDesk$Tape", "length", "I", false)
def tyX5 : Nat → FieldType := fun k => match k with
  | 0 => .array .byte
  | _ => .int
theorem nmX5 : ∀ a, a < 2 → ∀ b, b < 2 → a ≠ b → (TX5 a).2.1 ≠ (TX5 b).2.1 := by decide +kernel
theorem tyX5_ok : ∀ k, k < 2 → parseFieldDescriptor (TX5 k).2.2.1 = some (tyX5 k) := by decide +kernel
abbrev cX5_init : ByteArray := prog_7_method_1_code
def yX5_init : MethodName := ⟨RX5, "<init>", "()V"⟩
abbrev cX5_hasRoomFor : ByteArray := prog_7_method_2_code
def yX5_hasRoomFor : MethodName := ⟨RX5, "hasRoomFor", "(I)Z"⟩
abbrev cX5_append : ByteArray := prog_7_method_3_code
def yX5_append : MethodName := ⟨RX5, "append", "(JI)V"⟩
abbrev cX5_head : ByteArray := prog_7_method_4_code
def yX5_head : MethodName := ⟨RX5, "head", "()J"⟩
abbrev cX5_operation : ByteArray := prog_7_method_5_code
def yX5_operation : MethodName := ⟨RX5, "operation", "()I"⟩
abbrev cX5_sender : ByteArray := prog_7_method_6_code
def yX5_sender : MethodName := ⟨RX5, "sender", "()J"⟩
abbrev cX5_senderAddress : ByteArray := prog_7_method_7_code
def yX5_senderAddress : MethodName := ⟨RX5, "senderAddress", "()I"⟩
abbrev cX5_targetAddress : ByteArray := prog_7_method_8_code
def yX5_targetAddress : MethodName := ⟨RX5, "targetAddress", "()I"⟩
def RX6 : String := "NeighbourDesk$Wire"
def TX6 : u_T := fun k => match k with
  | _ => ("", "", "", false)
def tyX6 : Nat → FieldType := fun k => match k with
  | _ => .int
theorem nmX6 : ∀ a, a < 0 → ∀ b, b < 0 → a ≠ b → (TX6 a).2.1 ≠ (TX6 b).2.1 := by decide +kernel
theorem tyX6_ok : ∀ k, k < 0 → parseFieldDescriptor (TX6 k).2.2.1 = some (tyX6 k) := by decide +kernel
abbrev cX6_writePacket : ByteArray := prog_8_method_2_code
def yX6_writePacket : MethodName := ⟨RX6, "writePacket", "([BIIJIJI)V"⟩
abbrev cX6_write : ByteArray := prog_8_method_3_code
def yX6_write : MethodName := ⟨RX6, "write", "([BIIJ)V"⟩
abbrev cX6_read : ByteArray := prog_8_method_4_code
def yX6_read : MethodName := ⟨RX6, "read", "([BII)J"⟩
def RX7 : String := "NeighbourDesk"
def TX7 : u_T := fun k => match k with
  | 0 => ("NeighbourDesk", "reach", "I", true)
  | 1 => ("NeighbourDesk", "age", "I", true)
  | 2 => ("NeighbourDesk", "cache", "LNeighbourDesk$Cache;", true)
  | 3 => ("NeighbourDesk", "tape", "LNeighbourDesk$Tape;", true)
  | 4 => ("NeighbourDesk", "frames", "LNeighbourDesk$Frames;", true)
  | 5 => ("NeighbourDesk", "losses", "LNeighbourDesk$Losses;", true)
  | 6 => ("NeighbourDesk", "hereNumber", "J", false)
  | 7 => ("NeighbourDesk", "time", "I", false)
  | 8 => ("NeighbourDesk", "phase", "I", false)
  | 9 => ("NeighbourDesk", "own", "I", false)
  | 10 => ("NeighbourDesk", "claimedAt", "I", false)
  | _ => ("NeighbourDesk", "defendedAt", "I", false)
def tyX7 : Nat → FieldType := fun k => match k with
  | 0 => .int
  | 1 => .int
  | 2 => .object "NeighbourDesk$Cache"
  | 3 => .object "NeighbourDesk$Tape"
  | 4 => .object "NeighbourDesk$Frames"
  | 5 => .object "NeighbourDesk$Losses"
  | 6 => .long
  | 7 => .int
  | 8 => .int
  | 9 => .int
  | 10 => .int
  | _ => .int
theorem nmX7 : ∀ a, a < 12 → ∀ b, b < 12 → a ≠ b → (TX7 a).2.1 ≠ (TX7 b).2.1 := by decide +kernel
theorem tyX7_ok : ∀ k, k < 12 → parseFieldDescriptor (TX7 k).2.2.1 = some (tyX7 k) := by decide +kernel
abbrev cX7_init : ByteArray := prog_1_method_1_code
def yX7_init : MethodName := ⟨RX7, "<init>", "(III)V"⟩
abbrev cX7_here : ByteArray := prog_1_method_2_code
def yX7_here : MethodName := ⟨RX7, "here", "(J)V"⟩
abbrev cX7_type : ByteArray := prog_1_method_3_code
def yX7_type : MethodName := ⟨RX7, "type", "(JI)I"⟩
abbrev cX7_pack : ByteArray := prog_1_method_4_code
def yX7_pack : MethodName := ⟨RX7, "pack", "(IJIJI)V"⟩
abbrev cX7_hear : ByteArray := prog_1_method_5_code
def yX7_hear : MethodName := ⟨RX7, "hear", "()I"⟩
abbrev cX7_claim : ByteArray := prog_1_method_6_code
def yX7_claim : MethodName := ⟨RX7, "claim", "(I)V"⟩
abbrev cX7_release : ByteArray := prog_1_method_7_code
def yX7_release : MethodName := ⟨RX7, "release", "()Z"⟩
abbrev cX7_send : ByteArray := prog_1_method_8_code
def yX7_send : MethodName := ⟨RX7, "send", "(II)I"⟩
abbrev cX7_tick : ByteArray := prog_1_method_9_code
def yX7_tick : MethodName := ⟨RX7, "tick", "(I)I"⟩
abbrev cX7_count : ByteArray := prog_1_method_10_code
def yX7_count : MethodName := ⟨RX7, "count", "(I)I"⟩
abbrev cX7_entry : ByteArray := prog_1_method_11_code
def yX7_entry : MethodName := ⟨RX7, "entry", "(I)I"⟩
abbrev cX7_about : ByteArray := prog_1_method_12_code
def yX7_about : MethodName := ⟨RX7, "about", "(II)I"⟩
abbrev cX7_hardware : ByteArray := prog_1_method_13_code
def yX7_hardware : MethodName := ⟨RX7, "hardware", "(I)J"⟩
abbrev cX7_knows : ByteArray := prog_1_method_14_code
def yX7_knows : MethodName := ⟨RX7, "knows", "(I)Z"⟩
abbrev cX7_waits : ByteArray := prog_1_method_15_code
def yX7_waits : MethodName := ⟨RX7, "waits", "(II)I"⟩
abbrev cX7_to : ByteArray := prog_1_method_16_code
def yX7_to : MethodName := ⟨RX7, "to", "(I)J"⟩
abbrev cX7_data : ByteArray := prog_1_method_17_code
def yX7_data : MethodName := ⟨RX7, "data", "(I)I"⟩
abbrev cX7_out : ByteArray := prog_1_method_18_code
def yX7_out : MethodName := ⟨RX7, "out", "(II)I"⟩
abbrev cX7_lost : ByteArray := prog_1_method_19_code
def yX7_lost : MethodName := ⟨RX7, "lost", "(I)I"⟩
abbrev cX7_isBad : ByteArray := prog_1_method_20_code
def yX7_isBad : MethodName := ⟨RX7, "isBad", "()Z"⟩
abbrev cX7_takeIn : ByteArray := prog_1_method_21_code
def yX7_takeIn : MethodName := ⟨RX7, "takeIn", "()I"⟩
abbrev cX7_isConflict : ByteArray := prog_1_method_22_code
def yX7_isConflict : MethodName := ⟨RX7, "isConflict", "()Z"⟩
abbrev cX7_meetConflict : ByteArray := prog_1_method_23_code
def yX7_meetConflict : MethodName := ⟨RX7, "meetConflict", "()V"⟩
abbrev cX7_learn : ByteArray := prog_1_method_24_code
def yX7_learn : MethodName := ⟨RX7, "learn", "(LNeighbourDesk$Entry;J)V"⟩
abbrev cX7_takeInForOwn : ByteArray := prog_1_method_25_code
def yX7_takeInForOwn : MethodName := ⟨RX7, "takeInForOwn", "()V"⟩
abbrev cX7_sendTo : ByteArray := prog_1_method_26_code
def yX7_sendTo : MethodName := ⟨RX7, "sendTo", "(LNeighbourDesk$Entry;I)I"⟩
abbrev cX7_sendToStranger : ByteArray := prog_1_method_27_code
def yX7_sendToStranger : MethodName := ⟨RX7, "sendToStranger", "(II)I"⟩
abbrev cX7_putInLine : ByteArray := prog_1_method_28_code
def yX7_putInLine : MethodName := ⟨RX7, "putInLine", "(LNeighbourDesk$Entry;I)I"⟩
abbrev cX7_request : ByteArray := prog_1_method_29_code
def yX7_request : MethodName := ⟨RX7, "request", "(JII)V"⟩
abbrev cX7_probe : ByteArray := prog_1_method_30_code
def yX7_probe : MethodName := ⟨RX7, "probe", "()V"⟩
abbrev cX7_announce : ByteArray := prog_1_method_31_code
def yX7_announce : MethodName := ⟨RX7, "announce", "()V"⟩
abbrev cX7_tickOwn : ByteArray := prog_1_method_32_code
def yX7_tickOwn : MethodName := ⟨RX7, "tickOwn", "()V"⟩
abbrev cX7_tickEntries : ByteArray := prog_1_method_33_code
def yX7_tickEntries : MethodName := ⟨RX7, "tickEntries", "()V"⟩
abbrev cX7_isOver : ByteArray := prog_1_method_34_code
def yX7_isOver : MethodName := ⟨RX7, "isOver", "(LNeighbourDesk$Entry;)Z"⟩
abbrev cX7_tickEntry : ByteArray := prog_1_method_35_code
def yX7_tickEntry : MethodName := ⟨RX7, "tickEntry", "(LNeighbourDesk$Entry;)V"⟩
abbrev cX7_giveUp : ByteArray := prog_1_method_36_code
def yX7_giveUp : MethodName := ⟨RX7, "giveUp", "()V"⟩
abbrev cX7_loseWaiting : ByteArray := prog_1_method_37_code
def yX7_loseWaiting : MethodName := ⟨RX7, "loseWaiting", "(LNeighbourDesk$Entry;)V"⟩
def RX8 : String := "NeighbourDeskModel"
def TX8 : u_T := fun k => match k with
  | 0 => ("NeighbourDeskModel", "thrown", "I", false)
  | 1 => ("NeighbourDeskModel", "capacity", "I", false)
  | 2 => ("NeighbourDeskModel", "reach", "I", false)
  | 3 => ("NeighbourDeskModel", "age", "I", false)
  | 4 => ("NeighbourDeskModel", "here", "J", false)
  | 5 => ("NeighbourDeskModel", "time", "I", false)
  | 6 => ("NeighbourDeskModel", "own", "I", false)
  | 7 => ("NeighbourDeskModel", "phase", "I", false)
  | 8 => ("NeighbourDeskModel", "claimed", "I", false)
  | 9 => ("NeighbourDeskModel", "defended", "I", false)
  | 10 => ("NeighbourDeskModel", "tape", "[I", true)
  | 11 => ("NeighbourDeskModel", "taped", "I", false)
  | 12 => ("NeighbourDeskModel", "entries", "I", false)
  | 13 => ("NeighbourDeskModel", "addresses", "[I", true)
  | 14 => ("NeighbourDeskModel", "kinds", "[I", true)
  | 15 => ("NeighbourDeskModel", "hardware", "[J", true)
  | 16 => ("NeighbourDeskModel", "since", "[I", true)
  | 17 => ("NeighbourDeskModel", "used", "[I", true)
  | 18 => ("NeighbourDeskModel", "waiting", "[I", true)
  | 19 => ("NeighbourDeskModel", "waits", "[I", true)
  | 20 => ("NeighbourDeskModel", "frames", "I", false)
  | 21 => ("NeighbourDeskModel", "frameTo", "[J", true)
  | 22 => ("NeighbourDeskModel", "frameData", "[I", true)
  | 23 => ("NeighbourDeskModel", "framePacket", "[Z", true)
  | 24 => ("NeighbourDeskModel", "frameBytes", "[I", true)
  | 25 => ("NeighbourDeskModel", "lost", "I", false)
  | _ => ("NeighbourDeskModel", "lostNumbers", "[I", true)
def tyX8 : Nat → FieldType := fun k => match k with
  | 0 => .int
  | 1 => .int
  | 2 => .int
  | 3 => .int
  | 4 => .long
  | 5 => .int
  | 6 => .int
  | 7 => .int
  | 8 => .int
  | 9 => .int
  | 10 => .array .int
  | 11 => .int
  | 12 => .int
  | 13 => .array .int
  | 14 => .array .int
  | 15 => .array .long
  | 16 => .array .int
  | 17 => .array .int
  | 18 => .array .int
  | 19 => .array .int
  | 20 => .int
  | 21 => .array .long
  | 22 => .array .int
  | 23 => .array .boolean
  | 24 => .array .int
  | 25 => .int
  | _ => .array .int
theorem nmX8 : ∀ a, a < 27 → ∀ b, b < 27 → a ≠ b → (TX8 a).2.1 ≠ (TX8 b).2.1 := by decide +kernel
theorem tyX8_ok : ∀ k, k < 27 → parseFieldDescriptor (TX8 k).2.2.1 = some (tyX8 k) := by decide +kernel
abbrev cX8_init : ByteArray := prog_10_method_1_code
def yX8_init : MethodName := ⟨RX8, "<init>", "(III)V"⟩
abbrev cX8_thrown : ByteArray := prog_10_method_2_code
def yX8_thrown : MethodName := ⟨RX8, "thrown", "()I"⟩
abbrev cX8_here : ByteArray := prog_10_method_3_code
def yX8_here : MethodName := ⟨RX8, "here", "(J)V"⟩
abbrev cX8_type : ByteArray := prog_10_method_4_code
def yX8_type : MethodName := ⟨RX8, "type", "(JI)I"⟩
abbrev cX8_byteOf : ByteArray := prog_10_method_5_code
def yX8_byteOf : MethodName := ⟨RX8, "byteOf", "(IIJIJI)I"⟩
abbrev cX8_pack : ByteArray := prog_10_method_6_code
def yX8_pack : MethodName := ⟨RX8, "pack", "(IJIJI)V"⟩
abbrev cX8_number : ByteArray := prog_10_method_7_code
def yX8_number : MethodName := ⟨RX8, "number", "(II)J"⟩
abbrev cX8_address : ByteArray := prog_10_method_8_code
def yX8_address : MethodName := ⟨RX8, "address", "(I)I"⟩
abbrev cX8_sendPacket : ByteArray := prog_10_method_9_code
def yX8_sendPacket : MethodName := ⟨RX8, "sendPacket", "(JIIJI)V"⟩
abbrev cX8_sendData : ByteArray := prog_10_method_10_code
def yX8_sendData : MethodName := ⟨RX8, "sendData", "(JI)V"⟩
abbrev cX8_request : ByteArray := prog_10_method_11_code
def yX8_request : MethodName := ⟨RX8, "request", "(JI)V"⟩
abbrev cX8_probe : ByteArray := prog_10_method_12_code
def yX8_probe : MethodName := ⟨RX8, "probe", "()V"⟩
abbrev cX8_lose : ByteArray := prog_10_method_13_code
def yX8_lose : MethodName := ⟨RX8, "lose", "(I)V"⟩
abbrev cX8_find : ByteArray := prog_10_method_14_code
def yX8_find : MethodName := ⟨RX8, "find", "(I)I"⟩
abbrev cX8_move : ByteArray := prog_10_method_15_code
def yX8_move : MethodName := ⟨RX8, "move", "(II)V"⟩
abbrev cX8_take : ByteArray := prog_10_method_16_code
def yX8_take : MethodName := ⟨RX8, "take", "(I)V"⟩
abbrev cX8_goes : ByteArray := prog_10_method_17_code
def yX8_goes : MethodName := ⟨RX8, "goes", "(I)V"⟩
abbrev cX8_use : ByteArray := prog_10_method_18_code
def yX8_use : MethodName := ⟨RX8, "use", "(I)V"⟩
abbrev cX8_makeRoom : ByteArray := prog_10_method_19_code
def yX8_makeRoom : MethodName := ⟨RX8, "makeRoom", "()Z"⟩
abbrev cX8_make : ByteArray := prog_10_method_20_code
def yX8_make : MethodName := ⟨RX8, "make", "(IIJ)V"⟩
abbrev cX8_giveUp : ByteArray := prog_10_method_21_code
def yX8_giveUp : MethodName := ⟨RX8, "giveUp", "()V"⟩
abbrev cX8_isBad : ByteArray := prog_10_method_22_code
def yX8_isBad : MethodName := ⟨RX8, "isBad", "()Z"⟩
abbrev cX8_conflict : ByteArray := prog_10_method_23_code
def yX8_conflict : MethodName := ⟨RX8, "conflict", "()I"⟩
abbrev cX8_learn : ByteArray := prog_10_method_24_code
def yX8_learn : MethodName := ⟨RX8, "learn", "(IJ)V"⟩
abbrev cX8_heard : ByteArray := prog_10_method_25_code
def yX8_heard : MethodName := ⟨RX8, "heard", "()I"⟩
abbrev cX8_hear : ByteArray := prog_10_method_26_code
def yX8_hear : MethodName := ⟨RX8, "hear", "()I"⟩
abbrev cX8_claim : ByteArray := prog_10_method_27_code
def yX8_claim : MethodName := ⟨RX8, "claim", "(I)V"⟩
abbrev cX8_release : ByteArray := prog_10_method_28_code
def yX8_release : MethodName := ⟨RX8, "release", "()Z"⟩
abbrev cX8_send : ByteArray := prog_10_method_29_code
def yX8_send : MethodName := ⟨RX8, "send", "(II)I"⟩
abbrev cX8_ownTick : ByteArray := prog_10_method_30_code
def yX8_ownTick : MethodName := ⟨RX8, "ownTick", "()V"⟩
abbrev cX8_entryTick : ByteArray := prog_10_method_31_code
def yX8_entryTick : MethodName := ⟨RX8, "entryTick", "(I)Z"⟩
abbrev cX8_tick : ByteArray := prog_10_method_32_code
def yX8_tick : MethodName := ⟨RX8, "tick", "(I)I"⟩
abbrev cX8_count : ByteArray := prog_10_method_33_code
def yX8_count : MethodName := ⟨RX8, "count", "(I)I"⟩
abbrev cX8_entry : ByteArray := prog_10_method_34_code
def yX8_entry : MethodName := ⟨RX8, "entry", "(I)I"⟩
abbrev cX8_about : ByteArray := prog_10_method_35_code
def yX8_about : MethodName := ⟨RX8, "about", "(II)I"⟩
abbrev cX8_hardware : ByteArray := prog_10_method_36_code
def yX8_hardware : MethodName := ⟨RX8, "hardware", "(I)J"⟩
abbrev cX8_knows : ByteArray := prog_10_method_37_code
def yX8_knows : MethodName := ⟨RX8, "knows", "(I)Z"⟩
abbrev cX8_waits : ByteArray := prog_10_method_38_code
def yX8_waits : MethodName := ⟨RX8, "waits", "(II)I"⟩
abbrev cX8_frame : ByteArray := prog_10_method_39_code
def yX8_frame : MethodName := ⟨RX8, "frame", "(I)I"⟩
abbrev cX8_to : ByteArray := prog_10_method_40_code
def yX8_to : MethodName := ⟨RX8, "to", "(I)J"⟩
abbrev cX8_data : ByteArray := prog_10_method_41_code
def yX8_data : MethodName := ⟨RX8, "data", "(I)I"⟩
abbrev cX8_out : ByteArray := prog_10_method_42_code
def yX8_out : MethodName := ⟨RX8, "out", "(II)I"⟩
abbrev cX8_lost : ByteArray := prog_10_method_43_code
def yX8_lost : MethodName := ⟨RX8, "lost", "(I)I"⟩
def RJx145de : String := "java/io/Serializable"
def TJx145de : u_T := fun k => match k with
  | _ => ("", "", "", false)
def tyJx145de : Nat → FieldType := fun k => match k with
  | _ => .int
def RJ9 : String := "java/lang/Math"
def TJ9 : u_T := fun k => match k with
  | _ => ("", "", "", false)
def tyJ9 : Nat → FieldType := fun k => match k with
  | _ => .int
abbrev cJ9_floorMod_7cf53 : ByteArray := prog_16_method_50_code
def yJ9_floorMod_7cf53 : MethodName := ⟨RJ9, "floorMod", "(II)I"⟩
abbrev cJ9_max_7cf53 : ByteArray := prog_16_method_65_code
def yJ9_max_7cf53 : MethodName := ⟨RJ9, "max", "(II)I"⟩
abbrev cJ9_min_7cf53 : ByteArray := prog_16_method_69_code
def yJ9_min_7cf53 : MethodName := ⟨RJ9, "min", "(II)I"⟩
def RL : String := "NeighbourDeskLaw"
abbrev cL_cell : ByteArray := method_2_code
def yL_cell : MethodName := ⟨RL, "cell", "([II)I"⟩
abbrev cL_here : ByteArray := method_3_code
def yL_here : MethodName := ⟨RL, "here", "(LNeighbourDesk;J)I"⟩
abbrev cL_type : ByteArray := method_4_code
def yL_type : MethodName := ⟨RL, "type", "(LNeighbourDesk;JI[J)I"⟩
abbrev cL_claim : ByteArray := method_5_code
def yL_claim : MethodName := ⟨RL, "claim", "(LNeighbourDesk;I)I"⟩
abbrev cL_send : ByteArray := method_6_code
def yL_send : MethodName := ⟨RL, "send", "(LNeighbourDesk;II[J)I"⟩
abbrev cL_tick : ByteArray := method_7_code
def yL_tick : MethodName := ⟨RL, "tick", "(LNeighbourDesk;I[J)I"⟩
abbrev cL_count : ByteArray := method_8_code
def yL_count : MethodName := ⟨RL, "count", "(LNeighbourDesk;I[J)I"⟩
abbrev cL_entry : ByteArray := method_9_code
def yL_entry : MethodName := ⟨RL, "entry", "(LNeighbourDesk;I[J)I"⟩
abbrev cL_about : ByteArray := method_10_code
def yL_about : MethodName := ⟨RL, "about", "(LNeighbourDesk;II[J)I"⟩
abbrev cL_hardware : ByteArray := method_11_code
def yL_hardware : MethodName := ⟨RL, "hardware", "(LNeighbourDesk;I[J)I"⟩
abbrev cL_waits : ByteArray := method_12_code
def yL_waits : MethodName := ⟨RL, "waits", "(LNeighbourDesk;II[J)I"⟩
abbrev cL_to : ByteArray := method_13_code
def yL_to : MethodName := ⟨RL, "to", "(LNeighbourDesk;I[J)I"⟩
abbrev cL_data : ByteArray := method_14_code
def yL_data : MethodName := ⟨RL, "data", "(LNeighbourDesk;I[J)I"⟩
abbrev cL_out : ByteArray := method_15_code
def yL_out : MethodName := ⟨RL, "out", "(LNeighbourDesk;II[J)I"⟩
abbrev cL_lost : ByteArray := method_16_code
def yL_lost : MethodName := ⟨RL, "lost", "(LNeighbourDesk;I[J)I"⟩
abbrev cL_law : ByteArray := code
def yL_law : MethodName := ⟨RL, "law", "([I)Z"⟩
abbrev vwCl : List vw_C := [(RX0, TX0, 2), (RX1, TX1, 7), (RX2, TX2, 5), (RX3, TX3, 2), (RX4, TX4, 1), (RX5, TX5, 2), (RX7, TX7, 12), (RX8, TX8, 27)]
theorem dX0_init_0 : decode cX0_init 0 = .ok (.aload_n 0, 1) := by decide +kernel
theorem dX0_init_1 : decode cX0_init 1 = .ok (.invokespecial 3, 3) := by decide +kernel
theorem dX0_init_4 : decode cX0_init 4 = .ok (.aload_n 0, 1) := by decide +kernel
theorem dX0_init_5 : decode cX0_init 5 = .ok (.iconst 0, 1) := by decide +kernel
theorem dX0_init_6 : decode cX0_init 6 = .ok (.putfield 9, 3) := by decide +kernel
theorem dX0_init_9 : decode cX0_init 9 = .ok (.aload_n 0, 1) := by decide +kernel
theorem dX0_init_10 : decode cX0_init 10 = .ok (.iload_n 1, 1) := by decide +kernel
theorem dX0_init_11 : decode cX0_init 11 = .ok (.anewarray 15, 3) := by decide +kernel
theorem dX0_init_14 : decode cX0_init 14 = .ok (.putfield 17, 3) := by decide +kernel
theorem dX0_init_17 : decode cX0_init 17 = .ok (.iconst 0, 1) := by decide +kernel
theorem dX0_init_18 : decode cX0_init 18 = .ok (.istore_n 2, 1) := by decide +kernel
theorem dX0_init_19 : decode cX0_init 19 = .ok (.iload_n 2, 1) := by decide +kernel
theorem dX0_init_20 : decode cX0_init 20 = .ok (.iload_n 1, 1) := by decide +kernel
theorem dX0_init_21 : decode cX0_init 21 = .ok (.if_icmp .ge 22, 3) := by decide +kernel
theorem dX0_init_24 : decode cX0_init 24 = .ok (.aload_n 0, 1) := by decide +kernel
theorem dX0_init_25 : decode cX0_init 25 = .ok (.getfield 17, 3) := by decide +kernel
theorem dX0_init_28 : decode cX0_init 28 = .ok (.iload_n 2, 1) := by decide +kernel
theorem dX0_init_29 : decode cX0_init 29 = .ok (.new 15, 3) := by decide +kernel
theorem dX0_init_32 : decode cX0_init 32 = .ok (.dup, 1) := by decide +kernel
theorem dX0_init_33 : decode cX0_init 33 = .ok (.invokespecial 21, 3) := by decide +kernel
theorem dX0_init_36 : decode cX0_init 36 = .ok (.aastore, 1) := by decide +kernel
theorem dX0_init_37 : decode cX0_init 37 = .ok (.iinc 2 1, 3) := by decide +kernel
theorem dX0_init_40 : decode cX0_init 40 = .ok (.goto (-21), 3) := by decide +kernel
theorem dX0_init_43 : decode cX0_init 43 = .ok (.return_, 1) := by decide +kernel
theorem dX0_indexOf_0 : decode cX0_indexOf 0 = .ok (.iconst 0, 1) := by decide +kernel
theorem dX0_indexOf_1 : decode cX0_indexOf 1 = .ok (.istore_n 2, 1) := by decide +kernel
theorem dX0_indexOf_2 : decode cX0_indexOf 2 = .ok (.iload_n 2, 1) := by decide +kernel
theorem dX0_indexOf_3 : decode cX0_indexOf 3 = .ok (.aload_n 0, 1) := by decide +kernel
theorem dX0_indexOf_4 : decode cX0_indexOf 4 = .ok (.getfield 9, 3) := by decide +kernel
theorem dX0_indexOf_7 : decode cX0_indexOf 7 = .ok (.if_icmp .ge 24, 3) := by decide +kernel
theorem dX0_indexOf_10 : decode cX0_indexOf 10 = .ok (.aload_n 0, 1) := by decide +kernel
theorem dX0_indexOf_11 : decode cX0_indexOf 11 = .ok (.getfield 17, 3) := by decide +kernel
theorem dX0_indexOf_14 : decode cX0_indexOf 14 = .ok (.iload_n 2, 1) := by decide +kernel
theorem dX0_indexOf_15 : decode cX0_indexOf 15 = .ok (.aaload, 1) := by decide +kernel
theorem dX0_indexOf_16 : decode cX0_indexOf 16 = .ok (.getfield 22, 3) := by decide +kernel
theorem dX0_indexOf_19 : decode cX0_indexOf 19 = .ok (.iload_n 1, 1) := by decide +kernel
theorem dX0_indexOf_20 : decode cX0_indexOf 20 = .ok (.if_icmp .ne 5, 3) := by decide +kernel
theorem dX0_indexOf_23 : decode cX0_indexOf 23 = .ok (.iload_n 2, 1) := by decide +kernel
theorem dX0_indexOf_24 : decode cX0_indexOf 24 = .ok (.ireturn, 1) := by decide +kernel
theorem dX0_indexOf_25 : decode cX0_indexOf 25 = .ok (.iinc 2 1, 3) := by decide +kernel
theorem dX0_indexOf_28 : decode cX0_indexOf 28 = .ok (.goto (-26), 3) := by decide +kernel
theorem dX0_indexOf_31 : decode cX0_indexOf 31 = .ok (.iconst (-1), 1) := by decide +kernel
theorem dX0_indexOf_32 : decode cX0_indexOf 32 = .ok (.ireturn, 1) := by decide +kernel
theorem dX0_countWaiting_0 : decode cX0_countWaiting 0 = .ok (.iconst 0, 1) := by decide +kernel
theorem dX0_countWaiting_1 : decode cX0_countWaiting 1 = .ok (.istore_n 1, 1) := by decide +kernel
theorem dX0_countWaiting_2 : decode cX0_countWaiting 2 = .ok (.iconst 0, 1) := by decide +kernel
theorem dX0_countWaiting_3 : decode cX0_countWaiting 3 = .ok (.istore_n 2, 1) := by decide +kernel
theorem dX0_countWaiting_4 : decode cX0_countWaiting 4 = .ok (.iload_n 2, 1) := by decide +kernel
theorem dX0_countWaiting_5 : decode cX0_countWaiting 5 = .ok (.aload_n 0, 1) := by decide +kernel
theorem dX0_countWaiting_6 : decode cX0_countWaiting 6 = .ok (.getfield 9, 3) := by decide +kernel
theorem dX0_countWaiting_9 : decode cX0_countWaiting 9 = .ok (.if_icmp .ge 21, 3) := by decide +kernel
theorem dX0_countWaiting_12 : decode cX0_countWaiting 12 = .ok (.iload_n 1, 1) := by decide +kernel
theorem dX0_countWaiting_13 : decode cX0_countWaiting 13 = .ok (.aload_n 0, 1) := by decide +kernel
theorem dX0_countWaiting_14 : decode cX0_countWaiting 14 = .ok (.getfield 17, 3) := by decide +kernel
theorem dX0_countWaiting_17 : decode cX0_countWaiting 17 = .ok (.iload_n 2, 1) := by decide +kernel
theorem dX0_countWaiting_18 : decode cX0_countWaiting 18 = .ok (.aaload, 1) := by decide +kernel
theorem dX0_countWaiting_19 : decode cX0_countWaiting 19 = .ok (.getfield 25, 3) := by decide +kernel
theorem dX0_countWaiting_22 : decode cX0_countWaiting 22 = .ok (.iadd, 1) := by decide +kernel
theorem dX0_countWaiting_23 : decode cX0_countWaiting 23 = .ok (.istore_n 1, 1) := by decide +kernel
theorem dX0_countWaiting_24 : decode cX0_countWaiting 24 = .ok (.iinc 2 1, 3) := by decide +kernel
theorem dX0_countWaiting_27 : decode cX0_countWaiting 27 = .ok (.goto (-23), 3) := by decide +kernel
theorem dX0_countWaiting_30 : decode cX0_countWaiting 30 = .ok (.iload_n 1, 1) := by decide +kernel
theorem dX0_countWaiting_31 : decode cX0_countWaiting 31 = .ok (.ireturn, 1) := by decide +kernel
theorem dX0_makeRoom_0 : decode cX0_makeRoom 0 = .ok (.aload_n 0, 1) := by decide +kernel
theorem dX0_makeRoom_1 : decode cX0_makeRoom 1 = .ok (.getfield 9, 3) := by decide +kernel
theorem dX0_makeRoom_4 : decode cX0_makeRoom 4 = .ok (.aload_n 0, 1) := by decide +kernel
theorem dX0_makeRoom_5 : decode cX0_makeRoom 5 = .ok (.getfield 17, 3) := by decide +kernel
theorem dX0_makeRoom_8 : decode cX0_makeRoom 8 = .ok (.arraylength, 1) := by decide +kernel
theorem dX0_makeRoom_9 : decode cX0_makeRoom 9 = .ok (.if_icmp .ge 5, 3) := by decide +kernel
theorem dX0_makeRoom_12 : decode cX0_makeRoom 12 = .ok (.iconst 1, 1) := by decide +kernel
theorem dX0_makeRoom_13 : decode cX0_makeRoom 13 = .ok (.ireturn, 1) := by decide +kernel
theorem dX0_makeRoom_14 : decode cX0_makeRoom 14 = .ok (.iconst 0, 1) := by decide +kernel
theorem dX0_makeRoom_15 : decode cX0_makeRoom 15 = .ok (.istore_n 1, 1) := by decide +kernel
theorem dX0_makeRoom_16 : decode cX0_makeRoom 16 = .ok (.iload_n 1, 1) := by decide +kernel
theorem dX0_makeRoom_17 : decode cX0_makeRoom 17 = .ok (.aload_n 0, 1) := by decide +kernel
theorem dX0_makeRoom_18 : decode cX0_makeRoom 18 = .ok (.getfield 9, 3) := by decide +kernel
theorem dX0_makeRoom_21 : decode cX0_makeRoom 21 = .ok (.if_icmp .ge 29, 3) := by decide +kernel
theorem dX0_makeRoom_24 : decode cX0_makeRoom 24 = .ok (.aload_n 0, 1) := by decide +kernel
theorem dX0_makeRoom_25 : decode cX0_makeRoom 25 = .ok (.getfield 17, 3) := by decide +kernel
theorem dX0_makeRoom_28 : decode cX0_makeRoom 28 = .ok (.iload_n 1, 1) := by decide +kernel
theorem dX0_makeRoom_29 : decode cX0_makeRoom 29 = .ok (.aaload, 1) := by decide +kernel
theorem dX0_makeRoom_30 : decode cX0_makeRoom 30 = .ok (.getfield 28, 3) := by decide +kernel
theorem dX0_makeRoom_33 : decode cX0_makeRoom 33 = .ok (.iconst 1, 1) := by decide +kernel
theorem dX0_makeRoom_34 : decode cX0_makeRoom 34 = .ok (.if_icmp .eq 10, 3) := by decide +kernel
theorem dX0_makeRoom_37 : decode cX0_makeRoom 37 = .ok (.aload_n 0, 1) := by decide +kernel
theorem dX0_makeRoom_38 : decode cX0_makeRoom 38 = .ok (.iload_n 1, 1) := by decide +kernel
theorem dX0_makeRoom_39 : decode cX0_makeRoom 39 = .ok (.invokevirtual 31, 3) := by decide +kernel
theorem dX0_makeRoom_42 : decode cX0_makeRoom 42 = .ok (.iconst 1, 1) := by decide +kernel
theorem dX0_makeRoom_43 : decode cX0_makeRoom 43 = .ok (.ireturn, 1) := by decide +kernel
theorem dX0_makeRoom_44 : decode cX0_makeRoom 44 = .ok (.iinc 1 1, 3) := by decide +kernel
theorem dX0_makeRoom_47 : decode cX0_makeRoom 47 = .ok (.goto (-31), 3) := by decide +kernel
theorem dX0_makeRoom_50 : decode cX0_makeRoom 50 = .ok (.iconst 0, 1) := by decide +kernel
theorem dX0_makeRoom_51 : decode cX0_makeRoom 51 = .ok (.ireturn, 1) := by decide +kernel
theorem dX0_add_0 : decode cX0_add 0 = .ok (.aload_n 0, 1) := by decide +kernel
theorem dX0_add_1 : decode cX0_add 1 = .ok (.getfield 17, 3) := by decide +kernel
theorem dX0_add_4 : decode cX0_add 4 = .ok (.aload_n 0, 1) := by decide +kernel
theorem dX0_add_5 : decode cX0_add 5 = .ok (.getfield 9, 3) := by decide +kernel
theorem dX0_add_8 : decode cX0_add 8 = .ok (.aaload, 1) := by decide +kernel
theorem dX0_add_9 : decode cX0_add 9 = .ok (.astore 6, 2) := by decide +kernel
theorem dX0_add_11 : decode cX0_add 11 = .ok (.aload_n 0, 1) := by decide +kernel
theorem dX0_add_12 : decode cX0_add 12 = .ok (.dup, 1) := by decide +kernel
theorem dX0_add_13 : decode cX0_add 13 = .ok (.getfield 9, 3) := by decide +kernel
theorem dX0_add_16 : decode cX0_add 16 = .ok (.iconst 1, 1) := by decide +kernel
theorem dX0_add_17 : decode cX0_add 17 = .ok (.iadd, 1) := by decide +kernel
theorem dX0_add_18 : decode cX0_add 18 = .ok (.putfield 9, 3) := by decide +kernel
theorem dX0_add_21 : decode cX0_add 21 = .ok (.aload 6, 2) := by decide +kernel
theorem dX0_add_23 : decode cX0_add 23 = .ok (.iload_n 1, 1) := by decide +kernel
theorem dX0_add_24 : decode cX0_add 24 = .ok (.putfield 22, 3) := by decide +kernel
theorem dX0_add_27 : decode cX0_add 27 = .ok (.aload 6, 2) := by decide +kernel
theorem dX0_add_29 : decode cX0_add 29 = .ok (.lload_n 2, 1) := by decide +kernel
theorem dX0_add_30 : decode cX0_add 30 = .ok (.putfield 35, 3) := by decide +kernel
theorem dX0_add_33 : decode cX0_add 33 = .ok (.aload 6, 2) := by decide +kernel
theorem dX0_add_35 : decode cX0_add 35 = .ok (.iconst 0, 1) := by decide +kernel
theorem dX0_add_36 : decode cX0_add 36 = .ok (.putfield 25, 3) := by decide +kernel
theorem dX0_add_39 : decode cX0_add 39 = .ok (.aload 6, 2) := by decide +kernel
theorem dX0_add_41 : decode cX0_add 41 = .ok (.iload 5, 2) := by decide +kernel
theorem dX0_add_43 : decode cX0_add 43 = .ok (.putfield 39, 3) := by decide +kernel
theorem dX0_add_46 : decode cX0_add 46 = .ok (.aload 6, 2) := by decide +kernel
theorem dX0_add_48 : decode cX0_add 48 = .ok (.iload 4, 2) := by decide +kernel
theorem dX0_add_50 : decode cX0_add 50 = .ok (.iload 5, 2) := by decide +kernel
theorem dX0_add_52 : decode cX0_add 52 = .ok (.invokevirtual 42, 3) := by decide +kernel
theorem dX0_add_55 : decode cX0_add 55 = .ok (.aload 6, 2) := by decide +kernel
theorem dX0_add_57 : decode cX0_add 57 = .ok (.areturn, 1) := by decide +kernel
theorem dX0_use_0 : decode cX0_use 0 = .ok (.aload_n 0, 1) := by decide +kernel
theorem dX0_use_1 : decode cX0_use 1 = .ok (.iload_n 1, 1) := by decide +kernel
theorem dX0_use_2 : decode cX0_use 2 = .ok (.invokevirtual 46, 3) := by decide +kernel
theorem dX0_use_5 : decode cX0_use 5 = .ok (.astore_n 3, 1) := by decide +kernel
theorem dX0_use_6 : decode cX0_use 6 = .ok (.aload_n 3, 1) := by decide +kernel
theorem dX0_use_7 : decode cX0_use 7 = .ok (.iload_n 2, 1) := by decide +kernel
theorem dX0_use_8 : decode cX0_use 8 = .ok (.putfield 39, 3) := by decide +kernel
theorem dX0_use_11 : decode cX0_use 11 = .ok (.aload_n 3, 1) := by decide +kernel
theorem dX0_use_12 : decode cX0_use 12 = .ok (.areturn, 1) := by decide +kernel
theorem dX0_remove_0 : decode cX0_remove 0 = .ok (.aload_n 0, 1) := by decide +kernel
theorem dX0_remove_1 : decode cX0_remove 1 = .ok (.iload_n 1, 1) := by decide +kernel
theorem dX0_remove_2 : decode cX0_remove 2 = .ok (.invokevirtual 46, 3) := by decide +kernel
theorem dX0_remove_5 : decode cX0_remove 5 = .ok (.pop, 1) := by decide +kernel
theorem dX0_remove_6 : decode cX0_remove 6 = .ok (.aload_n 0, 1) := by decide +kernel
theorem dX0_remove_7 : decode cX0_remove 7 = .ok (.dup, 1) := by decide +kernel
theorem dX0_remove_8 : decode cX0_remove 8 = .ok (.getfield 9, 3) := by decide +kernel
theorem dX0_remove_11 : decode cX0_remove 11 = .ok (.iconst 1, 1) := by decide +kernel
theorem dX0_remove_12 : decode cX0_remove 12 = .ok (.isub, 1) := by decide +kernel
theorem dX0_remove_13 : decode cX0_remove 13 = .ok (.putfield 9, 3) := by decide +kernel
theorem dX0_remove_16 : decode cX0_remove 16 = .ok (.return_, 1) := by decide +kernel
theorem dX0_moveToEnd_0 : decode cX0_moveToEnd 0 = .ok (.aload_n 0, 1) := by decide +kernel
theorem dX0_moveToEnd_1 : decode cX0_moveToEnd 1 = .ok (.getfield 17, 3) := by decide +kernel
theorem dX0_moveToEnd_4 : decode cX0_moveToEnd 4 = .ok (.iload_n 1, 1) := by decide +kernel
theorem dX0_moveToEnd_5 : decode cX0_moveToEnd 5 = .ok (.aaload, 1) := by decide +kernel
theorem dX0_moveToEnd_6 : decode cX0_moveToEnd 6 = .ok (.astore_n 2, 1) := by decide +kernel
theorem dX0_moveToEnd_7 : decode cX0_moveToEnd 7 = .ok (.iload_n 1, 1) := by decide +kernel
theorem dX0_moveToEnd_8 : decode cX0_moveToEnd 8 = .ok (.istore_n 3, 1) := by decide +kernel
theorem dX0_moveToEnd_9 : decode cX0_moveToEnd 9 = .ok (.iload_n 3, 1) := by decide +kernel
theorem dX0_moveToEnd_10 : decode cX0_moveToEnd 10 = .ok (.aload_n 0, 1) := by decide +kernel
theorem dX0_moveToEnd_11 : decode cX0_moveToEnd 11 = .ok (.getfield 9, 3) := by decide +kernel
theorem dX0_moveToEnd_14 : decode cX0_moveToEnd 14 = .ok (.iconst 1, 1) := by decide +kernel
theorem dX0_moveToEnd_15 : decode cX0_moveToEnd 15 = .ok (.isub, 1) := by decide +kernel
theorem dX0_moveToEnd_16 : decode cX0_moveToEnd 16 = .ok (.if_icmp .ge 23, 3) := by decide +kernel
theorem dX0_moveToEnd_19 : decode cX0_moveToEnd 19 = .ok (.aload_n 0, 1) := by decide +kernel
theorem dX0_moveToEnd_20 : decode cX0_moveToEnd 20 = .ok (.getfield 17, 3) := by decide +kernel
theorem dX0_moveToEnd_23 : decode cX0_moveToEnd 23 = .ok (.iload_n 3, 1) := by decide +kernel
theorem dX0_moveToEnd_24 : decode cX0_moveToEnd 24 = .ok (.aload_n 0, 1) := by decide +kernel
theorem dX0_moveToEnd_25 : decode cX0_moveToEnd 25 = .ok (.getfield 17, 3) := by decide +kernel
theorem dX0_moveToEnd_28 : decode cX0_moveToEnd 28 = .ok (.iload_n 3, 1) := by decide +kernel
theorem dX0_moveToEnd_29 : decode cX0_moveToEnd 29 = .ok (.iconst 1, 1) := by decide +kernel
theorem dX0_moveToEnd_30 : decode cX0_moveToEnd 30 = .ok (.iadd, 1) := by decide +kernel
theorem dX0_moveToEnd_31 : decode cX0_moveToEnd 31 = .ok (.aaload, 1) := by decide +kernel
theorem dX0_moveToEnd_32 : decode cX0_moveToEnd 32 = .ok (.aastore, 1) := by decide +kernel
theorem dX0_moveToEnd_33 : decode cX0_moveToEnd 33 = .ok (.iinc 3 1, 3) := by decide +kernel
theorem dX0_moveToEnd_36 : decode cX0_moveToEnd 36 = .ok (.goto (-27), 3) := by decide +kernel
theorem dX0_moveToEnd_39 : decode cX0_moveToEnd 39 = .ok (.aload_n 0, 1) := by decide +kernel
theorem dX0_moveToEnd_40 : decode cX0_moveToEnd 40 = .ok (.getfield 17, 3) := by decide +kernel
theorem dX0_moveToEnd_43 : decode cX0_moveToEnd 43 = .ok (.aload_n 0, 1) := by decide +kernel
theorem dX0_moveToEnd_44 : decode cX0_moveToEnd 44 = .ok (.getfield 9, 3) := by decide +kernel
theorem dX0_moveToEnd_47 : decode cX0_moveToEnd 47 = .ok (.iconst 1, 1) := by decide +kernel
theorem dX0_moveToEnd_48 : decode cX0_moveToEnd 48 = .ok (.isub, 1) := by decide +kernel
theorem dX0_moveToEnd_49 : decode cX0_moveToEnd 49 = .ok (.aload_n 2, 1) := by decide +kernel
theorem dX0_moveToEnd_50 : decode cX0_moveToEnd 50 = .ok (.aastore, 1) := by decide +kernel
theorem dX0_moveToEnd_51 : decode cX0_moveToEnd 51 = .ok (.aload_n 2, 1) := by decide +kernel
theorem dX0_moveToEnd_52 : decode cX0_moveToEnd 52 = .ok (.areturn, 1) := by decide +kernel
theorem dX1_init_0 : decode cX1_init 0 = .ok (.aload_n 0, 1) := by decide +kernel
theorem dX1_init_1 : decode cX1_init 1 = .ok (.invokespecial 3, 3) := by decide +kernel
theorem dX1_init_4 : decode cX1_init 4 = .ok (.aload_n 0, 1) := by decide +kernel
theorem dX1_init_5 : decode cX1_init 5 = .ok (.iconst 4, 1) := by decide +kernel
theorem dX1_init_6 : decode cX1_init 6 = .ok (.newarray .int, 2) := by decide +kernel
theorem dX1_init_8 : decode cX1_init 8 = .ok (.putfield 11, 3) := by decide +kernel
theorem dX1_init_11 : decode cX1_init 11 = .ok (.aload_n 0, 1) := by decide +kernel
theorem dX1_init_12 : decode cX1_init 12 = .ok (.iconst 0, 1) := by decide +kernel
theorem dX1_init_13 : decode cX1_init 13 = .ok (.putfield 15, 3) := by decide +kernel
theorem dX1_init_16 : decode cX1_init 16 = .ok (.aload_n 0, 1) := by decide +kernel
theorem dX1_init_17 : decode cX1_init 17 = .ok (.iconst 0, 1) := by decide +kernel
theorem dX1_init_18 : decode cX1_init 18 = .ok (.putfield 19, 3) := by decide +kernel
theorem dX1_init_21 : decode cX1_init 21 = .ok (.aload_n 0, 1) := by decide +kernel
theorem dX1_init_22 : decode cX1_init 22 = .ok (.lconst 0, 1) := by decide +kernel
theorem dX1_init_23 : decode cX1_init 23 = .ok (.putfield 22, 3) := by decide +kernel
theorem dX1_init_26 : decode cX1_init 26 = .ok (.aload_n 0, 1) := by decide +kernel
theorem dX1_init_27 : decode cX1_init 27 = .ok (.iconst 1, 1) := by decide +kernel
theorem dX1_init_28 : decode cX1_init 28 = .ok (.putfield 26, 3) := by decide +kernel
theorem dX1_init_31 : decode cX1_init 31 = .ok (.aload_n 0, 1) := by decide +kernel
theorem dX1_init_32 : decode cX1_init 32 = .ok (.iconst 0, 1) := by decide +kernel
theorem dX1_init_33 : decode cX1_init 33 = .ok (.putfield 29, 3) := by decide +kernel
theorem dX1_init_36 : decode cX1_init 36 = .ok (.aload_n 0, 1) := by decide +kernel
theorem dX1_init_37 : decode cX1_init 37 = .ok (.iconst 0, 1) := by decide +kernel
theorem dX1_init_38 : decode cX1_init 38 = .ok (.putfield 32, 3) := by decide +kernel
theorem dX1_init_41 : decode cX1_init 41 = .ok (.return_, 1) := by decide +kernel
theorem dX1_become_0 : decode cX1_become 0 = .ok (.aload_n 0, 1) := by decide +kernel
theorem dX1_become_1 : decode cX1_become 1 = .ok (.iload_n 1, 1) := by decide +kernel
theorem dX1_become_2 : decode cX1_become 2 = .ok (.putfield 26, 3) := by decide +kernel
theorem dX1_become_5 : decode cX1_become 5 = .ok (.aload_n 0, 1) := by decide +kernel
theorem dX1_become_6 : decode cX1_become 6 = .ok (.iload_n 2, 1) := by decide +kernel
theorem dX1_become_7 : decode cX1_become 7 = .ok (.putfield 29, 3) := by decide +kernel
theorem dX1_become_10 : decode cX1_become 10 = .ok (.return_, 1) := by decide +kernel
theorem dX2_init_0 : decode cX2_init 0 = .ok (.aload_n 0, 1) := by decide +kernel
theorem dX2_init_1 : decode cX2_init 1 = .ok (.invokespecial 3, 3) := by decide +kernel
theorem dX2_init_4 : decode cX2_init 4 = .ok (.aload_n 0, 1) := by decide +kernel
theorem dX2_init_5 : decode cX2_init 5 = .ok (.new 9, 3) := by decide +kernel
theorem dX2_init_8 : decode cX2_init 8 = .ok (.dup, 1) := by decide +kernel
theorem dX2_init_9 : decode cX2_init 9 = .ok (.invokespecial 11, 3) := by decide +kernel
theorem dX2_init_12 : decode cX2_init 12 = .ok (.putfield 12, 3) := by decide +kernel
theorem dX2_init_15 : decode cX2_init 15 = .ok (.aload_n 0, 1) := by decide +kernel
theorem dX2_init_16 : decode cX2_init 16 = .ok (.bipush 100, 2) := by decide +kernel
theorem dX2_init_18 : decode cX2_init 18 = .ok (.newarray .long, 2) := by decide +kernel
theorem dX2_init_20 : decode cX2_init 20 = .ok (.putfield 18, 3) := by decide +kernel
theorem dX2_init_23 : decode cX2_init 23 = .ok (.aload_n 0, 1) := by decide +kernel
theorem dX2_init_24 : decode cX2_init 24 = .ok (.bipush 100, 2) := by decide +kernel
theorem dX2_init_26 : decode cX2_init 26 = .ok (.newarray .int, 2) := by decide +kernel
theorem dX2_init_28 : decode cX2_init 28 = .ok (.putfield 22, 3) := by decide +kernel
theorem dX2_init_31 : decode cX2_init 31 = .ok (.aload_n 0, 1) := by decide +kernel
theorem dX2_init_32 : decode cX2_init 32 = .ok (.bipush 100, 2) := by decide +kernel
theorem dX2_init_34 : decode cX2_init 34 = .ok (.newarray .boolean, 2) := by decide +kernel
theorem dX2_init_36 : decode cX2_init 36 = .ok (.putfield 26, 3) := by decide +kernel
theorem dX2_init_39 : decode cX2_init 39 = .ok (.aload_n 0, 1) := by decide +kernel
theorem dX2_init_40 : decode cX2_init 40 = .ok (.sipush 2800, 3) := by decide +kernel
theorem dX2_init_43 : decode cX2_init 43 = .ok (.newarray .byte, 2) := by decide +kernel
theorem dX2_init_45 : decode cX2_init 45 = .ok (.putfield 32, 3) := by decide +kernel
theorem dX2_init_48 : decode cX2_init 48 = .ok (.return_, 1) := by decide +kernel
theorem dX2_addData_0 : decode cX2_addData 0 = .ok (.aload_n 0, 1) := by decide +kernel
theorem dX2_addData_1 : decode cX2_addData 1 = .ok (.getfield 12, 3) := by decide +kernel
theorem dX2_addData_4 : decode cX2_addData 4 = .ok (.invokevirtual 36, 3) := by decide +kernel
theorem dX2_addData_7 : decode cX2_addData 7 = .ok (.istore 4, 2) := by decide +kernel
theorem dX2_addData_9 : decode cX2_addData 9 = .ok (.aload_n 0, 1) := by decide +kernel
theorem dX2_addData_10 : decode cX2_addData 10 = .ok (.getfield 18, 3) := by decide +kernel
theorem dX2_addData_13 : decode cX2_addData 13 = .ok (.iload 4, 2) := by decide +kernel
theorem dX2_addData_15 : decode cX2_addData 15 = .ok (.lload_n 1, 1) := by decide +kernel
theorem dX2_addData_16 : decode cX2_addData 16 = .ok (.lastore, 1) := by decide +kernel
theorem dX2_addData_17 : decode cX2_addData 17 = .ok (.aload_n 0, 1) := by decide +kernel
theorem dX2_addData_18 : decode cX2_addData 18 = .ok (.getfield 22, 3) := by decide +kernel
theorem dX2_addData_21 : decode cX2_addData 21 = .ok (.iload 4, 2) := by decide +kernel
theorem dX2_addData_23 : decode cX2_addData 23 = .ok (.iload_n 3, 1) := by decide +kernel
theorem dX2_addData_24 : decode cX2_addData 24 = .ok (.iastore, 1) := by decide +kernel
theorem dX2_addData_25 : decode cX2_addData 25 = .ok (.aload_n 0, 1) := by decide +kernel
theorem dX2_addData_26 : decode cX2_addData 26 = .ok (.getfield 26, 3) := by decide +kernel
theorem dX2_addData_29 : decode cX2_addData 29 = .ok (.iload 4, 2) := by decide +kernel
theorem dX2_addData_31 : decode cX2_addData 31 = .ok (.iconst 0, 1) := by decide +kernel
theorem dX2_addData_32 : decode cX2_addData 32 = .ok (.bastore, 1) := by decide +kernel
theorem dX2_addData_33 : decode cX2_addData 33 = .ok (.return_, 1) := by decide +kernel
theorem dX2_addPacket_0 : decode cX2_addPacket 0 = .ok (.aload_n 0, 1) := by decide +kernel
theorem dX2_addPacket_1 : decode cX2_addPacket 1 = .ok (.getfield 12, 3) := by decide +kernel
theorem dX2_addPacket_4 : decode cX2_addPacket 4 = .ok (.invokevirtual 36, 3) := by decide +kernel
theorem dX2_addPacket_7 : decode cX2_addPacket 7 = .ok (.istore 10, 2) := by decide +kernel
theorem dX2_addPacket_9 : decode cX2_addPacket 9 = .ok (.aload_n 0, 1) := by decide +kernel
theorem dX2_addPacket_10 : decode cX2_addPacket 10 = .ok (.getfield 18, 3) := by decide +kernel
theorem dX2_addPacket_13 : decode cX2_addPacket 13 = .ok (.iload 10, 2) := by decide +kernel
theorem dX2_addPacket_15 : decode cX2_addPacket 15 = .ok (.lload_n 1, 1) := by decide +kernel
theorem dX2_addPacket_16 : decode cX2_addPacket 16 = .ok (.lastore, 1) := by decide +kernel
theorem dX2_addPacket_17 : decode cX2_addPacket 17 = .ok (.aload_n 0, 1) := by decide +kernel
theorem dX2_addPacket_18 : decode cX2_addPacket 18 = .ok (.getfield 22, 3) := by decide +kernel
theorem dX2_addPacket_21 : decode cX2_addPacket 21 = .ok (.iload 10, 2) := by decide +kernel
theorem dX2_addPacket_23 : decode cX2_addPacket 23 = .ok (.iconst (-1), 1) := by decide +kernel
theorem dX2_addPacket_24 : decode cX2_addPacket 24 = .ok (.iastore, 1) := by decide +kernel
theorem dX2_addPacket_25 : decode cX2_addPacket 25 = .ok (.aload_n 0, 1) := by decide +kernel
theorem dX2_addPacket_26 : decode cX2_addPacket 26 = .ok (.getfield 26, 3) := by decide +kernel
theorem dX2_addPacket_29 : decode cX2_addPacket 29 = .ok (.iload 10, 2) := by decide +kernel
theorem dX2_addPacket_31 : decode cX2_addPacket 31 = .ok (.iconst 1, 1) := by decide +kernel
theorem dX2_addPacket_32 : decode cX2_addPacket 32 = .ok (.bastore, 1) := by decide +kernel
theorem dX2_addPacket_33 : decode cX2_addPacket 33 = .ok (.aload_n 0, 1) := by decide +kernel
theorem dX2_addPacket_34 : decode cX2_addPacket 34 = .ok (.getfield 32, 3) := by decide +kernel
theorem dX2_addPacket_37 : decode cX2_addPacket 37 = .ok (.iload 10, 2) := by decide +kernel
theorem dX2_addPacket_39 : decode cX2_addPacket 39 = .ok (.bipush 28, 2) := by decide +kernel
theorem dX2_addPacket_41 : decode cX2_addPacket 41 = .ok (.imul, 1) := by decide +kernel
theorem dX2_addPacket_42 : decode cX2_addPacket 42 = .ok (.iload_n 3, 1) := by decide +kernel
theorem dX2_addPacket_43 : decode cX2_addPacket 43 = .ok (.lload 4, 2) := by decide +kernel
theorem dX2_addPacket_45 : decode cX2_addPacket 45 = .ok (.iload 6, 2) := by decide +kernel
theorem dX2_addPacket_47 : decode cX2_addPacket 47 = .ok (.lload 7, 2) := by decide +kernel
theorem dX2_addPacket_49 : decode cX2_addPacket 49 = .ok (.iload 9, 2) := by decide +kernel
theorem dX2_addPacket_51 : decode cX2_addPacket 51 = .ok (.invokestatic 40, 3) := by decide +kernel
theorem dX2_addPacket_54 : decode cX2_addPacket 54 = .ok (.return_, 1) := by decide +kernel
theorem dX2_isPacket_0 : decode cX2_isPacket 0 = .ok (.aload_n 0, 1) := by decide +kernel
theorem dX2_isPacket_1 : decode cX2_isPacket 1 = .ok (.getfield 26, 3) := by decide +kernel
theorem dX2_isPacket_4 : decode cX2_isPacket 4 = .ok (.aload_n 0, 1) := by decide +kernel
theorem dX2_isPacket_5 : decode cX2_isPacket 5 = .ok (.getfield 12, 3) := by decide +kernel
theorem dX2_isPacket_8 : decode cX2_isPacket 8 = .ok (.iload_n 1, 1) := by decide +kernel
theorem dX2_isPacket_9 : decode cX2_isPacket 9 = .ok (.invokevirtual 44, 3) := by decide +kernel
theorem dX2_isPacket_12 : decode cX2_isPacket 12 = .ok (.baload, 1) := by decide +kernel
theorem dX2_isPacket_13 : decode cX2_isPacket 13 = .ok (.ireturn, 1) := by decide +kernel
theorem dX2_byteOf_0 : decode cX2_byteOf 0 = .ok (.aload_n 0, 1) := by decide +kernel
theorem dX2_byteOf_1 : decode cX2_byteOf 1 = .ok (.getfield 32, 3) := by decide +kernel
theorem dX2_byteOf_4 : decode cX2_byteOf 4 = .ok (.aload_n 0, 1) := by decide +kernel
theorem dX2_byteOf_5 : decode cX2_byteOf 5 = .ok (.getfield 12, 3) := by decide +kernel
theorem dX2_byteOf_8 : decode cX2_byteOf 8 = .ok (.iload_n 1, 1) := by decide +kernel
theorem dX2_byteOf_9 : decode cX2_byteOf 9 = .ok (.invokevirtual 44, 3) := by decide +kernel
theorem dX2_byteOf_12 : decode cX2_byteOf 12 = .ok (.bipush 28, 2) := by decide +kernel
theorem dX2_byteOf_14 : decode cX2_byteOf 14 = .ok (.imul, 1) := by decide +kernel
theorem dX2_byteOf_15 : decode cX2_byteOf 15 = .ok (.iload_n 2, 1) := by decide +kernel
theorem dX2_byteOf_16 : decode cX2_byteOf 16 = .ok (.iadd, 1) := by decide +kernel
theorem dX2_byteOf_17 : decode cX2_byteOf 17 = .ok (.baload, 1) := by decide +kernel
theorem dX2_byteOf_18 : decode cX2_byteOf 18 = .ok (.sipush 255, 3) := by decide +kernel
theorem dX2_byteOf_21 : decode cX2_byteOf 21 = .ok (.iand, 1) := by decide +kernel
theorem dX2_byteOf_22 : decode cX2_byteOf 22 = .ok (.ireturn, 1) := by decide +kernel
theorem dX3_init_0 : decode cX3_init 0 = .ok (.aload_n 0, 1) := by decide +kernel
theorem dX3_init_1 : decode cX3_init 1 = .ok (.invokespecial 1, 3) := by decide +kernel
theorem dX3_init_4 : decode cX3_init 4 = .ok (.aload_n 0, 1) := by decide +kernel
theorem dX3_init_5 : decode cX3_init 5 = .ok (.new 7, 3) := by decide +kernel
theorem dX3_init_8 : decode cX3_init 8 = .ok (.dup, 1) := by decide +kernel
theorem dX3_init_9 : decode cX3_init 9 = .ok (.invokespecial 9, 3) := by decide +kernel
theorem dX3_init_12 : decode cX3_init 12 = .ok (.putfield 10, 3) := by decide +kernel
theorem dX3_init_15 : decode cX3_init 15 = .ok (.aload_n 0, 1) := by decide +kernel
theorem dX3_init_16 : decode cX3_init 16 = .ok (.bipush 100, 2) := by decide +kernel
theorem dX3_init_18 : decode cX3_init 18 = .ok (.newarray .int, 2) := by decide +kernel
theorem dX3_init_20 : decode cX3_init 20 = .ok (.putfield 16, 3) := by decide +kernel
theorem dX3_init_23 : decode cX3_init 23 = .ok (.return_, 1) := by decide +kernel
theorem dX3_add_0 : decode cX3_add 0 = .ok (.aload_n 0, 1) := by decide +kernel
theorem dX3_add_1 : decode cX3_add 1 = .ok (.getfield 16, 3) := by decide +kernel
theorem dX3_add_4 : decode cX3_add 4 = .ok (.aload_n 0, 1) := by decide +kernel
theorem dX3_add_5 : decode cX3_add 5 = .ok (.getfield 10, 3) := by decide +kernel
theorem dX3_add_8 : decode cX3_add 8 = .ok (.invokevirtual 20, 3) := by decide +kernel
theorem dX3_add_11 : decode cX3_add 11 = .ok (.iload_n 1, 1) := by decide +kernel
theorem dX3_add_12 : decode cX3_add 12 = .ok (.iastore, 1) := by decide +kernel
theorem dX3_add_13 : decode cX3_add 13 = .ok (.return_, 1) := by decide +kernel
theorem dX4_init_0 : decode cX4_init 0 = .ok (.aload_n 0, 1) := by decide +kernel
theorem dX4_init_1 : decode cX4_init 1 = .ok (.invokespecial 1, 3) := by decide +kernel
theorem dX4_init_4 : decode cX4_init 4 = .ok (.aload_n 0, 1) := by decide +kernel
theorem dX4_init_5 : decode cX4_init 5 = .ok (.iconst 0, 1) := by decide +kernel
theorem dX4_init_6 : decode cX4_init 6 = .ok (.putfield 7, 3) := by decide +kernel
theorem dX4_init_9 : decode cX4_init 9 = .ok (.return_, 1) := by decide +kernel
theorem dX4_nextSlot_0 : decode cX4_nextSlot 0 = .ok (.aload_n 0, 1) := by decide +kernel
theorem dX4_nextSlot_1 : decode cX4_nextSlot 1 = .ok (.getfield 7, 3) := by decide +kernel
theorem dX4_nextSlot_4 : decode cX4_nextSlot 4 = .ok (.bipush 100, 2) := by decide +kernel
theorem dX4_nextSlot_6 : decode cX4_nextSlot 6 = .ok (.invokestatic 13, 3) := by decide +kernel
theorem dX4_nextSlot_9 : decode cX4_nextSlot 9 = .ok (.istore_n 1, 1) := by decide +kernel
theorem dX4_nextSlot_10 : decode cX4_nextSlot 10 = .ok (.aload_n 0, 1) := by decide +kernel
theorem dX4_nextSlot_11 : decode cX4_nextSlot 11 = .ok (.dup, 1) := by decide +kernel
theorem dX4_nextSlot_12 : decode cX4_nextSlot 12 = .ok (.getfield 7, 3) := by decide +kernel
theorem dX4_nextSlot_15 : decode cX4_nextSlot 15 = .ok (.iconst 1, 1) := by decide +kernel
theorem dX4_nextSlot_16 : decode cX4_nextSlot 16 = .ok (.iadd, 1) := by decide +kernel
theorem dX4_nextSlot_17 : decode cX4_nextSlot 17 = .ok (.putfield 7, 3) := by decide +kernel
theorem dX4_nextSlot_20 : decode cX4_nextSlot 20 = .ok (.iload_n 1, 1) := by decide +kernel
theorem dX4_nextSlot_21 : decode cX4_nextSlot 21 = .ok (.ireturn, 1) := by decide +kernel
theorem dX4_holds_0 : decode cX4_holds 0 = .ok (.iload_n 1, 1) := by decide +kernel
theorem dX4_holds_1 : decode cX4_holds 1 = .ok (.ifCond .lt 21, 3) := by decide +kernel
theorem dX4_holds_4 : decode cX4_holds 4 = .ok (.iload_n 1, 1) := by decide +kernel
theorem dX4_holds_5 : decode cX4_holds 5 = .ok (.bipush 100, 2) := by decide +kernel
theorem dX4_holds_7 : decode cX4_holds 7 = .ok (.if_icmp .ge 15, 3) := by decide +kernel
theorem dX4_holds_10 : decode cX4_holds 10 = .ok (.iload_n 1, 1) := by decide +kernel
theorem dX4_holds_11 : decode cX4_holds 11 = .ok (.aload_n 0, 1) := by decide +kernel
theorem dX4_holds_12 : decode cX4_holds 12 = .ok (.getfield 7, 3) := by decide +kernel
theorem dX4_holds_15 : decode cX4_holds 15 = .ok (.if_icmp .ge 7, 3) := by decide +kernel
theorem dX4_holds_18 : decode cX4_holds 18 = .ok (.iconst 1, 1) := by decide +kernel
theorem dX4_holds_19 : decode cX4_holds 19 = .ok (.goto 4, 3) := by decide +kernel
theorem dX4_holds_22 : decode cX4_holds 22 = .ok (.iconst 0, 1) := by decide +kernel
theorem dX4_holds_23 : decode cX4_holds 23 = .ok (.ireturn, 1) := by decide +kernel
theorem dX4_slotOf_0 : decode cX4_slotOf 0 = .ok (.iconst 0, 1) := by decide +kernel
theorem dX4_slotOf_1 : decode cX4_slotOf 1 = .ok (.aload_n 0, 1) := by decide +kernel
theorem dX4_slotOf_2 : decode cX4_slotOf 2 = .ok (.getfield 7, 3) := by decide +kernel
theorem dX4_slotOf_5 : decode cX4_slotOf 5 = .ok (.bipush 100, 2) := by decide +kernel
theorem dX4_slotOf_7 : decode cX4_slotOf 7 = .ok (.isub, 1) := by decide +kernel
theorem dX4_slotOf_8 : decode cX4_slotOf 8 = .ok (.invokestatic 19, 3) := by decide +kernel
theorem dX4_slotOf_11 : decode cX4_slotOf 11 = .ok (.iload_n 1, 1) := by decide +kernel
theorem dX4_slotOf_12 : decode cX4_slotOf 12 = .ok (.iadd, 1) := by decide +kernel
theorem dX4_slotOf_13 : decode cX4_slotOf 13 = .ok (.bipush 100, 2) := by decide +kernel
theorem dX4_slotOf_15 : decode cX4_slotOf 15 = .ok (.invokestatic 13, 3) := by decide +kernel
theorem dX4_slotOf_18 : decode cX4_slotOf 18 = .ok (.ireturn, 1) := by decide +kernel
theorem dX5_init_0 : decode cX5_init 0 = .ok (.aload_n 0, 1) := by decide +kernel
theorem dX5_init_1 : decode cX5_init 1 = .ok (.invokespecial 1, 3) := by decide +kernel
theorem dX5_init_4 : decode cX5_init 4 = .ok (.aload_n 0, 1) := by decide +kernel
theorem dX5_init_5 : decode cX5_init 5 = .ok (.bipush 40, 2) := by decide +kernel
theorem dX5_init_7 : decode cX5_init 7 = .ok (.newarray .byte, 2) := by decide +kernel
theorem dX5_init_9 : decode cX5_init 9 = .ok (.putfield 9, 3) := by decide +kernel
theorem dX5_init_12 : decode cX5_init 12 = .ok (.aload_n 0, 1) := by decide +kernel
theorem dX5_init_13 : decode cX5_init 13 = .ok (.iconst 0, 1) := by decide +kernel
theorem dX5_init_14 : decode cX5_init 14 = .ok (.putfield 13, 3) := by decide +kernel
theorem dX5_init_17 : decode cX5_init 17 = .ok (.return_, 1) := by decide +kernel
theorem dX5_hasRoomFor_0 : decode cX5_hasRoomFor 0 = .ok (.aload_n 0, 1) := by decide +kernel
theorem dX5_hasRoomFor_1 : decode cX5_hasRoomFor 1 = .ok (.getfield 13, 3) := by decide +kernel
theorem dX5_hasRoomFor_4 : decode cX5_hasRoomFor 4 = .ok (.iload_n 1, 1) := by decide +kernel
theorem dX5_hasRoomFor_5 : decode cX5_hasRoomFor 5 = .ok (.iadd, 1) := by decide +kernel
theorem dX5_hasRoomFor_6 : decode cX5_hasRoomFor 6 = .ok (.bipush 40, 2) := by decide +kernel
theorem dX5_hasRoomFor_8 : decode cX5_hasRoomFor 8 = .ok (.if_icmp .gt 7, 3) := by decide +kernel
theorem dX5_hasRoomFor_11 : decode cX5_hasRoomFor 11 = .ok (.iconst 1, 1) := by decide +kernel
theorem dX5_hasRoomFor_12 : decode cX5_hasRoomFor 12 = .ok (.goto 4, 3) := by decide +kernel
theorem dX5_hasRoomFor_15 : decode cX5_hasRoomFor 15 = .ok (.iconst 0, 1) := by decide +kernel
theorem dX5_hasRoomFor_16 : decode cX5_hasRoomFor 16 = .ok (.ireturn, 1) := by decide +kernel
theorem dX5_append_0 : decode cX5_append 0 = .ok (.iconst 0, 1) := by decide +kernel
theorem dX5_append_1 : decode cX5_append 1 = .ok (.istore 4, 2) := by decide +kernel
theorem dX5_append_3 : decode cX5_append 3 = .ok (.iload 4, 2) := by decide +kernel
theorem dX5_append_5 : decode cX5_append 5 = .ok (.iload_n 3, 1) := by decide +kernel
theorem dX5_append_6 : decode cX5_append 6 = .ok (.if_icmp .ge 30, 3) := by decide +kernel
theorem dX5_append_9 : decode cX5_append 9 = .ok (.aload_n 0, 1) := by decide +kernel
theorem dX5_append_10 : decode cX5_append 10 = .ok (.getfield 9, 3) := by decide +kernel
theorem dX5_append_13 : decode cX5_append 13 = .ok (.aload_n 0, 1) := by decide +kernel
theorem dX5_append_14 : decode cX5_append 14 = .ok (.getfield 13, 3) := by decide +kernel
theorem dX5_append_17 : decode cX5_append 17 = .ok (.iload 4, 2) := by decide +kernel
theorem dX5_append_19 : decode cX5_append 19 = .ok (.iadd, 1) := by decide +kernel
theorem dX5_append_20 : decode cX5_append 20 = .ok (.lload_n 1, 1) := by decide +kernel
theorem dX5_append_21 : decode cX5_append 21 = .ok (.bipush 8, 2) := by decide +kernel
theorem dX5_append_23 : decode cX5_append 23 = .ok (.iload 4, 2) := by decide +kernel
theorem dX5_append_25 : decode cX5_append 25 = .ok (.imul, 1) := by decide +kernel
theorem dX5_append_26 : decode cX5_append 26 = .ok (.lshr, 1) := by decide +kernel
theorem dX5_append_27 : decode cX5_append 27 = .ok (.l2i, 1) := by decide +kernel
theorem dX5_append_28 : decode cX5_append 28 = .ok (.i2b, 1) := by decide +kernel
theorem dX5_append_29 : decode cX5_append 29 = .ok (.bastore, 1) := by decide +kernel
theorem dX5_append_30 : decode cX5_append 30 = .ok (.iinc 4 1, 3) := by decide +kernel
theorem dX5_append_33 : decode cX5_append 33 = .ok (.goto (-30), 3) := by decide +kernel
theorem dX5_append_36 : decode cX5_append 36 = .ok (.aload_n 0, 1) := by decide +kernel
theorem dX5_append_37 : decode cX5_append 37 = .ok (.dup, 1) := by decide +kernel
theorem dX5_append_38 : decode cX5_append 38 = .ok (.getfield 13, 3) := by decide +kernel
theorem dX5_append_41 : decode cX5_append 41 = .ok (.iload_n 3, 1) := by decide +kernel
theorem dX5_append_42 : decode cX5_append 42 = .ok (.iadd, 1) := by decide +kernel
theorem dX5_append_43 : decode cX5_append 43 = .ok (.putfield 13, 3) := by decide +kernel
theorem dX5_append_46 : decode cX5_append 46 = .ok (.return_, 1) := by decide +kernel
theorem dX5_head_0 : decode cX5_head 0 = .ok (.aload_n 0, 1) := by decide +kernel
theorem dX5_head_1 : decode cX5_head 1 = .ok (.getfield 9, 3) := by decide +kernel
theorem dX5_head_4 : decode cX5_head 4 = .ok (.iconst 0, 1) := by decide +kernel
theorem dX5_head_5 : decode cX5_head 5 = .ok (.bipush 6, 2) := by decide +kernel
theorem dX5_head_7 : decode cX5_head 7 = .ok (.invokestatic 19, 3) := by decide +kernel
theorem dX5_head_10 : decode cX5_head 10 = .ok (.lreturn, 1) := by decide +kernel
theorem dX5_operation_0 : decode cX5_operation 0 = .ok (.aload_n 0, 1) := by decide +kernel
theorem dX5_operation_1 : decode cX5_operation 1 = .ok (.getfield 9, 3) := by decide +kernel
theorem dX5_operation_4 : decode cX5_operation 4 = .ok (.bipush 6, 2) := by decide +kernel
theorem dX5_operation_6 : decode cX5_operation 6 = .ok (.iconst 2, 1) := by decide +kernel
theorem dX5_operation_7 : decode cX5_operation 7 = .ok (.invokestatic 19, 3) := by decide +kernel
theorem dX5_operation_10 : decode cX5_operation 10 = .ok (.l2i, 1) := by decide +kernel
theorem dX5_operation_11 : decode cX5_operation 11 = .ok (.ireturn, 1) := by decide +kernel
theorem dX5_sender_0 : decode cX5_sender 0 = .ok (.aload_n 0, 1) := by decide +kernel
theorem dX5_sender_1 : decode cX5_sender 1 = .ok (.getfield 9, 3) := by decide +kernel
theorem dX5_sender_4 : decode cX5_sender 4 = .ok (.bipush 8, 2) := by decide +kernel
theorem dX5_sender_6 : decode cX5_sender 6 = .ok (.bipush 6, 2) := by decide +kernel
theorem dX5_sender_8 : decode cX5_sender 8 = .ok (.invokestatic 19, 3) := by decide +kernel
theorem dX5_sender_11 : decode cX5_sender 11 = .ok (.lreturn, 1) := by decide +kernel
theorem dX5_senderAddress_0 : decode cX5_senderAddress 0 = .ok (.aload_n 0, 1) := by decide +kernel
theorem dX5_senderAddress_1 : decode cX5_senderAddress 1 = .ok (.getfield 9, 3) := by decide +kernel
theorem dX5_senderAddress_4 : decode cX5_senderAddress 4 = .ok (.bipush 14, 2) := by decide +kernel
theorem dX5_senderAddress_6 : decode cX5_senderAddress 6 = .ok (.iconst 4, 1) := by decide +kernel
theorem dX5_senderAddress_7 : decode cX5_senderAddress 7 = .ok (.invokestatic 19, 3) := by decide +kernel
theorem dX5_senderAddress_10 : decode cX5_senderAddress 10 = .ok (.l2i, 1) := by decide +kernel
theorem dX5_senderAddress_11 : decode cX5_senderAddress 11 = .ok (.ireturn, 1) := by decide +kernel
theorem dX5_targetAddress_0 : decode cX5_targetAddress 0 = .ok (.aload_n 0, 1) := by decide +kernel
theorem dX5_targetAddress_1 : decode cX5_targetAddress 1 = .ok (.getfield 9, 3) := by decide +kernel
theorem dX5_targetAddress_4 : decode cX5_targetAddress 4 = .ok (.bipush 24, 2) := by decide +kernel
theorem dX5_targetAddress_6 : decode cX5_targetAddress 6 = .ok (.iconst 4, 1) := by decide +kernel
theorem dX5_targetAddress_7 : decode cX5_targetAddress 7 = .ok (.invokestatic 19, 3) := by decide +kernel
theorem dX5_targetAddress_10 : decode cX5_targetAddress 10 = .ok (.l2i, 1) := by decide +kernel
theorem dX5_targetAddress_11 : decode cX5_targetAddress 11 = .ok (.ireturn, 1) := by decide +kernel
theorem dX6_writePacket_0 : decode cX6_writePacket 0 = .ok (.aload_n 0, 1) := by decide +kernel
theorem dX6_writePacket_1 : decode cX6_writePacket 1 = .ok (.iload_n 1, 1) := by decide +kernel
theorem dX6_writePacket_2 : decode cX6_writePacket 2 = .ok (.bipush 6, 2) := by decide +kernel
theorem dX6_writePacket_4 : decode cX6_writePacket 4 = .ok (.ldc2_w 9, 3) := by decide +kernel
theorem dX6_writePacket_7 : decode cX6_writePacket 7 = .ok (.invokestatic 11, 3) := by decide +kernel
theorem dX6_writePacket_10 : decode cX6_writePacket 10 = .ok (.aload_n 0, 1) := by decide +kernel
theorem dX6_writePacket_11 : decode cX6_writePacket 11 = .ok (.iload_n 1, 1) := by decide +kernel
theorem dX6_writePacket_12 : decode cX6_writePacket 12 = .ok (.bipush 6, 2) := by decide +kernel
theorem dX6_writePacket_14 : decode cX6_writePacket 14 = .ok (.iadd, 1) := by decide +kernel
theorem dX6_writePacket_15 : decode cX6_writePacket 15 = .ok (.iconst 2, 1) := by decide +kernel
theorem dX6_writePacket_16 : decode cX6_writePacket 16 = .ok (.iload_n 2, 1) := by decide +kernel
theorem dX6_writePacket_17 : decode cX6_writePacket 17 = .ok (.i2l, 1) := by decide +kernel
theorem dX6_writePacket_18 : decode cX6_writePacket 18 = .ok (.invokestatic 11, 3) := by decide +kernel
theorem dX6_writePacket_21 : decode cX6_writePacket 21 = .ok (.aload_n 0, 1) := by decide +kernel
theorem dX6_writePacket_22 : decode cX6_writePacket 22 = .ok (.iload_n 1, 1) := by decide +kernel
theorem dX6_writePacket_23 : decode cX6_writePacket 23 = .ok (.bipush 8, 2) := by decide +kernel
theorem dX6_writePacket_25 : decode cX6_writePacket 25 = .ok (.iadd, 1) := by decide +kernel
theorem dX6_writePacket_26 : decode cX6_writePacket 26 = .ok (.bipush 6, 2) := by decide +kernel
theorem dX6_writePacket_28 : decode cX6_writePacket 28 = .ok (.lload_n 3, 1) := by decide +kernel
theorem dX6_writePacket_29 : decode cX6_writePacket 29 = .ok (.invokestatic 11, 3) := by decide +kernel
theorem dX6_writePacket_32 : decode cX6_writePacket 32 = .ok (.aload_n 0, 1) := by decide +kernel
theorem dX6_writePacket_33 : decode cX6_writePacket 33 = .ok (.iload_n 1, 1) := by decide +kernel
theorem dX6_writePacket_34 : decode cX6_writePacket 34 = .ok (.bipush 14, 2) := by decide +kernel
theorem dX6_writePacket_36 : decode cX6_writePacket 36 = .ok (.iadd, 1) := by decide +kernel
theorem dX6_writePacket_37 : decode cX6_writePacket 37 = .ok (.iconst 4, 1) := by decide +kernel
theorem dX6_writePacket_38 : decode cX6_writePacket 38 = .ok (.iload 5, 2) := by decide +kernel
theorem dX6_writePacket_40 : decode cX6_writePacket 40 = .ok (.i2l, 1) := by decide +kernel
theorem dX6_writePacket_41 : decode cX6_writePacket 41 = .ok (.invokestatic 11, 3) := by decide +kernel
theorem dX6_writePacket_44 : decode cX6_writePacket 44 = .ok (.aload_n 0, 1) := by decide +kernel
theorem dX6_writePacket_45 : decode cX6_writePacket 45 = .ok (.iload_n 1, 1) := by decide +kernel
theorem dX6_writePacket_46 : decode cX6_writePacket 46 = .ok (.bipush 18, 2) := by decide +kernel
theorem dX6_writePacket_48 : decode cX6_writePacket 48 = .ok (.iadd, 1) := by decide +kernel
theorem dX6_writePacket_49 : decode cX6_writePacket 49 = .ok (.bipush 6, 2) := by decide +kernel
theorem dX6_writePacket_51 : decode cX6_writePacket 51 = .ok (.lload 6, 2) := by decide +kernel
theorem dX6_writePacket_53 : decode cX6_writePacket 53 = .ok (.invokestatic 11, 3) := by decide +kernel
theorem dX6_writePacket_56 : decode cX6_writePacket 56 = .ok (.aload_n 0, 1) := by decide +kernel
theorem dX6_writePacket_57 : decode cX6_writePacket 57 = .ok (.iload_n 1, 1) := by decide +kernel
theorem dX6_writePacket_58 : decode cX6_writePacket 58 = .ok (.bipush 24, 2) := by decide +kernel
theorem dX6_writePacket_60 : decode cX6_writePacket 60 = .ok (.iadd, 1) := by decide +kernel
theorem dX6_writePacket_61 : decode cX6_writePacket 61 = .ok (.iconst 4, 1) := by decide +kernel
theorem dX6_writePacket_62 : decode cX6_writePacket 62 = .ok (.iload 8, 2) := by decide +kernel
theorem dX6_writePacket_64 : decode cX6_writePacket 64 = .ok (.i2l, 1) := by decide +kernel
theorem dX6_writePacket_65 : decode cX6_writePacket 65 = .ok (.invokestatic 11, 3) := by decide +kernel
theorem dX6_writePacket_68 : decode cX6_writePacket 68 = .ok (.return_, 1) := by decide +kernel
theorem dX6_write_0 : decode cX6_write 0 = .ok (.lload_n 3, 1) := by decide +kernel
theorem dX6_write_1 : decode cX6_write 1 = .ok (.lstore 5, 2) := by decide +kernel
theorem dX6_write_3 : decode cX6_write 3 = .ok (.iload_n 2, 1) := by decide +kernel
theorem dX6_write_4 : decode cX6_write 4 = .ok (.iconst 1, 1) := by decide +kernel
theorem dX6_write_5 : decode cX6_write 5 = .ok (.isub, 1) := by decide +kernel
theorem dX6_write_6 : decode cX6_write 6 = .ok (.istore 7, 2) := by decide +kernel
theorem dX6_write_8 : decode cX6_write 8 = .ok (.iload 7, 2) := by decide +kernel
theorem dX6_write_10 : decode cX6_write 10 = .ok (.ifCond .lt 26, 3) := by decide +kernel
theorem dX6_write_13 : decode cX6_write 13 = .ok (.aload_n 0, 1) := by decide +kernel
theorem dX6_write_14 : decode cX6_write 14 = .ok (.iload_n 1, 1) := by decide +kernel
theorem dX6_write_15 : decode cX6_write 15 = .ok (.iload 7, 2) := by decide +kernel
theorem dX6_write_17 : decode cX6_write 17 = .ok (.iadd, 1) := by decide +kernel
theorem dX6_write_18 : decode cX6_write 18 = .ok (.lload 5, 2) := by decide +kernel
theorem dX6_write_20 : decode cX6_write 20 = .ok (.l2i, 1) := by decide +kernel
theorem dX6_write_21 : decode cX6_write 21 = .ok (.i2b, 1) := by decide +kernel
theorem dX6_write_22 : decode cX6_write 22 = .ok (.bastore, 1) := by decide +kernel
theorem dX6_write_23 : decode cX6_write 23 = .ok (.lload 5, 2) := by decide +kernel
theorem dX6_write_25 : decode cX6_write 25 = .ok (.bipush 8, 2) := by decide +kernel
theorem dX6_write_27 : decode cX6_write 27 = .ok (.lshr, 1) := by decide +kernel
theorem dX6_write_28 : decode cX6_write 28 = .ok (.lstore 5, 2) := by decide +kernel
theorem dX6_write_30 : decode cX6_write 30 = .ok (.iinc 7 (-1), 3) := by decide +kernel
theorem dX6_write_33 : decode cX6_write 33 = .ok (.goto (-25), 3) := by decide +kernel
theorem dX6_write_36 : decode cX6_write 36 = .ok (.return_, 1) := by decide +kernel
theorem dX6_read_0 : decode cX6_read 0 = .ok (.lconst 0, 1) := by decide +kernel
theorem dX6_read_1 : decode cX6_read 1 = .ok (.lstore_n 3, 1) := by decide +kernel
theorem dX6_read_2 : decode cX6_read 2 = .ok (.iconst 0, 1) := by decide +kernel
theorem dX6_read_3 : decode cX6_read 3 = .ok (.istore 5, 2) := by decide +kernel
theorem dX6_read_5 : decode cX6_read 5 = .ok (.iload 5, 2) := by decide +kernel
theorem dX6_read_7 : decode cX6_read 7 = .ok (.iload_n 2, 1) := by decide +kernel
theorem dX6_read_8 : decode cX6_read 8 = .ok (.if_icmp .ge 26, 3) := by decide +kernel
theorem dX6_read_11 : decode cX6_read 11 = .ok (.lload_n 3, 1) := by decide +kernel
theorem dX6_read_12 : decode cX6_read 12 = .ok (.bipush 8, 2) := by decide +kernel
theorem dX6_read_14 : decode cX6_read 14 = .ok (.lshl, 1) := by decide +kernel
theorem dX6_read_15 : decode cX6_read 15 = .ok (.aload_n 0, 1) := by decide +kernel
theorem dX6_read_16 : decode cX6_read 16 = .ok (.iload_n 1, 1) := by decide +kernel
theorem dX6_read_17 : decode cX6_read 17 = .ok (.iload 5, 2) := by decide +kernel
theorem dX6_read_19 : decode cX6_read 19 = .ok (.iadd, 1) := by decide +kernel
theorem dX6_read_20 : decode cX6_read 20 = .ok (.baload, 1) := by decide +kernel
theorem dX6_read_21 : decode cX6_read 21 = .ok (.sipush 255, 3) := by decide +kernel
theorem dX6_read_24 : decode cX6_read 24 = .ok (.iand, 1) := by decide +kernel
theorem dX6_read_25 : decode cX6_read 25 = .ok (.i2l, 1) := by decide +kernel
theorem dX6_read_26 : decode cX6_read 26 = .ok (.lor, 1) := by decide +kernel
theorem dX6_read_27 : decode cX6_read 27 = .ok (.lstore_n 3, 1) := by decide +kernel
theorem dX6_read_28 : decode cX6_read 28 = .ok (.iinc 5 1, 3) := by decide +kernel
theorem dX6_read_31 : decode cX6_read 31 = .ok (.goto (-26), 3) := by decide +kernel
theorem dX6_read_34 : decode cX6_read 34 = .ok (.lload_n 3, 1) := by decide +kernel
theorem dX6_read_35 : decode cX6_read 35 = .ok (.lreturn, 1) := by decide +kernel
theorem dX7_init_0 : decode cX7_init 0 = .ok (.aload_n 0, 1) := by decide +kernel
theorem dX7_init_1 : decode cX7_init 1 = .ok (.invokespecial 1, 3) := by decide +kernel
theorem dX7_init_4 : decode cX7_init 4 = .ok (.aload_n 0, 1) := by decide +kernel
theorem dX7_init_5 : decode cX7_init 5 = .ok (.new 7, 3) := by decide +kernel
theorem dX7_init_8 : decode cX7_init 8 = .ok (.dup, 1) := by decide +kernel
theorem dX7_init_9 : decode cX7_init 9 = .ok (.invokespecial 9, 3) := by decide +kernel
theorem dX7_init_12 : decode cX7_init 12 = .ok (.putfield 10, 3) := by decide +kernel
theorem dX7_init_15 : decode cX7_init 15 = .ok (.aload_n 0, 1) := by decide +kernel
theorem dX7_init_16 : decode cX7_init 16 = .ok (.new 16, 3) := by decide +kernel
theorem dX7_init_19 : decode cX7_init 19 = .ok (.dup, 1) := by decide +kernel
theorem dX7_init_20 : decode cX7_init 20 = .ok (.invokespecial 18, 3) := by decide +kernel
theorem dX7_init_23 : decode cX7_init 23 = .ok (.putfield 19, 3) := by decide +kernel
theorem dX7_init_26 : decode cX7_init 26 = .ok (.aload_n 0, 1) := by decide +kernel
theorem dX7_init_27 : decode cX7_init 27 = .ok (.new 23, 3) := by decide +kernel
theorem dX7_init_30 : decode cX7_init 30 = .ok (.dup, 1) := by decide +kernel
theorem dX7_init_31 : decode cX7_init 31 = .ok (.invokespecial 25, 3) := by decide +kernel
theorem dX7_init_34 : decode cX7_init 34 = .ok (.putfield 26, 3) := by decide +kernel
theorem dX7_init_37 : decode cX7_init 37 = .ok (.aload_n 0, 1) := by decide +kernel
theorem dX7_init_38 : decode cX7_init 38 = .ok (.ldc2_w 30, 3) := by decide +kernel
theorem dX7_init_41 : decode cX7_init 41 = .ok (.putfield 32, 3) := by decide +kernel
theorem dX7_init_44 : decode cX7_init 44 = .ok (.aload_n 0, 1) := by decide +kernel
theorem dX7_init_45 : decode cX7_init 45 = .ok (.iconst 0, 1) := by decide +kernel
theorem dX7_init_46 : decode cX7_init 46 = .ok (.putfield 36, 3) := by decide +kernel
theorem dX7_init_49 : decode cX7_init 49 = .ok (.aload_n 0, 1) := by decide +kernel
theorem dX7_init_50 : decode cX7_init 50 = .ok (.iconst 0, 1) := by decide +kernel
theorem dX7_init_51 : decode cX7_init 51 = .ok (.putfield 40, 3) := by decide +kernel
theorem dX7_init_54 : decode cX7_init 54 = .ok (.aload_n 0, 1) := by decide +kernel
theorem dX7_init_55 : decode cX7_init 55 = .ok (.iconst 0, 1) := by decide +kernel
theorem dX7_init_56 : decode cX7_init 56 = .ok (.putfield 43, 3) := by decide +kernel
theorem dX7_init_59 : decode cX7_init 59 = .ok (.aload_n 0, 1) := by decide +kernel
theorem dX7_init_60 : decode cX7_init 60 = .ok (.iconst 0, 1) := by decide +kernel
theorem dX7_init_61 : decode cX7_init 61 = .ok (.putfield 46, 3) := by decide +kernel
theorem dX7_init_64 : decode cX7_init 64 = .ok (.aload_n 0, 1) := by decide +kernel
theorem dX7_init_65 : decode cX7_init 65 = .ok (.iconst (-1), 1) := by decide +kernel
theorem dX7_init_66 : decode cX7_init 66 = .ok (.putfield 49, 3) := by decide +kernel
theorem dX7_init_69 : decode cX7_init 69 = .ok (.aload_n 0, 1) := by decide +kernel
theorem dX7_init_70 : decode cX7_init 70 = .ok (.new 52, 3) := by decide +kernel
theorem dX7_init_73 : decode cX7_init 73 = .ok (.dup, 1) := by decide +kernel
theorem dX7_init_74 : decode cX7_init 74 = .ok (.iconst 1, 1) := by decide +kernel
theorem dX7_init_75 : decode cX7_init 75 = .ok (.bipush 32, 2) := by decide +kernel
theorem dX7_init_77 : decode cX7_init 77 = .ok (.iload_n 1, 1) := by decide +kernel
theorem dX7_init_78 : decode cX7_init 78 = .ok (.invokestatic 54, 3) := by decide +kernel
theorem dX7_init_81 : decode cX7_init 81 = .ok (.invokestatic 60, 3) := by decide +kernel
theorem dX7_init_84 : decode cX7_init 84 = .ok (.invokespecial 63, 3) := by decide +kernel
theorem dX7_init_87 : decode cX7_init 87 = .ok (.putfield 66, 3) := by decide +kernel
theorem dX7_init_90 : decode cX7_init 90 = .ok (.aload_n 0, 1) := by decide +kernel
theorem dX7_init_91 : decode cX7_init 91 = .ok (.iconst 1, 1) := by decide +kernel
theorem dX7_init_92 : decode cX7_init 92 = .ok (.sipush 1000, 3) := by decide +kernel
theorem dX7_init_95 : decode cX7_init 95 = .ok (.iload_n 2, 1) := by decide +kernel
theorem dX7_init_96 : decode cX7_init 96 = .ok (.invokestatic 54, 3) := by decide +kernel
theorem dX7_init_99 : decode cX7_init 99 = .ok (.invokestatic 60, 3) := by decide +kernel
theorem dX7_init_102 : decode cX7_init 102 = .ok (.putfield 70, 3) := by decide +kernel
theorem dX7_init_105 : decode cX7_init 105 = .ok (.aload_n 0, 1) := by decide +kernel
theorem dX7_init_106 : decode cX7_init 106 = .ok (.iconst 1, 1) := by decide +kernel
theorem dX7_init_107 : decode cX7_init 107 = .ok (.sipush 1000, 3) := by decide +kernel
theorem dX7_init_110 : decode cX7_init 110 = .ok (.iload_n 3, 1) := by decide +kernel
theorem dX7_init_111 : decode cX7_init 111 = .ok (.invokestatic 54, 3) := by decide +kernel
theorem dX7_init_114 : decode cX7_init 114 = .ok (.invokestatic 60, 3) := by decide +kernel
theorem dX7_init_117 : decode cX7_init 117 = .ok (.putfield 73, 3) := by decide +kernel
theorem dX7_init_120 : decode cX7_init 120 = .ok (.return_, 1) := by decide +kernel
theorem dX7_here_0 : decode cX7_here 0 = .ok (.lload_n 1, 1) := by decide +kernel
theorem dX7_here_1 : decode cX7_here 1 = .ok (.lconst 1, 1) := by decide +kernel
theorem dX7_here_2 : decode cX7_here 2 = .ok (.lcmp, 1) := by decide +kernel
theorem dX7_here_3 : decode cX7_here 3 = .ok (.ifCond .lt 11, 3) := by decide +kernel
theorem dX7_here_6 : decode cX7_here 6 = .ok (.lload_n 1, 1) := by decide +kernel
theorem dX7_here_7 : decode cX7_here 7 = .ok (.ldc2_w 76, 3) := by decide +kernel
theorem dX7_here_10 : decode cX7_here 10 = .ok (.lcmp, 1) := by decide +kernel
theorem dX7_here_11 : decode cX7_here 11 = .ok (.ifCond .lt 11, 3) := by decide +kernel
theorem dX7_here_14 : decode cX7_here 14 = .ok (.new 78, 3) := by decide +kernel
theorem dX7_here_17 : decode cX7_here 17 = .ok (.dup, 1) := by decide +kernel
theorem dX7_here_18 : decode cX7_here 18 = .ok (.invokespecial 80, 3) := by decide +kernel
theorem dX7_here_21 : decode cX7_here 21 = .ok (.athrow, 1) := by decide +kernel
theorem dX7_here_22 : decode cX7_here 22 = .ok (.aload_n 0, 1) := by decide +kernel
theorem dX7_here_23 : decode cX7_here 23 = .ok (.getfield 40, 3) := by decide +kernel
theorem dX7_here_26 : decode cX7_here 26 = .ok (.ifCond .eq 11, 3) := by decide +kernel
theorem dX7_here_29 : decode cX7_here 29 = .ok (.new 81, 3) := by decide +kernel
theorem dX7_here_32 : decode cX7_here 32 = .ok (.dup, 1) := by decide +kernel
theorem dX7_here_33 : decode cX7_here 33 = .ok (.invokespecial 83, 3) := by decide +kernel
theorem dX7_here_36 : decode cX7_here 36 = .ok (.athrow, 1) := by decide +kernel
theorem dX7_here_37 : decode cX7_here 37 = .ok (.aload_n 0, 1) := by decide +kernel
theorem dX7_here_38 : decode cX7_here 38 = .ok (.lload_n 1, 1) := by decide +kernel
theorem dX7_here_39 : decode cX7_here 39 = .ok (.putfield 32, 3) := by decide +kernel
theorem dX7_here_42 : decode cX7_here 42 = .ok (.return_, 1) := by decide +kernel
theorem dX7_type_0 : decode cX7_type 0 = .ok (.iload_n 3, 1) := by decide +kernel
theorem dX7_type_1 : decode cX7_type 1 = .ok (.iconst 1, 1) := by decide +kernel
theorem dX7_type_2 : decode cX7_type 2 = .ok (.if_icmp .lt 9, 3) := by decide +kernel
theorem dX7_type_5 : decode cX7_type 5 = .ok (.iload_n 3, 1) := by decide +kernel
theorem dX7_type_6 : decode cX7_type 6 = .ok (.bipush 8, 2) := by decide +kernel
theorem dX7_type_8 : decode cX7_type 8 = .ok (.if_icmp .le 11, 3) := by decide +kernel
theorem dX7_type_11 : decode cX7_type 11 = .ok (.new 78, 3) := by decide +kernel
theorem dX7_type_14 : decode cX7_type 14 = .ok (.dup, 1) := by decide +kernel
theorem dX7_type_15 : decode cX7_type 15 = .ok (.invokespecial 80, 3) := by decide +kernel
theorem dX7_type_18 : decode cX7_type 18 = .ok (.athrow, 1) := by decide +kernel
theorem dX7_type_19 : decode cX7_type 19 = .ok (.aload_n 0, 1) := by decide +kernel
theorem dX7_type_20 : decode cX7_type 20 = .ok (.getfield 10, 3) := by decide +kernel
theorem dX7_type_23 : decode cX7_type 23 = .ok (.iload_n 3, 1) := by decide +kernel
theorem dX7_type_24 : decode cX7_type 24 = .ok (.invokevirtual 84, 3) := by decide +kernel
theorem dX7_type_27 : decode cX7_type 27 = .ok (.ifCond .ne 11, 3) := by decide +kernel
theorem dX7_type_30 : decode cX7_type 30 = .ok (.new 81, 3) := by decide +kernel
theorem dX7_type_33 : decode cX7_type 33 = .ok (.dup, 1) := by decide +kernel
theorem dX7_type_34 : decode cX7_type 34 = .ok (.invokespecial 83, 3) := by decide +kernel
theorem dX7_type_37 : decode cX7_type 37 = .ok (.athrow, 1) := by decide +kernel
theorem dX7_type_38 : decode cX7_type 38 = .ok (.aload_n 0, 1) := by decide +kernel
theorem dX7_type_39 : decode cX7_type 39 = .ok (.getfield 10, 3) := by decide +kernel
theorem dX7_type_42 : decode cX7_type 42 = .ok (.lload_n 1, 1) := by decide +kernel
theorem dX7_type_43 : decode cX7_type 43 = .ok (.iload_n 3, 1) := by decide +kernel
theorem dX7_type_44 : decode cX7_type 44 = .ok (.invokevirtual 88, 3) := by decide +kernel
theorem dX7_type_47 : decode cX7_type 47 = .ok (.aload_n 0, 1) := by decide +kernel
theorem dX7_type_48 : decode cX7_type 48 = .ok (.getfield 10, 3) := by decide +kernel
theorem dX7_type_51 : decode cX7_type 51 = .ok (.getfield 92, 3) := by decide +kernel
theorem dX7_type_54 : decode cX7_type 54 = .ok (.ireturn, 1) := by decide +kernel
theorem dX7_pack_0 : decode cX7_pack 0 = .ok (.aload_n 0, 1) := by decide +kernel
theorem dX7_pack_1 : decode cX7_pack 1 = .ok (.getfield 10, 3) := by decide +kernel
theorem dX7_pack_4 : decode cX7_pack 4 = .ok (.getfield 95, 3) := by decide +kernel
theorem dX7_pack_7 : decode cX7_pack 7 = .ok (.iconst 0, 1) := by decide +kernel
theorem dX7_pack_8 : decode cX7_pack 8 = .ok (.iload_n 1, 1) := by decide +kernel
theorem dX7_pack_9 : decode cX7_pack 9 = .ok (.lload_n 2, 1) := by decide +kernel
theorem dX7_pack_10 : decode cX7_pack 10 = .ok (.iload 4, 2) := by decide +kernel
theorem dX7_pack_12 : decode cX7_pack 12 = .ok (.lload 5, 2) := by decide +kernel
theorem dX7_pack_14 : decode cX7_pack 14 = .ok (.iload 7, 2) := by decide +kernel
theorem dX7_pack_16 : decode cX7_pack 16 = .ok (.invokestatic 99, 3) := by decide +kernel
theorem dX7_pack_19 : decode cX7_pack 19 = .ok (.aload_n 0, 1) := by decide +kernel
theorem dX7_pack_20 : decode cX7_pack 20 = .ok (.getfield 10, 3) := by decide +kernel
theorem dX7_pack_23 : decode cX7_pack 23 = .ok (.bipush 28, 2) := by decide +kernel
theorem dX7_pack_25 : decode cX7_pack 25 = .ok (.putfield 92, 3) := by decide +kernel
theorem dX7_pack_28 : decode cX7_pack 28 = .ok (.return_, 1) := by decide +kernel
theorem dX7_hear_0 : decode cX7_hear 0 = .ok (.aload_n 0, 1) := by decide +kernel
theorem dX7_hear_1 : decode cX7_hear 1 = .ok (.invokevirtual 105, 3) := by decide +kernel
theorem dX7_hear_4 : decode cX7_hear 4 = .ok (.ifCond .eq 7, 3) := by decide +kernel
theorem dX7_hear_7 : decode cX7_hear 7 = .ok (.iconst 1, 1) := by decide +kernel
theorem dX7_hear_8 : decode cX7_hear 8 = .ok (.goto 7, 3) := by decide +kernel
theorem dX7_hear_11 : decode cX7_hear 11 = .ok (.aload_n 0, 1) := by decide +kernel
theorem dX7_hear_12 : decode cX7_hear 12 = .ok (.invokevirtual 109, 3) := by decide +kernel
theorem dX7_hear_15 : decode cX7_hear 15 = .ok (.istore_n 1, 1) := by decide +kernel
theorem dX7_hear_16 : decode cX7_hear 16 = .ok (.aload_n 0, 1) := by decide +kernel
theorem dX7_hear_17 : decode cX7_hear 17 = .ok (.getfield 10, 3) := by decide +kernel
theorem dX7_hear_20 : decode cX7_hear 20 = .ok (.iconst 0, 1) := by decide +kernel
theorem dX7_hear_21 : decode cX7_hear 21 = .ok (.putfield 92, 3) := by decide +kernel
theorem dX7_hear_24 : decode cX7_hear 24 = .ok (.iload_n 1, 1) := by decide +kernel
theorem dX7_hear_25 : decode cX7_hear 25 = .ok (.ireturn, 1) := by decide +kernel
theorem dX7_claim_0 : decode cX7_claim 0 = .ok (.iload_n 1, 1) := by decide +kernel
theorem dX7_claim_1 : decode cX7_claim 1 = .ok (.ifCond .eq 8, 3) := by decide +kernel
theorem dX7_claim_4 : decode cX7_claim 4 = .ok (.iload_n 1, 1) := by decide +kernel
theorem dX7_claim_5 : decode cX7_claim 5 = .ok (.iconst (-1), 1) := by decide +kernel
theorem dX7_claim_6 : decode cX7_claim 6 = .ok (.if_icmp .ne 11, 3) := by decide +kernel
theorem dX7_claim_9 : decode cX7_claim 9 = .ok (.new 78, 3) := by decide +kernel
theorem dX7_claim_12 : decode cX7_claim 12 = .ok (.dup, 1) := by decide +kernel
theorem dX7_claim_13 : decode cX7_claim 13 = .ok (.invokespecial 80, 3) := by decide +kernel
theorem dX7_claim_16 : decode cX7_claim 16 = .ok (.athrow, 1) := by decide +kernel
theorem dX7_claim_17 : decode cX7_claim 17 = .ok (.aload_n 0, 1) := by decide +kernel
theorem dX7_claim_18 : decode cX7_claim 18 = .ok (.getfield 40, 3) := by decide +kernel
theorem dX7_claim_21 : decode cX7_claim 21 = .ok (.ifCond .eq 11, 3) := by decide +kernel
theorem dX7_claim_24 : decode cX7_claim 24 = .ok (.new 81, 3) := by decide +kernel
theorem dX7_claim_27 : decode cX7_claim 27 = .ok (.dup, 1) := by decide +kernel
theorem dX7_claim_28 : decode cX7_claim 28 = .ok (.invokespecial 83, 3) := by decide +kernel
theorem dX7_claim_31 : decode cX7_claim 31 = .ok (.athrow, 1) := by decide +kernel
theorem dX7_claim_32 : decode cX7_claim 32 = .ok (.aload_n 0, 1) := by decide +kernel
theorem dX7_claim_33 : decode cX7_claim 33 = .ok (.iload_n 1, 1) := by decide +kernel
theorem dX7_claim_34 : decode cX7_claim 34 = .ok (.putfield 43, 3) := by decide +kernel
theorem dX7_claim_37 : decode cX7_claim 37 = .ok (.aload_n 0, 1) := by decide +kernel
theorem dX7_claim_38 : decode cX7_claim 38 = .ok (.iconst 1, 1) := by decide +kernel
theorem dX7_claim_39 : decode cX7_claim 39 = .ok (.putfield 40, 3) := by decide +kernel
theorem dX7_claim_42 : decode cX7_claim 42 = .ok (.aload_n 0, 1) := by decide +kernel
theorem dX7_claim_43 : decode cX7_claim 43 = .ok (.aload_n 0, 1) := by decide +kernel
theorem dX7_claim_44 : decode cX7_claim 44 = .ok (.getfield 36, 3) := by decide +kernel
theorem dX7_claim_47 : decode cX7_claim 47 = .ok (.putfield 46, 3) := by decide +kernel
theorem dX7_claim_50 : decode cX7_claim 50 = .ok (.aload_n 0, 1) := by decide +kernel
theorem dX7_claim_51 : decode cX7_claim 51 = .ok (.iconst (-1), 1) := by decide +kernel
theorem dX7_claim_52 : decode cX7_claim 52 = .ok (.putfield 49, 3) := by decide +kernel
theorem dX7_claim_55 : decode cX7_claim 55 = .ok (.aload_n 0, 1) := by decide +kernel
theorem dX7_claim_56 : decode cX7_claim 56 = .ok (.invokevirtual 113, 3) := by decide +kernel
theorem dX7_claim_59 : decode cX7_claim 59 = .ok (.return_, 1) := by decide +kernel
theorem dX7_release_0 : decode cX7_release 0 = .ok (.aload_n 0, 1) := by decide +kernel
theorem dX7_release_1 : decode cX7_release 1 = .ok (.getfield 40, 3) := by decide +kernel
theorem dX7_release_4 : decode cX7_release 4 = .ok (.ifCond .eq 7, 3) := by decide +kernel
theorem dX7_release_7 : decode cX7_release 7 = .ok (.iconst 1, 1) := by decide +kernel
theorem dX7_release_8 : decode cX7_release 8 = .ok (.goto 4, 3) := by decide +kernel
theorem dX7_release_11 : decode cX7_release 11 = .ok (.iconst 0, 1) := by decide +kernel
theorem dX7_release_12 : decode cX7_release 12 = .ok (.istore_n 1, 1) := by decide +kernel
theorem dX7_release_13 : decode cX7_release 13 = .ok (.aload_n 0, 1) := by decide +kernel
theorem dX7_release_14 : decode cX7_release 14 = .ok (.invokevirtual 116, 3) := by decide +kernel
theorem dX7_release_17 : decode cX7_release 17 = .ok (.iload_n 1, 1) := by decide +kernel
theorem dX7_release_18 : decode cX7_release 18 = .ok (.ireturn, 1) := by decide +kernel
theorem dX7_send_0 : decode cX7_send 0 = .ok (.iload_n 1, 1) := by decide +kernel
theorem dX7_send_1 : decode cX7_send 1 = .ok (.ifCond .eq 16, 3) := by decide +kernel
theorem dX7_send_4 : decode cX7_send 4 = .ok (.iload_n 1, 1) := by decide +kernel
theorem dX7_send_5 : decode cX7_send 5 = .ok (.iconst (-1), 1) := by decide +kernel
theorem dX7_send_6 : decode cX7_send 6 = .ok (.if_icmp .eq 11, 3) := by decide +kernel
theorem dX7_send_9 : decode cX7_send 9 = .ok (.iload_n 1, 1) := by decide +kernel
theorem dX7_send_10 : decode cX7_send 10 = .ok (.aload_n 0, 1) := by decide +kernel
theorem dX7_send_11 : decode cX7_send 11 = .ok (.getfield 43, 3) := by decide +kernel
theorem dX7_send_14 : decode cX7_send 14 = .ok (.if_icmp .ne 11, 3) := by decide +kernel
theorem dX7_send_17 : decode cX7_send 17 = .ok (.new 78, 3) := by decide +kernel
theorem dX7_send_20 : decode cX7_send 20 = .ok (.dup, 1) := by decide +kernel
theorem dX7_send_21 : decode cX7_send 21 = .ok (.invokespecial 80, 3) := by decide +kernel
theorem dX7_send_24 : decode cX7_send 24 = .ok (.athrow, 1) := by decide +kernel
theorem dX7_send_25 : decode cX7_send 25 = .ok (.aload_n 0, 1) := by decide +kernel
theorem dX7_send_26 : decode cX7_send 26 = .ok (.getfield 40, 3) := by decide +kernel
theorem dX7_send_29 : decode cX7_send 29 = .ok (.iconst 2, 1) := by decide +kernel
theorem dX7_send_30 : decode cX7_send 30 = .ok (.if_icmp .ge 11, 3) := by decide +kernel
theorem dX7_send_33 : decode cX7_send 33 = .ok (.new 81, 3) := by decide +kernel
theorem dX7_send_36 : decode cX7_send 36 = .ok (.dup, 1) := by decide +kernel
theorem dX7_send_37 : decode cX7_send 37 = .ok (.invokespecial 83, 3) := by decide +kernel
theorem dX7_send_40 : decode cX7_send 40 = .ok (.athrow, 1) := by decide +kernel
theorem dX7_send_41 : decode cX7_send 41 = .ok (.aload_n 0, 1) := by decide +kernel
theorem dX7_send_42 : decode cX7_send 42 = .ok (.getfield 66, 3) := by decide +kernel
theorem dX7_send_45 : decode cX7_send 45 = .ok (.iload_n 1, 1) := by decide +kernel
theorem dX7_send_46 : decode cX7_send 46 = .ok (.invokevirtual 119, 3) := by decide +kernel
theorem dX7_send_49 : decode cX7_send 49 = .ok (.istore_n 3, 1) := by decide +kernel
theorem dX7_send_50 : decode cX7_send 50 = .ok (.iload_n 3, 1) := by decide +kernel
theorem dX7_send_51 : decode cX7_send 51 = .ok (.ifCond .ge 12, 3) := by decide +kernel
theorem dX7_send_54 : decode cX7_send 54 = .ok (.aload_n 0, 1) := by decide +kernel
theorem dX7_send_55 : decode cX7_send 55 = .ok (.iload_n 1, 1) := by decide +kernel
theorem dX7_send_56 : decode cX7_send 56 = .ok (.iload_n 2, 1) := by decide +kernel
theorem dX7_send_57 : decode cX7_send 57 = .ok (.invokevirtual 123, 3) := by decide +kernel
theorem dX7_send_60 : decode cX7_send 60 = .ok (.goto 20, 3) := by decide +kernel
theorem dX7_send_63 : decode cX7_send 63 = .ok (.aload_n 0, 1) := by decide +kernel
theorem dX7_send_64 : decode cX7_send 64 = .ok (.aload_n 0, 1) := by decide +kernel
theorem dX7_send_65 : decode cX7_send 65 = .ok (.getfield 66, 3) := by decide +kernel
theorem dX7_send_68 : decode cX7_send 68 = .ok (.iload_n 3, 1) := by decide +kernel
theorem dX7_send_69 : decode cX7_send 69 = .ok (.aload_n 0, 1) := by decide +kernel
theorem dX7_send_70 : decode cX7_send 70 = .ok (.getfield 36, 3) := by decide +kernel
theorem dX7_send_73 : decode cX7_send 73 = .ok (.invokevirtual 126, 3) := by decide +kernel
theorem dX7_send_76 : decode cX7_send 76 = .ok (.iload_n 2, 1) := by decide +kernel
theorem dX7_send_77 : decode cX7_send 77 = .ok (.invokevirtual 130, 3) := by decide +kernel
theorem dX7_send_80 : decode cX7_send 80 = .ok (.ireturn, 1) := by decide +kernel
theorem dX7_tick_0 : decode cX7_tick 0 = .ok (.iload_n 1, 1) := by decide +kernel
theorem dX7_tick_1 : decode cX7_tick 1 = .ok (.ifCond .lt 9, 3) := by decide +kernel
theorem dX7_tick_4 : decode cX7_tick 4 = .ok (.iload_n 1, 1) := by decide +kernel
theorem dX7_tick_5 : decode cX7_tick 5 = .ok (.bipush 40, 2) := by decide +kernel
theorem dX7_tick_7 : decode cX7_tick 7 = .ok (.if_icmp .le 11, 3) := by decide +kernel
theorem dX7_tick_10 : decode cX7_tick 10 = .ok (.new 78, 3) := by decide +kernel
theorem dX7_tick_13 : decode cX7_tick 13 = .ok (.dup, 1) := by decide +kernel
theorem dX7_tick_14 : decode cX7_tick 14 = .ok (.invokespecial 80, 3) := by decide +kernel
theorem dX7_tick_17 : decode cX7_tick 17 = .ok (.athrow, 1) := by decide +kernel
theorem dX7_tick_18 : decode cX7_tick 18 = .ok (.iconst 0, 1) := by decide +kernel
theorem dX7_tick_19 : decode cX7_tick 19 = .ok (.istore_n 2, 1) := by decide +kernel
theorem dX7_tick_20 : decode cX7_tick 20 = .ok (.iload_n 2, 1) := by decide +kernel
theorem dX7_tick_21 : decode cX7_tick 21 = .ok (.iload_n 1, 1) := by decide +kernel
theorem dX7_tick_22 : decode cX7_tick 22 = .ok (.if_icmp .ge 27, 3) := by decide +kernel
theorem dX7_tick_25 : decode cX7_tick 25 = .ok (.aload_n 0, 1) := by decide +kernel
theorem dX7_tick_26 : decode cX7_tick 26 = .ok (.dup, 1) := by decide +kernel
theorem dX7_tick_27 : decode cX7_tick 27 = .ok (.getfield 36, 3) := by decide +kernel
theorem dX7_tick_30 : decode cX7_tick 30 = .ok (.iconst 1, 1) := by decide +kernel
theorem dX7_tick_31 : decode cX7_tick 31 = .ok (.iadd, 1) := by decide +kernel
theorem dX7_tick_32 : decode cX7_tick 32 = .ok (.putfield 36, 3) := by decide +kernel
theorem dX7_tick_35 : decode cX7_tick 35 = .ok (.aload_n 0, 1) := by decide +kernel
theorem dX7_tick_36 : decode cX7_tick 36 = .ok (.invokevirtual 134, 3) := by decide +kernel
theorem dX7_tick_39 : decode cX7_tick 39 = .ok (.aload_n 0, 1) := by decide +kernel
theorem dX7_tick_40 : decode cX7_tick 40 = .ok (.invokevirtual 137, 3) := by decide +kernel
theorem dX7_tick_43 : decode cX7_tick 43 = .ok (.iinc 2 1, 3) := by decide +kernel
theorem dX7_tick_46 : decode cX7_tick 46 = .ok (.goto (-26), 3) := by decide +kernel
theorem dX7_tick_49 : decode cX7_tick 49 = .ok (.aload_n 0, 1) := by decide +kernel
theorem dX7_tick_50 : decode cX7_tick 50 = .ok (.getfield 36, 3) := by decide +kernel
theorem dX7_tick_53 : decode cX7_tick 53 = .ok (.ireturn, 1) := by decide +kernel
theorem dX7_count_0 : decode cX7_count 0 = .ok (.iload_n 1, 1) := by decide +kernel
theorem dX7_count_1 : decode cX7_count 1 = .ok (.tableswitch 105 0 7 #[47, 52, 57, 62, 70, 81, 92, 100], 47) := by decide +kernel
theorem dX7_count_48 : decode cX7_count 48 = .ok (.aload_n 0, 1) := by decide +kernel
theorem dX7_count_49 : decode cX7_count 49 = .ok (.getfield 40, 3) := by decide +kernel
theorem dX7_count_52 : decode cX7_count 52 = .ok (.ireturn, 1) := by decide +kernel
theorem dX7_count_53 : decode cX7_count 53 = .ok (.aload_n 0, 1) := by decide +kernel
theorem dX7_count_54 : decode cX7_count 54 = .ok (.getfield 43, 3) := by decide +kernel
theorem dX7_count_57 : decode cX7_count 57 = .ok (.ireturn, 1) := by decide +kernel
theorem dX7_count_58 : decode cX7_count 58 = .ok (.aload_n 0, 1) := by decide +kernel
theorem dX7_count_59 : decode cX7_count 59 = .ok (.getfield 36, 3) := by decide +kernel
theorem dX7_count_62 : decode cX7_count 62 = .ok (.ireturn, 1) := by decide +kernel
theorem dX7_count_63 : decode cX7_count 63 = .ok (.aload_n 0, 1) := by decide +kernel
theorem dX7_count_64 : decode cX7_count 64 = .ok (.getfield 66, 3) := by decide +kernel
theorem dX7_count_67 : decode cX7_count 67 = .ok (.getfield 140, 3) := by decide +kernel
theorem dX7_count_70 : decode cX7_count 70 = .ok (.ireturn, 1) := by decide +kernel
theorem dX7_count_71 : decode cX7_count 71 = .ok (.aload_n 0, 1) := by decide +kernel
theorem dX7_count_72 : decode cX7_count 72 = .ok (.getfield 19, 3) := by decide +kernel
theorem dX7_count_75 : decode cX7_count 75 = .ok (.getfield 143, 3) := by decide +kernel
theorem dX7_count_78 : decode cX7_count 78 = .ok (.getfield 147, 3) := by decide +kernel
theorem dX7_count_81 : decode cX7_count 81 = .ok (.ireturn, 1) := by decide +kernel
theorem dX7_count_82 : decode cX7_count 82 = .ok (.aload_n 0, 1) := by decide +kernel
theorem dX7_count_83 : decode cX7_count 83 = .ok (.getfield 26, 3) := by decide +kernel
theorem dX7_count_86 : decode cX7_count 86 = .ok (.getfield 152, 3) := by decide +kernel
theorem dX7_count_89 : decode cX7_count 89 = .ok (.getfield 147, 3) := by decide +kernel
theorem dX7_count_92 : decode cX7_count 92 = .ok (.ireturn, 1) := by decide +kernel
theorem dX7_count_93 : decode cX7_count 93 = .ok (.aload_n 0, 1) := by decide +kernel
theorem dX7_count_94 : decode cX7_count 94 = .ok (.getfield 66, 3) := by decide +kernel
theorem dX7_count_97 : decode cX7_count 97 = .ok (.invokevirtual 153, 3) := by decide +kernel
theorem dX7_count_100 : decode cX7_count 100 = .ok (.ireturn, 1) := by decide +kernel
theorem dX7_count_101 : decode cX7_count 101 = .ok (.aload_n 0, 1) := by decide +kernel
theorem dX7_count_102 : decode cX7_count 102 = .ok (.getfield 49, 3) := by decide +kernel
theorem dX7_count_105 : decode cX7_count 105 = .ok (.ireturn, 1) := by decide +kernel
theorem dX7_count_106 : decode cX7_count 106 = .ok (.new 78, 3) := by decide +kernel
theorem dX7_count_109 : decode cX7_count 109 = .ok (.dup, 1) := by decide +kernel
theorem dX7_count_110 : decode cX7_count 110 = .ok (.invokespecial 80, 3) := by decide +kernel
theorem dX7_count_113 : decode cX7_count 113 = .ok (.athrow, 1) := by decide +kernel
theorem dX7_entry_0 : decode cX7_entry 0 = .ok (.iload_n 1, 1) := by decide +kernel
theorem dX7_entry_1 : decode cX7_entry 1 = .ok (.ifCond .lt 14, 3) := by decide +kernel
theorem dX7_entry_4 : decode cX7_entry 4 = .ok (.iload_n 1, 1) := by decide +kernel
theorem dX7_entry_5 : decode cX7_entry 5 = .ok (.aload_n 0, 1) := by decide +kernel
theorem dX7_entry_6 : decode cX7_entry 6 = .ok (.getfield 66, 3) := by decide +kernel
theorem dX7_entry_9 : decode cX7_entry 9 = .ok (.getfield 140, 3) := by decide +kernel
theorem dX7_entry_12 : decode cX7_entry 12 = .ok (.if_icmp .lt 11, 3) := by decide +kernel
theorem dX7_entry_15 : decode cX7_entry 15 = .ok (.new 156, 3) := by decide +kernel
theorem dX7_entry_18 : decode cX7_entry 18 = .ok (.dup, 1) := by decide +kernel
theorem dX7_entry_19 : decode cX7_entry 19 = .ok (.invokespecial 158, 3) := by decide +kernel
theorem dX7_entry_22 : decode cX7_entry 22 = .ok (.athrow, 1) := by decide +kernel
theorem dX7_entry_23 : decode cX7_entry 23 = .ok (.aload_n 0, 1) := by decide +kernel
theorem dX7_entry_24 : decode cX7_entry 24 = .ok (.getfield 66, 3) := by decide +kernel
theorem dX7_entry_27 : decode cX7_entry 27 = .ok (.getfield 159, 3) := by decide +kernel
theorem dX7_entry_30 : decode cX7_entry 30 = .ok (.iload_n 1, 1) := by decide +kernel
theorem dX7_entry_31 : decode cX7_entry 31 = .ok (.aaload, 1) := by decide +kernel
theorem dX7_entry_32 : decode cX7_entry 32 = .ok (.getfield 163, 3) := by decide +kernel
theorem dX7_entry_35 : decode cX7_entry 35 = .ok (.ireturn, 1) := by decide +kernel
theorem dX7_about_0 : decode cX7_about 0 = .ok (.iload_n 2, 1) := by decide +kernel
theorem dX7_about_1 : decode cX7_about 1 = .ok (.ifCond .lt 8, 3) := by decide +kernel
theorem dX7_about_4 : decode cX7_about 4 = .ok (.iload_n 2, 1) := by decide +kernel
theorem dX7_about_5 : decode cX7_about 5 = .ok (.iconst 3, 1) := by decide +kernel
theorem dX7_about_6 : decode cX7_about 6 = .ok (.if_icmp .le 11, 3) := by decide +kernel
theorem dX7_about_9 : decode cX7_about 9 = .ok (.new 78, 3) := by decide +kernel
theorem dX7_about_12 : decode cX7_about 12 = .ok (.dup, 1) := by decide +kernel
theorem dX7_about_13 : decode cX7_about 13 = .ok (.invokespecial 80, 3) := by decide +kernel
theorem dX7_about_16 : decode cX7_about 16 = .ok (.athrow, 1) := by decide +kernel
theorem dX7_about_17 : decode cX7_about 17 = .ok (.aload_n 0, 1) := by decide +kernel
theorem dX7_about_18 : decode cX7_about 18 = .ok (.getfield 66, 3) := by decide +kernel
theorem dX7_about_21 : decode cX7_about 21 = .ok (.iload_n 1, 1) := by decide +kernel
theorem dX7_about_22 : decode cX7_about 22 = .ok (.invokevirtual 119, 3) := by decide +kernel
theorem dX7_about_25 : decode cX7_about 25 = .ok (.istore_n 3, 1) := by decide +kernel
theorem dX7_about_26 : decode cX7_about 26 = .ok (.iload_n 3, 1) := by decide +kernel
theorem dX7_about_27 : decode cX7_about 27 = .ok (.ifCond .ge 11, 3) := by decide +kernel
theorem dX7_about_30 : decode cX7_about 30 = .ok (.new 168, 3) := by decide +kernel
theorem dX7_about_33 : decode cX7_about 33 = .ok (.dup, 1) := by decide +kernel
theorem dX7_about_34 : decode cX7_about 34 = .ok (.invokespecial 170, 3) := by decide +kernel
theorem dX7_about_37 : decode cX7_about 37 = .ok (.athrow, 1) := by decide +kernel
theorem dX7_about_38 : decode cX7_about 38 = .ok (.aload_n 0, 1) := by decide +kernel
theorem dX7_about_39 : decode cX7_about 39 = .ok (.getfield 66, 3) := by decide +kernel
theorem dX7_about_42 : decode cX7_about 42 = .ok (.getfield 159, 3) := by decide +kernel
theorem dX7_about_45 : decode cX7_about 45 = .ok (.iload_n 3, 1) := by decide +kernel
theorem dX7_about_46 : decode cX7_about 46 = .ok (.aaload, 1) := by decide +kernel
theorem dX7_about_47 : decode cX7_about 47 = .ok (.astore 4, 2) := by decide +kernel
theorem dX7_about_49 : decode cX7_about 49 = .ok (.iload_n 2, 1) := by decide +kernel
theorem dX7_about_50 : decode cX7_about 50 = .ok (.tableswitch 44 0 2 #[26, 32, 38], 26) := by decide +kernel
theorem dX7_about_76 : decode cX7_about 76 = .ok (.aload 4, 2) := by decide +kernel
theorem dX7_about_78 : decode cX7_about 78 = .ok (.getfield 171, 3) := by decide +kernel
theorem dX7_about_81 : decode cX7_about 81 = .ok (.ireturn, 1) := by decide +kernel
theorem dX7_about_82 : decode cX7_about 82 = .ok (.aload 4, 2) := by decide +kernel
theorem dX7_about_84 : decode cX7_about 84 = .ok (.getfield 174, 3) := by decide +kernel
theorem dX7_about_87 : decode cX7_about 87 = .ok (.ireturn, 1) := by decide +kernel
theorem dX7_about_88 : decode cX7_about 88 = .ok (.aload 4, 2) := by decide +kernel
theorem dX7_about_90 : decode cX7_about 90 = .ok (.getfield 177, 3) := by decide +kernel
theorem dX7_about_93 : decode cX7_about 93 = .ok (.ireturn, 1) := by decide +kernel
theorem dX7_about_94 : decode cX7_about 94 = .ok (.aload 4, 2) := by decide +kernel
theorem dX7_about_96 : decode cX7_about 96 = .ok (.getfield 180, 3) := by decide +kernel
theorem dX7_about_99 : decode cX7_about 99 = .ok (.ireturn, 1) := by decide +kernel
theorem dX7_hardware_0 : decode cX7_hardware 0 = .ok (.aload_n 0, 1) := by decide +kernel
theorem dX7_hardware_1 : decode cX7_hardware 1 = .ok (.getfield 66, 3) := by decide +kernel
theorem dX7_hardware_4 : decode cX7_hardware 4 = .ok (.iload_n 1, 1) := by decide +kernel
theorem dX7_hardware_5 : decode cX7_hardware 5 = .ok (.invokevirtual 119, 3) := by decide +kernel
theorem dX7_hardware_8 : decode cX7_hardware 8 = .ok (.istore_n 2, 1) := by decide +kernel
theorem dX7_hardware_9 : decode cX7_hardware 9 = .ok (.iload_n 2, 1) := by decide +kernel
theorem dX7_hardware_10 : decode cX7_hardware 10 = .ok (.ifCond .ge 11, 3) := by decide +kernel
theorem dX7_hardware_13 : decode cX7_hardware 13 = .ok (.new 168, 3) := by decide +kernel
theorem dX7_hardware_16 : decode cX7_hardware 16 = .ok (.dup, 1) := by decide +kernel
theorem dX7_hardware_17 : decode cX7_hardware 17 = .ok (.invokespecial 170, 3) := by decide +kernel
theorem dX7_hardware_20 : decode cX7_hardware 20 = .ok (.athrow, 1) := by decide +kernel
theorem dX7_hardware_21 : decode cX7_hardware 21 = .ok (.aload_n 0, 1) := by decide +kernel
theorem dX7_hardware_22 : decode cX7_hardware 22 = .ok (.getfield 66, 3) := by decide +kernel
theorem dX7_hardware_25 : decode cX7_hardware 25 = .ok (.getfield 159, 3) := by decide +kernel
theorem dX7_hardware_28 : decode cX7_hardware 28 = .ok (.iload_n 2, 1) := by decide +kernel
theorem dX7_hardware_29 : decode cX7_hardware 29 = .ok (.aaload, 1) := by decide +kernel
theorem dX7_hardware_30 : decode cX7_hardware 30 = .ok (.getfield 183, 3) := by decide +kernel
theorem dX7_hardware_33 : decode cX7_hardware 33 = .ok (.lreturn, 1) := by decide +kernel
theorem dX7_knows_0 : decode cX7_knows 0 = .ok (.aload_n 0, 1) := by decide +kernel
theorem dX7_knows_1 : decode cX7_knows 1 = .ok (.getfield 66, 3) := by decide +kernel
theorem dX7_knows_4 : decode cX7_knows 4 = .ok (.iload_n 1, 1) := by decide +kernel
theorem dX7_knows_5 : decode cX7_knows 5 = .ok (.invokevirtual 119, 3) := by decide +kernel
theorem dX7_knows_8 : decode cX7_knows 8 = .ok (.istore_n 2, 1) := by decide +kernel
theorem dX7_knows_9 : decode cX7_knows 9 = .ok (.iload_n 2, 1) := by decide +kernel
theorem dX7_knows_10 : decode cX7_knows 10 = .ok (.ifCond .lt 23, 3) := by decide +kernel
theorem dX7_knows_13 : decode cX7_knows 13 = .ok (.aload_n 0, 1) := by decide +kernel
theorem dX7_knows_14 : decode cX7_knows 14 = .ok (.getfield 66, 3) := by decide +kernel
theorem dX7_knows_17 : decode cX7_knows 17 = .ok (.getfield 159, 3) := by decide +kernel
theorem dX7_knows_20 : decode cX7_knows 20 = .ok (.iload_n 2, 1) := by decide +kernel
theorem dX7_knows_21 : decode cX7_knows 21 = .ok (.aaload, 1) := by decide +kernel
theorem dX7_knows_22 : decode cX7_knows 22 = .ok (.getfield 171, 3) := by decide +kernel
theorem dX7_knows_25 : decode cX7_knows 25 = .ok (.iconst 1, 1) := by decide +kernel
theorem dX7_knows_26 : decode cX7_knows 26 = .ok (.if_icmp .eq 7, 3) := by decide +kernel
theorem dX7_knows_29 : decode cX7_knows 29 = .ok (.iconst 1, 1) := by decide +kernel
theorem dX7_knows_30 : decode cX7_knows 30 = .ok (.goto 4, 3) := by decide +kernel
theorem dX7_knows_33 : decode cX7_knows 33 = .ok (.iconst 0, 1) := by decide +kernel
theorem dX7_knows_34 : decode cX7_knows 34 = .ok (.ireturn, 1) := by decide +kernel
theorem dX7_waits_0 : decode cX7_waits 0 = .ok (.aload_n 0, 1) := by decide +kernel
theorem dX7_waits_1 : decode cX7_waits 1 = .ok (.getfield 66, 3) := by decide +kernel
theorem dX7_waits_4 : decode cX7_waits 4 = .ok (.iload_n 1, 1) := by decide +kernel
theorem dX7_waits_5 : decode cX7_waits 5 = .ok (.invokevirtual 119, 3) := by decide +kernel
theorem dX7_waits_8 : decode cX7_waits 8 = .ok (.istore_n 3, 1) := by decide +kernel
theorem dX7_waits_9 : decode cX7_waits 9 = .ok (.iload_n 3, 1) := by decide +kernel
theorem dX7_waits_10 : decode cX7_waits 10 = .ok (.ifCond .ge 11, 3) := by decide +kernel
theorem dX7_waits_13 : decode cX7_waits 13 = .ok (.new 168, 3) := by decide +kernel
theorem dX7_waits_16 : decode cX7_waits 16 = .ok (.dup, 1) := by decide +kernel
theorem dX7_waits_17 : decode cX7_waits 17 = .ok (.invokespecial 170, 3) := by decide +kernel
theorem dX7_waits_20 : decode cX7_waits 20 = .ok (.athrow, 1) := by decide +kernel
theorem dX7_waits_21 : decode cX7_waits 21 = .ok (.aload_n 0, 1) := by decide +kernel
theorem dX7_waits_22 : decode cX7_waits 22 = .ok (.getfield 66, 3) := by decide +kernel
theorem dX7_waits_25 : decode cX7_waits 25 = .ok (.getfield 159, 3) := by decide +kernel
theorem dX7_waits_28 : decode cX7_waits 28 = .ok (.iload_n 3, 1) := by decide +kernel
theorem dX7_waits_29 : decode cX7_waits 29 = .ok (.aaload, 1) := by decide +kernel
theorem dX7_waits_30 : decode cX7_waits 30 = .ok (.astore 4, 2) := by decide +kernel
theorem dX7_waits_32 : decode cX7_waits 32 = .ok (.iload_n 2, 1) := by decide +kernel
theorem dX7_waits_33 : decode cX7_waits 33 = .ok (.ifCond .lt 12, 3) := by decide +kernel
theorem dX7_waits_36 : decode cX7_waits 36 = .ok (.iload_n 2, 1) := by decide +kernel
theorem dX7_waits_37 : decode cX7_waits 37 = .ok (.aload 4, 2) := by decide +kernel
theorem dX7_waits_39 : decode cX7_waits 39 = .ok (.getfield 174, 3) := by decide +kernel
theorem dX7_waits_42 : decode cX7_waits 42 = .ok (.if_icmp .lt 11, 3) := by decide +kernel
theorem dX7_waits_45 : decode cX7_waits 45 = .ok (.new 156, 3) := by decide +kernel
theorem dX7_waits_48 : decode cX7_waits 48 = .ok (.dup, 1) := by decide +kernel
theorem dX7_waits_49 : decode cX7_waits 49 = .ok (.invokespecial 158, 3) := by decide +kernel
theorem dX7_waits_52 : decode cX7_waits 52 = .ok (.athrow, 1) := by decide +kernel
theorem dX7_waits_53 : decode cX7_waits 53 = .ok (.aload 4, 2) := by decide +kernel
theorem dX7_waits_55 : decode cX7_waits 55 = .ok (.getfield 186, 3) := by decide +kernel
theorem dX7_waits_58 : decode cX7_waits 58 = .ok (.iload_n 2, 1) := by decide +kernel
theorem dX7_waits_59 : decode cX7_waits 59 = .ok (.iaload, 1) := by decide +kernel
theorem dX7_waits_60 : decode cX7_waits 60 = .ok (.ireturn, 1) := by decide +kernel
theorem dX7_to_0 : decode cX7_to 0 = .ok (.aload_n 0, 1) := by decide +kernel
theorem dX7_to_1 : decode cX7_to 1 = .ok (.getfield 19, 3) := by decide +kernel
theorem dX7_to_4 : decode cX7_to 4 = .ok (.getfield 143, 3) := by decide +kernel
theorem dX7_to_7 : decode cX7_to 7 = .ok (.iload_n 1, 1) := by decide +kernel
theorem dX7_to_8 : decode cX7_to 8 = .ok (.invokevirtual 190, 3) := by decide +kernel
theorem dX7_to_11 : decode cX7_to 11 = .ok (.ifCond .ne 11, 3) := by decide +kernel
theorem dX7_to_14 : decode cX7_to 14 = .ok (.new 156, 3) := by decide +kernel
theorem dX7_to_17 : decode cX7_to 17 = .ok (.dup, 1) := by decide +kernel
theorem dX7_to_18 : decode cX7_to 18 = .ok (.invokespecial 158, 3) := by decide +kernel
theorem dX7_to_21 : decode cX7_to 21 = .ok (.athrow, 1) := by decide +kernel
theorem dX7_to_22 : decode cX7_to 22 = .ok (.aload_n 0, 1) := by decide +kernel
theorem dX7_to_23 : decode cX7_to 23 = .ok (.getfield 19, 3) := by decide +kernel
theorem dX7_to_26 : decode cX7_to 26 = .ok (.getfield 193, 3) := by decide +kernel
theorem dX7_to_29 : decode cX7_to 29 = .ok (.aload_n 0, 1) := by decide +kernel
theorem dX7_to_30 : decode cX7_to 30 = .ok (.getfield 19, 3) := by decide +kernel
theorem dX7_to_33 : decode cX7_to 33 = .ok (.getfield 143, 3) := by decide +kernel
theorem dX7_to_36 : decode cX7_to 36 = .ok (.iload_n 1, 1) := by decide +kernel
theorem dX7_to_37 : decode cX7_to 37 = .ok (.invokevirtual 197, 3) := by decide +kernel
theorem dX7_to_40 : decode cX7_to 40 = .ok (.laload, 1) := by decide +kernel
theorem dX7_to_41 : decode cX7_to 41 = .ok (.lreturn, 1) := by decide +kernel
theorem dX7_data_0 : decode cX7_data 0 = .ok (.aload_n 0, 1) := by decide +kernel
theorem dX7_data_1 : decode cX7_data 1 = .ok (.getfield 19, 3) := by decide +kernel
theorem dX7_data_4 : decode cX7_data 4 = .ok (.getfield 143, 3) := by decide +kernel
theorem dX7_data_7 : decode cX7_data 7 = .ok (.iload_n 1, 1) := by decide +kernel
theorem dX7_data_8 : decode cX7_data 8 = .ok (.invokevirtual 190, 3) := by decide +kernel
theorem dX7_data_11 : decode cX7_data 11 = .ok (.ifCond .ne 11, 3) := by decide +kernel
theorem dX7_data_14 : decode cX7_data 14 = .ok (.new 156, 3) := by decide +kernel
theorem dX7_data_17 : decode cX7_data 17 = .ok (.dup, 1) := by decide +kernel
theorem dX7_data_18 : decode cX7_data 18 = .ok (.invokespecial 158, 3) := by decide +kernel
theorem dX7_data_21 : decode cX7_data 21 = .ok (.athrow, 1) := by decide +kernel
theorem dX7_data_22 : decode cX7_data 22 = .ok (.aload_n 0, 1) := by decide +kernel
theorem dX7_data_23 : decode cX7_data 23 = .ok (.getfield 19, 3) := by decide +kernel
theorem dX7_data_26 : decode cX7_data 26 = .ok (.getfield 200, 3) := by decide +kernel
theorem dX7_data_29 : decode cX7_data 29 = .ok (.aload_n 0, 1) := by decide +kernel
theorem dX7_data_30 : decode cX7_data 30 = .ok (.getfield 19, 3) := by decide +kernel
theorem dX7_data_33 : decode cX7_data 33 = .ok (.getfield 143, 3) := by decide +kernel
theorem dX7_data_36 : decode cX7_data 36 = .ok (.iload_n 1, 1) := by decide +kernel
theorem dX7_data_37 : decode cX7_data 37 = .ok (.invokevirtual 197, 3) := by decide +kernel
theorem dX7_data_40 : decode cX7_data 40 = .ok (.iaload, 1) := by decide +kernel
theorem dX7_data_41 : decode cX7_data 41 = .ok (.ireturn, 1) := by decide +kernel
theorem dX7_out_0 : decode cX7_out 0 = .ok (.aload_n 0, 1) := by decide +kernel
theorem dX7_out_1 : decode cX7_out 1 = .ok (.getfield 19, 3) := by decide +kernel
theorem dX7_out_4 : decode cX7_out 4 = .ok (.getfield 143, 3) := by decide +kernel
theorem dX7_out_7 : decode cX7_out 7 = .ok (.iload_n 1, 1) := by decide +kernel
theorem dX7_out_8 : decode cX7_out 8 = .ok (.invokevirtual 190, 3) := by decide +kernel
theorem dX7_out_11 : decode cX7_out 11 = .ok (.ifCond .eq 24, 3) := by decide +kernel
theorem dX7_out_14 : decode cX7_out 14 = .ok (.aload_n 0, 1) := by decide +kernel
theorem dX7_out_15 : decode cX7_out 15 = .ok (.getfield 19, 3) := by decide +kernel
theorem dX7_out_18 : decode cX7_out 18 = .ok (.iload_n 1, 1) := by decide +kernel
theorem dX7_out_19 : decode cX7_out 19 = .ok (.invokevirtual 203, 3) := by decide +kernel
theorem dX7_out_22 : decode cX7_out 22 = .ok (.ifCond .eq 13, 3) := by decide +kernel
theorem dX7_out_25 : decode cX7_out 25 = .ok (.iload_n 2, 1) := by decide +kernel
theorem dX7_out_26 : decode cX7_out 26 = .ok (.ifCond .lt 9, 3) := by decide +kernel
theorem dX7_out_29 : decode cX7_out 29 = .ok (.iload_n 2, 1) := by decide +kernel
theorem dX7_out_30 : decode cX7_out 30 = .ok (.bipush 28, 2) := by decide +kernel
theorem dX7_out_32 : decode cX7_out 32 = .ok (.if_icmp .lt 11, 3) := by decide +kernel
theorem dX7_out_35 : decode cX7_out 35 = .ok (.new 156, 3) := by decide +kernel
theorem dX7_out_38 : decode cX7_out 38 = .ok (.dup, 1) := by decide +kernel
theorem dX7_out_39 : decode cX7_out 39 = .ok (.invokespecial 158, 3) := by decide +kernel
theorem dX7_out_42 : decode cX7_out 42 = .ok (.athrow, 1) := by decide +kernel
theorem dX7_out_43 : decode cX7_out 43 = .ok (.aload_n 0, 1) := by decide +kernel
theorem dX7_out_44 : decode cX7_out 44 = .ok (.getfield 19, 3) := by decide +kernel
theorem dX7_out_47 : decode cX7_out 47 = .ok (.iload_n 1, 1) := by decide +kernel
theorem dX7_out_48 : decode cX7_out 48 = .ok (.iload_n 2, 1) := by decide +kernel
theorem dX7_out_49 : decode cX7_out 49 = .ok (.invokevirtual 206, 3) := by decide +kernel
theorem dX7_out_52 : decode cX7_out 52 = .ok (.ireturn, 1) := by decide +kernel
theorem dX7_lost_0 : decode cX7_lost 0 = .ok (.aload_n 0, 1) := by decide +kernel
theorem dX7_lost_1 : decode cX7_lost 1 = .ok (.getfield 26, 3) := by decide +kernel
theorem dX7_lost_4 : decode cX7_lost 4 = .ok (.getfield 152, 3) := by decide +kernel
theorem dX7_lost_7 : decode cX7_lost 7 = .ok (.iload_n 1, 1) := by decide +kernel
theorem dX7_lost_8 : decode cX7_lost 8 = .ok (.invokevirtual 190, 3) := by decide +kernel
theorem dX7_lost_11 : decode cX7_lost 11 = .ok (.ifCond .ne 11, 3) := by decide +kernel
theorem dX7_lost_14 : decode cX7_lost 14 = .ok (.new 156, 3) := by decide +kernel
theorem dX7_lost_17 : decode cX7_lost 17 = .ok (.dup, 1) := by decide +kernel
theorem dX7_lost_18 : decode cX7_lost 18 = .ok (.invokespecial 158, 3) := by decide +kernel
theorem dX7_lost_21 : decode cX7_lost 21 = .ok (.athrow, 1) := by decide +kernel
theorem dX7_lost_22 : decode cX7_lost 22 = .ok (.aload_n 0, 1) := by decide +kernel
theorem dX7_lost_23 : decode cX7_lost 23 = .ok (.getfield 26, 3) := by decide +kernel
theorem dX7_lost_26 : decode cX7_lost 26 = .ok (.getfield 209, 3) := by decide +kernel
theorem dX7_lost_29 : decode cX7_lost 29 = .ok (.aload_n 0, 1) := by decide +kernel
theorem dX7_lost_30 : decode cX7_lost 30 = .ok (.getfield 26, 3) := by decide +kernel
theorem dX7_lost_33 : decode cX7_lost 33 = .ok (.getfield 152, 3) := by decide +kernel
theorem dX7_lost_36 : decode cX7_lost 36 = .ok (.iload_n 1, 1) := by decide +kernel
theorem dX7_lost_37 : decode cX7_lost 37 = .ok (.invokevirtual 197, 3) := by decide +kernel
theorem dX7_lost_40 : decode cX7_lost 40 = .ok (.iaload, 1) := by decide +kernel
theorem dX7_lost_41 : decode cX7_lost 41 = .ok (.ireturn, 1) := by decide +kernel
theorem dX7_isBad_0 : decode cX7_isBad 0 = .ok (.aload_n 0, 1) := by decide +kernel
theorem dX7_isBad_1 : decode cX7_isBad 1 = .ok (.getfield 10, 3) := by decide +kernel
theorem dX7_isBad_4 : decode cX7_isBad 4 = .ok (.getfield 92, 3) := by decide +kernel
theorem dX7_isBad_7 : decode cX7_isBad 7 = .ok (.bipush 28, 2) := by decide +kernel
theorem dX7_isBad_9 : decode cX7_isBad 9 = .ok (.if_icmp .ne 17, 3) := by decide +kernel
theorem dX7_isBad_12 : decode cX7_isBad 12 = .ok (.aload_n 0, 1) := by decide +kernel
theorem dX7_isBad_13 : decode cX7_isBad 13 = .ok (.getfield 10, 3) := by decide +kernel
theorem dX7_isBad_16 : decode cX7_isBad 16 = .ok (.invokevirtual 210, 3) := by decide +kernel
theorem dX7_isBad_19 : decode cX7_isBad 19 = .ok (.ldc2_w 214, 3) := by decide +kernel
theorem dX7_isBad_22 : decode cX7_isBad 22 = .ok (.lcmp, 1) := by decide +kernel
theorem dX7_isBad_23 : decode cX7_isBad 23 = .ok (.ifCond .eq 5, 3) := by decide +kernel
theorem dX7_isBad_26 : decode cX7_isBad 26 = .ok (.iconst 1, 1) := by decide +kernel
theorem dX7_isBad_27 : decode cX7_isBad 27 = .ok (.ireturn, 1) := by decide +kernel
theorem dX7_isBad_28 : decode cX7_isBad 28 = .ok (.aload_n 0, 1) := by decide +kernel
theorem dX7_isBad_29 : decode cX7_isBad 29 = .ok (.getfield 10, 3) := by decide +kernel
theorem dX7_isBad_32 : decode cX7_isBad 32 = .ok (.invokevirtual 216, 3) := by decide +kernel
theorem dX7_isBad_35 : decode cX7_isBad 35 = .ok (.istore_n 1, 1) := by decide +kernel
theorem dX7_isBad_36 : decode cX7_isBad 36 = .ok (.iload_n 1, 1) := by decide +kernel
theorem dX7_isBad_37 : decode cX7_isBad 37 = .ok (.iconst 1, 1) := by decide +kernel
theorem dX7_isBad_38 : decode cX7_isBad 38 = .ok (.if_icmp .eq 10, 3) := by decide +kernel
theorem dX7_isBad_41 : decode cX7_isBad 41 = .ok (.iload_n 1, 1) := by decide +kernel
theorem dX7_isBad_42 : decode cX7_isBad 42 = .ok (.iconst 2, 1) := by decide +kernel
theorem dX7_isBad_43 : decode cX7_isBad 43 = .ok (.if_icmp .eq 5, 3) := by decide +kernel
theorem dX7_isBad_46 : decode cX7_isBad 46 = .ok (.iconst 1, 1) := by decide +kernel
theorem dX7_isBad_47 : decode cX7_isBad 47 = .ok (.ireturn, 1) := by decide +kernel
theorem dX7_isBad_48 : decode cX7_isBad 48 = .ok (.aload_n 0, 1) := by decide +kernel
theorem dX7_isBad_49 : decode cX7_isBad 49 = .ok (.getfield 10, 3) := by decide +kernel
theorem dX7_isBad_52 : decode cX7_isBad 52 = .ok (.invokevirtual 219, 3) := by decide +kernel
theorem dX7_isBad_55 : decode cX7_isBad 55 = .ok (.lstore_n 2, 1) := by decide +kernel
theorem dX7_isBad_56 : decode cX7_isBad 56 = .ok (.lload_n 2, 1) := by decide +kernel
theorem dX7_isBad_57 : decode cX7_isBad 57 = .ok (.aload_n 0, 1) := by decide +kernel
theorem dX7_isBad_58 : decode cX7_isBad 58 = .ok (.getfield 32, 3) := by decide +kernel
theorem dX7_isBad_61 : decode cX7_isBad 61 = .ok (.lcmp, 1) := by decide +kernel
theorem dX7_isBad_62 : decode cX7_isBad 62 = .ok (.ifCond .eq 17, 3) := by decide +kernel
theorem dX7_isBad_65 : decode cX7_isBad 65 = .ok (.lload_n 2, 1) := by decide +kernel
theorem dX7_isBad_66 : decode cX7_isBad 66 = .ok (.lconst 0, 1) := by decide +kernel
theorem dX7_isBad_67 : decode cX7_isBad 67 = .ok (.lcmp, 1) := by decide +kernel
theorem dX7_isBad_68 : decode cX7_isBad 68 = .ok (.ifCond .eq 11, 3) := by decide +kernel
theorem dX7_isBad_71 : decode cX7_isBad 71 = .ok (.lload_n 2, 1) := by decide +kernel
theorem dX7_isBad_72 : decode cX7_isBad 72 = .ok (.ldc2_w 76, 3) := by decide +kernel
theorem dX7_isBad_75 : decode cX7_isBad 75 = .ok (.lcmp, 1) := by decide +kernel
theorem dX7_isBad_76 : decode cX7_isBad 76 = .ok (.ifCond .ne 7, 3) := by decide +kernel
theorem dX7_isBad_79 : decode cX7_isBad 79 = .ok (.iconst 1, 1) := by decide +kernel
theorem dX7_isBad_80 : decode cX7_isBad 80 = .ok (.goto 4, 3) := by decide +kernel
theorem dX7_isBad_83 : decode cX7_isBad 83 = .ok (.iconst 0, 1) := by decide +kernel
theorem dX7_isBad_84 : decode cX7_isBad 84 = .ok (.ireturn, 1) := by decide +kernel
theorem dX7_takeIn_0 : decode cX7_takeIn 0 = .ok (.aload_n 0, 1) := by decide +kernel
theorem dX7_takeIn_1 : decode cX7_takeIn 1 = .ok (.invokevirtual 222, 3) := by decide +kernel
theorem dX7_takeIn_4 : decode cX7_takeIn 4 = .ok (.ifCond .eq 9, 3) := by decide +kernel
theorem dX7_takeIn_7 : decode cX7_takeIn 7 = .ok (.aload_n 0, 1) := by decide +kernel
theorem dX7_takeIn_8 : decode cX7_takeIn 8 = .ok (.invokevirtual 225, 3) := by decide +kernel
theorem dX7_takeIn_11 : decode cX7_takeIn 11 = .ok (.iconst 2, 1) := by decide +kernel
theorem dX7_takeIn_12 : decode cX7_takeIn 12 = .ok (.ireturn, 1) := by decide +kernel
theorem dX7_takeIn_13 : decode cX7_takeIn 13 = .ok (.aload_n 0, 1) := by decide +kernel
theorem dX7_takeIn_14 : decode cX7_takeIn 14 = .ok (.getfield 66, 3) := by decide +kernel
theorem dX7_takeIn_17 : decode cX7_takeIn 17 = .ok (.aload_n 0, 1) := by decide +kernel
theorem dX7_takeIn_18 : decode cX7_takeIn 18 = .ok (.getfield 10, 3) := by decide +kernel
theorem dX7_takeIn_21 : decode cX7_takeIn 21 = .ok (.invokevirtual 228, 3) := by decide +kernel
theorem dX7_takeIn_24 : decode cX7_takeIn 24 = .ok (.invokevirtual 119, 3) := by decide +kernel
theorem dX7_takeIn_27 : decode cX7_takeIn 27 = .ok (.istore_n 1, 1) := by decide +kernel
theorem dX7_takeIn_28 : decode cX7_takeIn 28 = .ok (.iload_n 1, 1) := by decide +kernel
theorem dX7_takeIn_29 : decode cX7_takeIn 29 = .ok (.ifCond .lt 23, 3) := by decide +kernel
theorem dX7_takeIn_32 : decode cX7_takeIn 32 = .ok (.aload_n 0, 1) := by decide +kernel
theorem dX7_takeIn_33 : decode cX7_takeIn 33 = .ok (.aload_n 0, 1) := by decide +kernel
theorem dX7_takeIn_34 : decode cX7_takeIn 34 = .ok (.getfield 66, 3) := by decide +kernel
theorem dX7_takeIn_37 : decode cX7_takeIn 37 = .ok (.getfield 159, 3) := by decide +kernel
theorem dX7_takeIn_40 : decode cX7_takeIn 40 = .ok (.iload_n 1, 1) := by decide +kernel
theorem dX7_takeIn_41 : decode cX7_takeIn 41 = .ok (.aaload, 1) := by decide +kernel
theorem dX7_takeIn_42 : decode cX7_takeIn 42 = .ok (.aload_n 0, 1) := by decide +kernel
theorem dX7_takeIn_43 : decode cX7_takeIn 43 = .ok (.getfield 10, 3) := by decide +kernel
theorem dX7_takeIn_46 : decode cX7_takeIn 46 = .ok (.invokevirtual 219, 3) := by decide +kernel
theorem dX7_takeIn_49 : decode cX7_takeIn 49 = .ok (.invokevirtual 231, 3) := by decide +kernel
theorem dX7_takeIn_52 : decode cX7_takeIn 52 = .ok (.aload_n 0, 1) := by decide +kernel
theorem dX7_takeIn_53 : decode cX7_takeIn 53 = .ok (.getfield 40, 3) := by decide +kernel
theorem dX7_takeIn_56 : decode cX7_takeIn 56 = .ok (.iconst 2, 1) := by decide +kernel
theorem dX7_takeIn_57 : decode cX7_takeIn 57 = .ok (.if_icmp .lt 21, 3) := by decide +kernel
theorem dX7_takeIn_60 : decode cX7_takeIn 60 = .ok (.aload_n 0, 1) := by decide +kernel
theorem dX7_takeIn_61 : decode cX7_takeIn 61 = .ok (.getfield 10, 3) := by decide +kernel
theorem dX7_takeIn_64 : decode cX7_takeIn 64 = .ok (.invokevirtual 235, 3) := by decide +kernel
theorem dX7_takeIn_67 : decode cX7_takeIn 67 = .ok (.aload_n 0, 1) := by decide +kernel
theorem dX7_takeIn_68 : decode cX7_takeIn 68 = .ok (.getfield 43, 3) := by decide +kernel
theorem dX7_takeIn_71 : decode cX7_takeIn 71 = .ok (.if_icmp .ne 7, 3) := by decide +kernel
theorem dX7_takeIn_74 : decode cX7_takeIn 74 = .ok (.aload_n 0, 1) := by decide +kernel
theorem dX7_takeIn_75 : decode cX7_takeIn 75 = .ok (.invokevirtual 238, 3) := by decide +kernel
theorem dX7_takeIn_78 : decode cX7_takeIn 78 = .ok (.iconst 0, 1) := by decide +kernel
theorem dX7_takeIn_79 : decode cX7_takeIn 79 = .ok (.ireturn, 1) := by decide +kernel
theorem dX7_isConflict_0 : decode cX7_isConflict 0 = .ok (.aload_n 0, 1) := by decide +kernel
theorem dX7_isConflict_1 : decode cX7_isConflict 1 = .ok (.getfield 40, 3) := by decide +kernel
theorem dX7_isConflict_4 : decode cX7_isConflict 4 = .ok (.ifCond .ne 5, 3) := by decide +kernel
theorem dX7_isConflict_7 : decode cX7_isConflict 7 = .ok (.iconst 0, 1) := by decide +kernel
theorem dX7_isConflict_8 : decode cX7_isConflict 8 = .ok (.ireturn, 1) := by decide +kernel
theorem dX7_isConflict_9 : decode cX7_isConflict 9 = .ok (.aload_n 0, 1) := by decide +kernel
theorem dX7_isConflict_10 : decode cX7_isConflict 10 = .ok (.getfield 10, 3) := by decide +kernel
theorem dX7_isConflict_13 : decode cX7_isConflict 13 = .ok (.invokevirtual 228, 3) := by decide +kernel
theorem dX7_isConflict_16 : decode cX7_isConflict 16 = .ok (.istore_n 1, 1) := by decide +kernel
theorem dX7_isConflict_17 : decode cX7_isConflict 17 = .ok (.aload_n 0, 1) := by decide +kernel
theorem dX7_isConflict_18 : decode cX7_isConflict 18 = .ok (.getfield 40, 3) := by decide +kernel
theorem dX7_isConflict_21 : decode cX7_isConflict 21 = .ok (.iconst 1, 1) := by decide +kernel
theorem dX7_isConflict_22 : decode cX7_isConflict 22 = .ok (.if_icmp .ne 36, 3) := by decide +kernel
theorem dX7_isConflict_25 : decode cX7_isConflict 25 = .ok (.aload_n 0, 1) := by decide +kernel
theorem dX7_isConflict_26 : decode cX7_isConflict 26 = .ok (.getfield 10, 3) := by decide +kernel
theorem dX7_isConflict_29 : decode cX7_isConflict 29 = .ok (.invokevirtual 216, 3) := by decide +kernel
theorem dX7_isConflict_32 : decode cX7_isConflict 32 = .ok (.iconst 1, 1) := by decide +kernel
theorem dX7_isConflict_33 : decode cX7_isConflict 33 = .ok (.if_icmp .ne 25, 3) := by decide +kernel
theorem dX7_isConflict_36 : decode cX7_isConflict 36 = .ok (.iload_n 1, 1) := by decide +kernel
theorem dX7_isConflict_37 : decode cX7_isConflict 37 = .ok (.ifCond .ne 21, 3) := by decide +kernel
theorem dX7_isConflict_40 : decode cX7_isConflict 40 = .ok (.aload_n 0, 1) := by decide +kernel
theorem dX7_isConflict_41 : decode cX7_isConflict 41 = .ok (.getfield 10, 3) := by decide +kernel
theorem dX7_isConflict_44 : decode cX7_isConflict 44 = .ok (.invokevirtual 235, 3) := by decide +kernel
theorem dX7_isConflict_47 : decode cX7_isConflict 47 = .ok (.aload_n 0, 1) := by decide +kernel
theorem dX7_isConflict_48 : decode cX7_isConflict 48 = .ok (.getfield 43, 3) := by decide +kernel
theorem dX7_isConflict_51 : decode cX7_isConflict 51 = .ok (.if_icmp .ne 7, 3) := by decide +kernel
theorem dX7_isConflict_54 : decode cX7_isConflict 54 = .ok (.iconst 1, 1) := by decide +kernel
theorem dX7_isConflict_55 : decode cX7_isConflict 55 = .ok (.goto 4, 3) := by decide +kernel
theorem dX7_isConflict_58 : decode cX7_isConflict 58 = .ok (.iconst 0, 1) := by decide +kernel
theorem dX7_isConflict_59 : decode cX7_isConflict 59 = .ok (.istore_n 2, 1) := by decide +kernel
theorem dX7_isConflict_60 : decode cX7_isConflict 60 = .ok (.iload_n 1, 1) := by decide +kernel
theorem dX7_isConflict_61 : decode cX7_isConflict 61 = .ok (.aload_n 0, 1) := by decide +kernel
theorem dX7_isConflict_62 : decode cX7_isConflict 62 = .ok (.getfield 43, 3) := by decide +kernel
theorem dX7_isConflict_65 : decode cX7_isConflict 65 = .ok (.if_icmp .eq 7, 3) := by decide +kernel
theorem dX7_isConflict_68 : decode cX7_isConflict 68 = .ok (.iload_n 2, 1) := by decide +kernel
theorem dX7_isConflict_69 : decode cX7_isConflict 69 = .ok (.ifCond .eq 7, 3) := by decide +kernel
theorem dX7_isConflict_72 : decode cX7_isConflict 72 = .ok (.iconst 1, 1) := by decide +kernel
theorem dX7_isConflict_73 : decode cX7_isConflict 73 = .ok (.goto 4, 3) := by decide +kernel
theorem dX7_isConflict_76 : decode cX7_isConflict 76 = .ok (.iconst 0, 1) := by decide +kernel
theorem dX7_isConflict_77 : decode cX7_isConflict 77 = .ok (.ireturn, 1) := by decide +kernel
theorem dX7_meetConflict_0 : decode cX7_meetConflict 0 = .ok (.aload_n 0, 1) := by decide +kernel
theorem dX7_meetConflict_1 : decode cX7_meetConflict 1 = .ok (.getfield 49, 3) := by decide +kernel
theorem dX7_meetConflict_4 : decode cX7_meetConflict 4 = .ok (.iconst (-1), 1) := by decide +kernel
theorem dX7_meetConflict_5 : decode cX7_meetConflict 5 = .ok (.if_icmp .eq 17, 3) := by decide +kernel
theorem dX7_meetConflict_8 : decode cX7_meetConflict 8 = .ok (.aload_n 0, 1) := by decide +kernel
theorem dX7_meetConflict_9 : decode cX7_meetConflict 9 = .ok (.getfield 36, 3) := by decide +kernel
theorem dX7_meetConflict_12 : decode cX7_meetConflict 12 = .ok (.aload_n 0, 1) := by decide +kernel
theorem dX7_meetConflict_13 : decode cX7_meetConflict 13 = .ok (.getfield 49, 3) := by decide +kernel
theorem dX7_meetConflict_16 : decode cX7_meetConflict 16 = .ok (.isub, 1) := by decide +kernel
theorem dX7_meetConflict_17 : decode cX7_meetConflict 17 = .ok (.bipush 10, 2) := by decide +kernel
theorem dX7_meetConflict_19 : decode cX7_meetConflict 19 = .ok (.if_icmp .lt 7, 3) := by decide +kernel
theorem dX7_meetConflict_22 : decode cX7_meetConflict 22 = .ok (.iconst 1, 1) := by decide +kernel
theorem dX7_meetConflict_23 : decode cX7_meetConflict 23 = .ok (.goto 4, 3) := by decide +kernel
theorem dX7_meetConflict_26 : decode cX7_meetConflict 26 = .ok (.iconst 0, 1) := by decide +kernel
theorem dX7_meetConflict_27 : decode cX7_meetConflict 27 = .ok (.istore_n 1, 1) := by decide +kernel
theorem dX7_meetConflict_28 : decode cX7_meetConflict 28 = .ok (.aload_n 0, 1) := by decide +kernel
theorem dX7_meetConflict_29 : decode cX7_meetConflict 29 = .ok (.getfield 40, 3) := by decide +kernel
theorem dX7_meetConflict_32 : decode cX7_meetConflict 32 = .ok (.iconst 1, 1) := by decide +kernel
theorem dX7_meetConflict_33 : decode cX7_meetConflict 33 = .ok (.if_icmp .eq 7, 3) := by decide +kernel
theorem dX7_meetConflict_36 : decode cX7_meetConflict 36 = .ok (.iload_n 1, 1) := by decide +kernel
theorem dX7_meetConflict_37 : decode cX7_meetConflict 37 = .ok (.ifCond .ne 8, 3) := by decide +kernel
theorem dX7_meetConflict_40 : decode cX7_meetConflict 40 = .ok (.aload_n 0, 1) := by decide +kernel
theorem dX7_meetConflict_41 : decode cX7_meetConflict 41 = .ok (.invokevirtual 116, 3) := by decide +kernel
theorem dX7_meetConflict_44 : decode cX7_meetConflict 44 = .ok (.return_, 1) := by decide +kernel
theorem dX7_meetConflict_45 : decode cX7_meetConflict 45 = .ok (.aload_n 0, 1) := by decide +kernel
theorem dX7_meetConflict_46 : decode cX7_meetConflict 46 = .ok (.invokevirtual 241, 3) := by decide +kernel
theorem dX7_meetConflict_49 : decode cX7_meetConflict 49 = .ok (.aload_n 0, 1) := by decide +kernel
theorem dX7_meetConflict_50 : decode cX7_meetConflict 50 = .ok (.aload_n 0, 1) := by decide +kernel
theorem dX7_meetConflict_51 : decode cX7_meetConflict 51 = .ok (.getfield 36, 3) := by decide +kernel
theorem dX7_meetConflict_54 : decode cX7_meetConflict 54 = .ok (.putfield 49, 3) := by decide +kernel
theorem dX7_meetConflict_57 : decode cX7_meetConflict 57 = .ok (.return_, 1) := by decide +kernel
theorem dX7_learn_0 : decode cX7_learn 0 = .ok (.aload_n 1, 1) := by decide +kernel
theorem dX7_learn_1 : decode cX7_learn 1 = .ok (.lload_n 2, 1) := by decide +kernel
theorem dX7_learn_2 : decode cX7_learn 2 = .ok (.putfield 183, 3) := by decide +kernel
theorem dX7_learn_5 : decode cX7_learn 5 = .ok (.aload_n 1, 1) := by decide +kernel
theorem dX7_learn_6 : decode cX7_learn 6 = .ok (.iconst 2, 1) := by decide +kernel
theorem dX7_learn_7 : decode cX7_learn 7 = .ok (.aload_n 0, 1) := by decide +kernel
theorem dX7_learn_8 : decode cX7_learn 8 = .ok (.getfield 36, 3) := by decide +kernel
theorem dX7_learn_11 : decode cX7_learn 11 = .ok (.invokevirtual 244, 3) := by decide +kernel
theorem dX7_learn_14 : decode cX7_learn 14 = .ok (.iconst 0, 1) := by decide +kernel
theorem dX7_learn_15 : decode cX7_learn 15 = .ok (.istore 4, 2) := by decide +kernel
theorem dX7_learn_17 : decode cX7_learn 17 = .ok (.iload 4, 2) := by decide +kernel
theorem dX7_learn_19 : decode cX7_learn 19 = .ok (.aload_n 1, 1) := by decide +kernel
theorem dX7_learn_20 : decode cX7_learn 20 = .ok (.getfield 174, 3) := by decide +kernel
theorem dX7_learn_23 : decode cX7_learn 23 = .ok (.if_icmp .ge 24, 3) := by decide +kernel
theorem dX7_learn_26 : decode cX7_learn 26 = .ok (.aload_n 0, 1) := by decide +kernel
theorem dX7_learn_27 : decode cX7_learn 27 = .ok (.getfield 19, 3) := by decide +kernel
theorem dX7_learn_30 : decode cX7_learn 30 = .ok (.lload_n 2, 1) := by decide +kernel
theorem dX7_learn_31 : decode cX7_learn 31 = .ok (.aload_n 1, 1) := by decide +kernel
theorem dX7_learn_32 : decode cX7_learn 32 = .ok (.getfield 186, 3) := by decide +kernel
theorem dX7_learn_35 : decode cX7_learn 35 = .ok (.iload 4, 2) := by decide +kernel
theorem dX7_learn_37 : decode cX7_learn 37 = .ok (.iaload, 1) := by decide +kernel
theorem dX7_learn_38 : decode cX7_learn 38 = .ok (.invokevirtual 248, 3) := by decide +kernel
theorem dX7_learn_41 : decode cX7_learn 41 = .ok (.iinc 4 1, 3) := by decide +kernel
theorem dX7_learn_44 : decode cX7_learn 44 = .ok (.goto (-27), 3) := by decide +kernel
theorem dX7_learn_47 : decode cX7_learn 47 = .ok (.aload_n 1, 1) := by decide +kernel
theorem dX7_learn_48 : decode cX7_learn 48 = .ok (.iconst 0, 1) := by decide +kernel
theorem dX7_learn_49 : decode cX7_learn 49 = .ok (.putfield 174, 3) := by decide +kernel
theorem dX7_learn_52 : decode cX7_learn 52 = .ok (.return_, 1) := by decide +kernel
theorem dX7_takeInForOwn_0 : decode cX7_takeInForOwn 0 = .ok (.aload_n 0, 1) := by decide +kernel
theorem dX7_takeInForOwn_1 : decode cX7_takeInForOwn 1 = .ok (.getfield 10, 3) := by decide +kernel
theorem dX7_takeInForOwn_4 : decode cX7_takeInForOwn 4 = .ok (.invokevirtual 228, 3) := by decide +kernel
theorem dX7_takeInForOwn_7 : decode cX7_takeInForOwn 7 = .ok (.istore_n 1, 1) := by decide +kernel
theorem dX7_takeInForOwn_8 : decode cX7_takeInForOwn 8 = .ok (.iload_n 1, 1) := by decide +kernel
theorem dX7_takeInForOwn_9 : decode cX7_takeInForOwn 9 = .ok (.ifCond .eq 45, 3) := by decide +kernel
theorem dX7_takeInForOwn_12 : decode cX7_takeInForOwn 12 = .ok (.aload_n 0, 1) := by decide +kernel
theorem dX7_takeInForOwn_13 : decode cX7_takeInForOwn 13 = .ok (.getfield 66, 3) := by decide +kernel
theorem dX7_takeInForOwn_16 : decode cX7_takeInForOwn 16 = .ok (.iload_n 1, 1) := by decide +kernel
theorem dX7_takeInForOwn_17 : decode cX7_takeInForOwn 17 = .ok (.invokevirtual 119, 3) := by decide +kernel
theorem dX7_takeInForOwn_20 : decode cX7_takeInForOwn 20 = .ok (.ifCond .ge 34, 3) := by decide +kernel
theorem dX7_takeInForOwn_23 : decode cX7_takeInForOwn 23 = .ok (.aload_n 0, 1) := by decide +kernel
theorem dX7_takeInForOwn_24 : decode cX7_takeInForOwn 24 = .ok (.getfield 66, 3) := by decide +kernel
theorem dX7_takeInForOwn_27 : decode cX7_takeInForOwn 27 = .ok (.invokevirtual 251, 3) := by decide +kernel
theorem dX7_takeInForOwn_30 : decode cX7_takeInForOwn 30 = .ok (.ifCond .eq 24, 3) := by decide +kernel
theorem dX7_takeInForOwn_33 : decode cX7_takeInForOwn 33 = .ok (.aload_n 0, 1) := by decide +kernel
theorem dX7_takeInForOwn_34 : decode cX7_takeInForOwn 34 = .ok (.getfield 66, 3) := by decide +kernel
theorem dX7_takeInForOwn_37 : decode cX7_takeInForOwn 37 = .ok (.iload_n 1, 1) := by decide +kernel
theorem dX7_takeInForOwn_38 : decode cX7_takeInForOwn 38 = .ok (.aload_n 0, 1) := by decide +kernel
theorem dX7_takeInForOwn_39 : decode cX7_takeInForOwn 39 = .ok (.getfield 10, 3) := by decide +kernel
theorem dX7_takeInForOwn_42 : decode cX7_takeInForOwn 42 = .ok (.invokevirtual 219, 3) := by decide +kernel
theorem dX7_takeInForOwn_45 : decode cX7_takeInForOwn 45 = .ok (.iconst 2, 1) := by decide +kernel
theorem dX7_takeInForOwn_46 : decode cX7_takeInForOwn 46 = .ok (.aload_n 0, 1) := by decide +kernel
theorem dX7_takeInForOwn_47 : decode cX7_takeInForOwn 47 = .ok (.getfield 36, 3) := by decide +kernel
theorem dX7_takeInForOwn_50 : decode cX7_takeInForOwn 50 = .ok (.invokevirtual 254, 3) := by decide +kernel
theorem dX7_takeInForOwn_53 : decode cX7_takeInForOwn 53 = .ok (.pop, 1) := by decide +kernel
theorem dX7_takeInForOwn_54 : decode cX7_takeInForOwn 54 = .ok (.aload_n 0, 1) := by decide +kernel
theorem dX7_takeInForOwn_55 : decode cX7_takeInForOwn 55 = .ok (.getfield 10, 3) := by decide +kernel
theorem dX7_takeInForOwn_58 : decode cX7_takeInForOwn 58 = .ok (.invokevirtual 216, 3) := by decide +kernel
theorem dX7_takeInForOwn_61 : decode cX7_takeInForOwn 61 = .ok (.iconst 1, 1) := by decide +kernel
theorem dX7_takeInForOwn_62 : decode cX7_takeInForOwn 62 = .ok (.if_icmp .ne 34, 3) := by decide +kernel
theorem dX7_takeInForOwn_65 : decode cX7_takeInForOwn 65 = .ok (.aload_n 0, 1) := by decide +kernel
theorem dX7_takeInForOwn_66 : decode cX7_takeInForOwn 66 = .ok (.getfield 19, 3) := by decide +kernel
theorem dX7_takeInForOwn_69 : decode cX7_takeInForOwn 69 = .ok (.aload_n 0, 1) := by decide +kernel
theorem dX7_takeInForOwn_70 : decode cX7_takeInForOwn 70 = .ok (.getfield 10, 3) := by decide +kernel
theorem dX7_takeInForOwn_73 : decode cX7_takeInForOwn 73 = .ok (.invokevirtual 219, 3) := by decide +kernel
theorem dX7_takeInForOwn_76 : decode cX7_takeInForOwn 76 = .ok (.iconst 2, 1) := by decide +kernel
theorem dX7_takeInForOwn_77 : decode cX7_takeInForOwn 77 = .ok (.aload_n 0, 1) := by decide +kernel
theorem dX7_takeInForOwn_78 : decode cX7_takeInForOwn 78 = .ok (.getfield 32, 3) := by decide +kernel
theorem dX7_takeInForOwn_81 : decode cX7_takeInForOwn 81 = .ok (.aload_n 0, 1) := by decide +kernel
theorem dX7_takeInForOwn_82 : decode cX7_takeInForOwn 82 = .ok (.getfield 43, 3) := by decide +kernel
theorem dX7_takeInForOwn_85 : decode cX7_takeInForOwn 85 = .ok (.aload_n 0, 1) := by decide +kernel
theorem dX7_takeInForOwn_86 : decode cX7_takeInForOwn 86 = .ok (.getfield 10, 3) := by decide +kernel
theorem dX7_takeInForOwn_89 : decode cX7_takeInForOwn 89 = .ok (.invokevirtual 219, 3) := by decide +kernel
theorem dX7_takeInForOwn_92 : decode cX7_takeInForOwn 92 = .ok (.iload_n 1, 1) := by decide +kernel
theorem dX7_takeInForOwn_93 : decode cX7_takeInForOwn 93 = .ok (.invokevirtual 258, 3) := by decide +kernel
theorem dX7_takeInForOwn_96 : decode cX7_takeInForOwn 96 = .ok (.return_, 1) := by decide +kernel
theorem dX7_sendTo_0 : decode cX7_sendTo 0 = .ok (.aload_n 1, 1) := by decide +kernel
theorem dX7_sendTo_1 : decode cX7_sendTo 1 = .ok (.getfield 171, 3) := by decide +kernel
theorem dX7_sendTo_4 : decode cX7_sendTo 4 = .ok (.iconst 1, 1) := by decide +kernel
theorem dX7_sendTo_5 : decode cX7_sendTo 5 = .ok (.if_icmp .ne 10, 3) := by decide +kernel
theorem dX7_sendTo_8 : decode cX7_sendTo 8 = .ok (.aload_n 0, 1) := by decide +kernel
theorem dX7_sendTo_9 : decode cX7_sendTo 9 = .ok (.aload_n 1, 1) := by decide +kernel
theorem dX7_sendTo_10 : decode cX7_sendTo 10 = .ok (.iload_n 2, 1) := by decide +kernel
theorem dX7_sendTo_11 : decode cX7_sendTo 11 = .ok (.invokevirtual 262, 3) := by decide +kernel
theorem dX7_sendTo_14 : decode cX7_sendTo 14 = .ok (.ireturn, 1) := by decide +kernel
theorem dX7_sendTo_15 : decode cX7_sendTo 15 = .ok (.aload_n 0, 1) := by decide +kernel
theorem dX7_sendTo_16 : decode cX7_sendTo 16 = .ok (.getfield 19, 3) := by decide +kernel
theorem dX7_sendTo_19 : decode cX7_sendTo 19 = .ok (.aload_n 1, 1) := by decide +kernel
theorem dX7_sendTo_20 : decode cX7_sendTo 20 = .ok (.getfield 183, 3) := by decide +kernel
theorem dX7_sendTo_23 : decode cX7_sendTo 23 = .ok (.iload_n 2, 1) := by decide +kernel
theorem dX7_sendTo_24 : decode cX7_sendTo 24 = .ok (.invokevirtual 248, 3) := by decide +kernel
theorem dX7_sendTo_27 : decode cX7_sendTo 27 = .ok (.aload_n 1, 1) := by decide +kernel
theorem dX7_sendTo_28 : decode cX7_sendTo 28 = .ok (.getfield 171, 3) := by decide +kernel
theorem dX7_sendTo_31 : decode cX7_sendTo 31 = .ok (.iconst 3, 1) := by decide +kernel
theorem dX7_sendTo_32 : decode cX7_sendTo 32 = .ok (.if_icmp .ne 28, 3) := by decide +kernel
theorem dX7_sendTo_35 : decode cX7_sendTo 35 = .ok (.aload_n 0, 1) := by decide +kernel
theorem dX7_sendTo_36 : decode cX7_sendTo 36 = .ok (.aload_n 1, 1) := by decide +kernel
theorem dX7_sendTo_37 : decode cX7_sendTo 37 = .ok (.getfield 183, 3) := by decide +kernel
theorem dX7_sendTo_40 : decode cX7_sendTo 40 = .ok (.aload_n 0, 1) := by decide +kernel
theorem dX7_sendTo_41 : decode cX7_sendTo 41 = .ok (.getfield 43, 3) := by decide +kernel
theorem dX7_sendTo_44 : decode cX7_sendTo 44 = .ok (.aload_n 1, 1) := by decide +kernel
theorem dX7_sendTo_45 : decode cX7_sendTo 45 = .ok (.getfield 163, 3) := by decide +kernel
theorem dX7_sendTo_48 : decode cX7_sendTo 48 = .ok (.invokevirtual 265, 3) := by decide +kernel
theorem dX7_sendTo_51 : decode cX7_sendTo 51 = .ok (.aload_n 1, 1) := by decide +kernel
theorem dX7_sendTo_52 : decode cX7_sendTo 52 = .ok (.iconst 4, 1) := by decide +kernel
theorem dX7_sendTo_53 : decode cX7_sendTo 53 = .ok (.aload_n 0, 1) := by decide +kernel
theorem dX7_sendTo_54 : decode cX7_sendTo 54 = .ok (.getfield 36, 3) := by decide +kernel
theorem dX7_sendTo_57 : decode cX7_sendTo 57 = .ok (.invokevirtual 244, 3) := by decide +kernel
theorem dX7_sendTo_60 : decode cX7_sendTo 60 = .ok (.iconst 0, 1) := by decide +kernel
theorem dX7_sendTo_61 : decode cX7_sendTo 61 = .ok (.ireturn, 1) := by decide +kernel
theorem dX7_sendToStranger_0 : decode cX7_sendToStranger 0 = .ok (.aload_n 0, 1) := by decide +kernel
theorem dX7_sendToStranger_1 : decode cX7_sendToStranger 1 = .ok (.getfield 66, 3) := by decide +kernel
theorem dX7_sendToStranger_4 : decode cX7_sendToStranger 4 = .ok (.invokevirtual 251, 3) := by decide +kernel
theorem dX7_sendToStranger_7 : decode cX7_sendToStranger 7 = .ok (.ifCond .ne 13, 3) := by decide +kernel
theorem dX7_sendToStranger_10 : decode cX7_sendToStranger 10 = .ok (.aload_n 0, 1) := by decide +kernel
theorem dX7_sendToStranger_11 : decode cX7_sendToStranger 11 = .ok (.getfield 26, 3) := by decide +kernel
theorem dX7_sendToStranger_14 : decode cX7_sendToStranger 14 = .ok (.iload_n 2, 1) := by decide +kernel
theorem dX7_sendToStranger_15 : decode cX7_sendToStranger 15 = .ok (.invokevirtual 269, 3) := by decide +kernel
theorem dX7_sendToStranger_18 : decode cX7_sendToStranger 18 = .ok (.iconst 2, 1) := by decide +kernel
theorem dX7_sendToStranger_19 : decode cX7_sendToStranger 19 = .ok (.ireturn, 1) := by decide +kernel
theorem dX7_sendToStranger_20 : decode cX7_sendToStranger 20 = .ok (.aload_n 0, 1) := by decide +kernel
theorem dX7_sendToStranger_21 : decode cX7_sendToStranger 21 = .ok (.getfield 66, 3) := by decide +kernel
theorem dX7_sendToStranger_24 : decode cX7_sendToStranger 24 = .ok (.iload_n 1, 1) := by decide +kernel
theorem dX7_sendToStranger_25 : decode cX7_sendToStranger 25 = .ok (.lconst 0, 1) := by decide +kernel
theorem dX7_sendToStranger_26 : decode cX7_sendToStranger 26 = .ok (.iconst 1, 1) := by decide +kernel
theorem dX7_sendToStranger_27 : decode cX7_sendToStranger 27 = .ok (.aload_n 0, 1) := by decide +kernel
theorem dX7_sendToStranger_28 : decode cX7_sendToStranger 28 = .ok (.getfield 36, 3) := by decide +kernel
theorem dX7_sendToStranger_31 : decode cX7_sendToStranger 31 = .ok (.invokevirtual 254, 3) := by decide +kernel
theorem dX7_sendToStranger_34 : decode cX7_sendToStranger 34 = .ok (.astore_n 3, 1) := by decide +kernel
theorem dX7_sendToStranger_35 : decode cX7_sendToStranger 35 = .ok (.aload_n 0, 1) := by decide +kernel
theorem dX7_sendToStranger_36 : decode cX7_sendToStranger 36 = .ok (.ldc2_w 76, 3) := by decide +kernel
theorem dX7_sendToStranger_39 : decode cX7_sendToStranger 39 = .ok (.aload_n 0, 1) := by decide +kernel
theorem dX7_sendToStranger_40 : decode cX7_sendToStranger 40 = .ok (.getfield 43, 3) := by decide +kernel
theorem dX7_sendToStranger_43 : decode cX7_sendToStranger 43 = .ok (.iload_n 1, 1) := by decide +kernel
theorem dX7_sendToStranger_44 : decode cX7_sendToStranger 44 = .ok (.invokevirtual 265, 3) := by decide +kernel
theorem dX7_sendToStranger_47 : decode cX7_sendToStranger 47 = .ok (.aload_n 0, 1) := by decide +kernel
theorem dX7_sendToStranger_48 : decode cX7_sendToStranger 48 = .ok (.aload_n 3, 1) := by decide +kernel
theorem dX7_sendToStranger_49 : decode cX7_sendToStranger 49 = .ok (.iload_n 2, 1) := by decide +kernel
theorem dX7_sendToStranger_50 : decode cX7_sendToStranger 50 = .ok (.invokevirtual 262, 3) := by decide +kernel
theorem dX7_sendToStranger_53 : decode cX7_sendToStranger 53 = .ok (.ireturn, 1) := by decide +kernel
theorem dX7_putInLine_0 : decode cX7_putInLine 0 = .ok (.aload_n 1, 1) := by decide +kernel
theorem dX7_putInLine_1 : decode cX7_putInLine 1 = .ok (.getfield 174, 3) := by decide +kernel
theorem dX7_putInLine_4 : decode cX7_putInLine 4 = .ok (.iconst 4, 1) := by decide +kernel
theorem dX7_putInLine_5 : decode cX7_putInLine 5 = .ok (.if_icmp .lt 13, 3) := by decide +kernel
theorem dX7_putInLine_8 : decode cX7_putInLine 8 = .ok (.aload_n 0, 1) := by decide +kernel
theorem dX7_putInLine_9 : decode cX7_putInLine 9 = .ok (.getfield 26, 3) := by decide +kernel
theorem dX7_putInLine_12 : decode cX7_putInLine 12 = .ok (.iload_n 2, 1) := by decide +kernel
theorem dX7_putInLine_13 : decode cX7_putInLine 13 = .ok (.invokevirtual 269, 3) := by decide +kernel
theorem dX7_putInLine_16 : decode cX7_putInLine 16 = .ok (.iconst 2, 1) := by decide +kernel
theorem dX7_putInLine_17 : decode cX7_putInLine 17 = .ok (.ireturn, 1) := by decide +kernel
theorem dX7_putInLine_18 : decode cX7_putInLine 18 = .ok (.aload_n 1, 1) := by decide +kernel
theorem dX7_putInLine_19 : decode cX7_putInLine 19 = .ok (.getfield 186, 3) := by decide +kernel
theorem dX7_putInLine_22 : decode cX7_putInLine 22 = .ok (.aload_n 1, 1) := by decide +kernel
theorem dX7_putInLine_23 : decode cX7_putInLine 23 = .ok (.getfield 174, 3) := by decide +kernel
theorem dX7_putInLine_26 : decode cX7_putInLine 26 = .ok (.iload_n 2, 1) := by decide +kernel
theorem dX7_putInLine_27 : decode cX7_putInLine 27 = .ok (.iastore, 1) := by decide +kernel
theorem dX7_putInLine_28 : decode cX7_putInLine 28 = .ok (.aload_n 1, 1) := by decide +kernel
theorem dX7_putInLine_29 : decode cX7_putInLine 29 = .ok (.dup, 1) := by decide +kernel
theorem dX7_putInLine_30 : decode cX7_putInLine 30 = .ok (.getfield 174, 3) := by decide +kernel
theorem dX7_putInLine_33 : decode cX7_putInLine 33 = .ok (.iconst 1, 1) := by decide +kernel
theorem dX7_putInLine_34 : decode cX7_putInLine 34 = .ok (.iadd, 1) := by decide +kernel
theorem dX7_putInLine_35 : decode cX7_putInLine 35 = .ok (.putfield 174, 3) := by decide +kernel
theorem dX7_putInLine_38 : decode cX7_putInLine 38 = .ok (.iconst 1, 1) := by decide +kernel
theorem dX7_putInLine_39 : decode cX7_putInLine 39 = .ok (.ireturn, 1) := by decide +kernel
theorem dX7_request_0 : decode cX7_request 0 = .ok (.aload_n 0, 1) := by decide +kernel
theorem dX7_request_1 : decode cX7_request 1 = .ok (.getfield 19, 3) := by decide +kernel
theorem dX7_request_4 : decode cX7_request 4 = .ok (.lload_n 1, 1) := by decide +kernel
theorem dX7_request_5 : decode cX7_request 5 = .ok (.iconst 1, 1) := by decide +kernel
theorem dX7_request_6 : decode cX7_request 6 = .ok (.aload_n 0, 1) := by decide +kernel
theorem dX7_request_7 : decode cX7_request 7 = .ok (.getfield 32, 3) := by decide +kernel
theorem dX7_request_10 : decode cX7_request 10 = .ok (.iload_n 3, 1) := by decide +kernel
theorem dX7_request_11 : decode cX7_request 11 = .ok (.lconst 0, 1) := by decide +kernel
theorem dX7_request_12 : decode cX7_request 12 = .ok (.iload 4, 2) := by decide +kernel
theorem dX7_request_14 : decode cX7_request 14 = .ok (.invokevirtual 258, 3) := by decide +kernel
theorem dX7_request_17 : decode cX7_request 17 = .ok (.return_, 1) := by decide +kernel
theorem dX7_probe_0 : decode cX7_probe 0 = .ok (.aload_n 0, 1) := by decide +kernel
theorem dX7_probe_1 : decode cX7_probe 1 = .ok (.ldc2_w 76, 3) := by decide +kernel
theorem dX7_probe_4 : decode cX7_probe 4 = .ok (.iconst 0, 1) := by decide +kernel
theorem dX7_probe_5 : decode cX7_probe 5 = .ok (.aload_n 0, 1) := by decide +kernel
theorem dX7_probe_6 : decode cX7_probe 6 = .ok (.getfield 43, 3) := by decide +kernel
theorem dX7_probe_9 : decode cX7_probe 9 = .ok (.invokevirtual 265, 3) := by decide +kernel
theorem dX7_probe_12 : decode cX7_probe 12 = .ok (.return_, 1) := by decide +kernel
theorem dX7_announce_0 : decode cX7_announce 0 = .ok (.aload_n 0, 1) := by decide +kernel
theorem dX7_announce_1 : decode cX7_announce 1 = .ok (.ldc2_w 76, 3) := by decide +kernel
theorem dX7_announce_4 : decode cX7_announce 4 = .ok (.aload_n 0, 1) := by decide +kernel
theorem dX7_announce_5 : decode cX7_announce 5 = .ok (.getfield 43, 3) := by decide +kernel
theorem dX7_announce_8 : decode cX7_announce 8 = .ok (.aload_n 0, 1) := by decide +kernel
theorem dX7_announce_9 : decode cX7_announce 9 = .ok (.getfield 43, 3) := by decide +kernel
theorem dX7_announce_12 : decode cX7_announce 12 = .ok (.invokevirtual 265, 3) := by decide +kernel
theorem dX7_announce_15 : decode cX7_announce 15 = .ok (.return_, 1) := by decide +kernel
theorem dX7_tickOwn_0 : decode cX7_tickOwn 0 = .ok (.aload_n 0, 1) := by decide +kernel
theorem dX7_tickOwn_1 : decode cX7_tickOwn 1 = .ok (.getfield 36, 3) := by decide +kernel
theorem dX7_tickOwn_4 : decode cX7_tickOwn 4 = .ok (.aload_n 0, 1) := by decide +kernel
theorem dX7_tickOwn_5 : decode cX7_tickOwn 5 = .ok (.getfield 46, 3) := by decide +kernel
theorem dX7_tickOwn_8 : decode cX7_tickOwn 8 = .ok (.isub, 1) := by decide +kernel
theorem dX7_tickOwn_9 : decode cX7_tickOwn 9 = .ok (.istore_n 1, 1) := by decide +kernel
theorem dX7_tickOwn_10 : decode cX7_tickOwn 10 = .ok (.aload_n 0, 1) := by decide +kernel
theorem dX7_tickOwn_11 : decode cX7_tickOwn 11 = .ok (.getfield 40, 3) := by decide +kernel
theorem dX7_tickOwn_14 : decode cX7_tickOwn 14 = .ok (.iconst 1, 1) := by decide +kernel
theorem dX7_tickOwn_15 : decode cX7_tickOwn 15 = .ok (.if_icmp .ne 20, 3) := by decide +kernel
theorem dX7_tickOwn_18 : decode cX7_tickOwn 18 = .ok (.iload_n 1, 1) := by decide +kernel
theorem dX7_tickOwn_19 : decode cX7_tickOwn 19 = .ok (.iconst 2, 1) := by decide +kernel
theorem dX7_tickOwn_20 : decode cX7_tickOwn 20 = .ok (.if_icmp .eq 8, 3) := by decide +kernel
theorem dX7_tickOwn_23 : decode cX7_tickOwn 23 = .ok (.iload_n 1, 1) := by decide +kernel
theorem dX7_tickOwn_24 : decode cX7_tickOwn 24 = .ok (.iconst 4, 1) := by decide +kernel
theorem dX7_tickOwn_25 : decode cX7_tickOwn 25 = .ok (.if_icmp .ne 10, 3) := by decide +kernel
theorem dX7_tickOwn_28 : decode cX7_tickOwn 28 = .ok (.aload_n 0, 1) := by decide +kernel
theorem dX7_tickOwn_29 : decode cX7_tickOwn 29 = .ok (.invokevirtual 113, 3) := by decide +kernel
theorem dX7_tickOwn_32 : decode cX7_tickOwn 32 = .ok (.goto 52, 3) := by decide +kernel
theorem dX7_tickOwn_35 : decode cX7_tickOwn 35 = .ok (.aload_n 0, 1) := by decide +kernel
theorem dX7_tickOwn_36 : decode cX7_tickOwn 36 = .ok (.getfield 40, 3) := by decide +kernel
theorem dX7_tickOwn_39 : decode cX7_tickOwn 39 = .ok (.iconst 1, 1) := by decide +kernel
theorem dX7_tickOwn_40 : decode cX7_tickOwn 40 = .ok (.if_icmp .ne 21, 3) := by decide +kernel
theorem dX7_tickOwn_43 : decode cX7_tickOwn 43 = .ok (.iload_n 1, 1) := by decide +kernel
theorem dX7_tickOwn_44 : decode cX7_tickOwn 44 = .ok (.bipush 6, 2) := by decide +kernel
theorem dX7_tickOwn_46 : decode cX7_tickOwn 46 = .ok (.if_icmp .ne 15, 3) := by decide +kernel
theorem dX7_tickOwn_49 : decode cX7_tickOwn 49 = .ok (.aload_n 0, 1) := by decide +kernel
theorem dX7_tickOwn_50 : decode cX7_tickOwn 50 = .ok (.invokevirtual 241, 3) := by decide +kernel
theorem dX7_tickOwn_53 : decode cX7_tickOwn 53 = .ok (.aload_n 0, 1) := by decide +kernel
theorem dX7_tickOwn_54 : decode cX7_tickOwn 54 = .ok (.iconst 2, 1) := by decide +kernel
theorem dX7_tickOwn_55 : decode cX7_tickOwn 55 = .ok (.putfield 40, 3) := by decide +kernel
theorem dX7_tickOwn_58 : decode cX7_tickOwn 58 = .ok (.goto 26, 3) := by decide +kernel
theorem dX7_tickOwn_61 : decode cX7_tickOwn 61 = .ok (.aload_n 0, 1) := by decide +kernel
theorem dX7_tickOwn_62 : decode cX7_tickOwn 62 = .ok (.getfield 40, 3) := by decide +kernel
theorem dX7_tickOwn_65 : decode cX7_tickOwn 65 = .ok (.iconst 2, 1) := by decide +kernel
theorem dX7_tickOwn_66 : decode cX7_tickOwn 66 = .ok (.if_icmp .ne 18, 3) := by decide +kernel
theorem dX7_tickOwn_69 : decode cX7_tickOwn 69 = .ok (.iload_n 1, 1) := by decide +kernel
theorem dX7_tickOwn_70 : decode cX7_tickOwn 70 = .ok (.bipush 8, 2) := by decide +kernel
theorem dX7_tickOwn_72 : decode cX7_tickOwn 72 = .ok (.if_icmp .ne 12, 3) := by decide +kernel
theorem dX7_tickOwn_75 : decode cX7_tickOwn 75 = .ok (.aload_n 0, 1) := by decide +kernel
theorem dX7_tickOwn_76 : decode cX7_tickOwn 76 = .ok (.invokevirtual 241, 3) := by decide +kernel
theorem dX7_tickOwn_79 : decode cX7_tickOwn 79 = .ok (.aload_n 0, 1) := by decide +kernel
theorem dX7_tickOwn_80 : decode cX7_tickOwn 80 = .ok (.iconst 3, 1) := by decide +kernel
theorem dX7_tickOwn_81 : decode cX7_tickOwn 81 = .ok (.putfield 40, 3) := by decide +kernel
theorem dX7_tickOwn_84 : decode cX7_tickOwn 84 = .ok (.return_, 1) := by decide +kernel
theorem dX7_tickEntries_0 : decode cX7_tickEntries 0 = .ok (.iconst 0, 1) := by decide +kernel
theorem dX7_tickEntries_1 : decode cX7_tickEntries 1 = .ok (.istore_n 1, 1) := by decide +kernel
theorem dX7_tickEntries_2 : decode cX7_tickEntries 2 = .ok (.aload_n 0, 1) := by decide +kernel
theorem dX7_tickEntries_3 : decode cX7_tickEntries 3 = .ok (.getfield 66, 3) := by decide +kernel
theorem dX7_tickEntries_6 : decode cX7_tickEntries 6 = .ok (.getfield 140, 3) := by decide +kernel
theorem dX7_tickEntries_9 : decode cX7_tickEntries 9 = .ok (.istore_n 2, 1) := by decide +kernel
theorem dX7_tickEntries_10 : decode cX7_tickEntries 10 = .ok (.iload_n 2, 1) := by decide +kernel
theorem dX7_tickEntries_11 : decode cX7_tickEntries 11 = .ok (.ifCond .le 51, 3) := by decide +kernel
theorem dX7_tickEntries_14 : decode cX7_tickEntries 14 = .ok (.aload_n 0, 1) := by decide +kernel
theorem dX7_tickEntries_15 : decode cX7_tickEntries 15 = .ok (.getfield 66, 3) := by decide +kernel
theorem dX7_tickEntries_18 : decode cX7_tickEntries 18 = .ok (.getfield 159, 3) := by decide +kernel
theorem dX7_tickEntries_21 : decode cX7_tickEntries 21 = .ok (.iload_n 1, 1) := by decide +kernel
theorem dX7_tickEntries_22 : decode cX7_tickEntries 22 = .ok (.aaload, 1) := by decide +kernel
theorem dX7_tickEntries_23 : decode cX7_tickEntries 23 = .ok (.astore_n 3, 1) := by decide +kernel
theorem dX7_tickEntries_24 : decode cX7_tickEntries 24 = .ok (.aload_n 0, 1) := by decide +kernel
theorem dX7_tickEntries_25 : decode cX7_tickEntries 25 = .ok (.aload_n 3, 1) := by decide +kernel
theorem dX7_tickEntries_26 : decode cX7_tickEntries 26 = .ok (.invokevirtual 271, 3) := by decide +kernel
theorem dX7_tickEntries_29 : decode cX7_tickEntries 29 = .ok (.ifCond .eq 19, 3) := by decide +kernel
theorem dX7_tickEntries_32 : decode cX7_tickEntries 32 = .ok (.aload_n 0, 1) := by decide +kernel
theorem dX7_tickEntries_33 : decode cX7_tickEntries 33 = .ok (.aload_n 3, 1) := by decide +kernel
theorem dX7_tickEntries_34 : decode cX7_tickEntries 34 = .ok (.invokevirtual 275, 3) := by decide +kernel
theorem dX7_tickEntries_37 : decode cX7_tickEntries 37 = .ok (.aload_n 0, 1) := by decide +kernel
theorem dX7_tickEntries_38 : decode cX7_tickEntries 38 = .ok (.getfield 66, 3) := by decide +kernel
theorem dX7_tickEntries_41 : decode cX7_tickEntries 41 = .ok (.iload_n 1, 1) := by decide +kernel
theorem dX7_tickEntries_42 : decode cX7_tickEntries 42 = .ok (.invokevirtual 279, 3) := by decide +kernel
theorem dX7_tickEntries_45 : decode cX7_tickEntries 45 = .ok (.goto 11, 3) := by decide +kernel
theorem dX7_tickEntries_48 : decode cX7_tickEntries 48 = .ok (.aload_n 0, 1) := by decide +kernel
theorem dX7_tickEntries_49 : decode cX7_tickEntries 49 = .ok (.aload_n 3, 1) := by decide +kernel
theorem dX7_tickEntries_50 : decode cX7_tickEntries 50 = .ok (.invokevirtual 282, 3) := by decide +kernel
theorem dX7_tickEntries_53 : decode cX7_tickEntries 53 = .ok (.iinc 1 1, 3) := by decide +kernel
theorem dX7_tickEntries_56 : decode cX7_tickEntries 56 = .ok (.iinc 2 (-1), 3) := by decide +kernel
theorem dX7_tickEntries_59 : decode cX7_tickEntries 59 = .ok (.goto (-49), 3) := by decide +kernel
theorem dX7_tickEntries_62 : decode cX7_tickEntries 62 = .ok (.return_, 1) := by decide +kernel
theorem dX7_isOver_0 : decode cX7_isOver 0 = .ok (.aload_n 0, 1) := by decide +kernel
theorem dX7_isOver_1 : decode cX7_isOver 1 = .ok (.getfield 36, 3) := by decide +kernel
theorem dX7_isOver_4 : decode cX7_isOver 4 = .ok (.aload_n 1, 1) := by decide +kernel
theorem dX7_isOver_5 : decode cX7_isOver 5 = .ok (.getfield 177, 3) := by decide +kernel
theorem dX7_isOver_8 : decode cX7_isOver 8 = .ok (.isub, 1) := by decide +kernel
theorem dX7_isOver_9 : decode cX7_isOver 9 = .ok (.istore_n 2, 1) := by decide +kernel
theorem dX7_isOver_10 : decode cX7_isOver 10 = .ok (.aload_n 1, 1) := by decide +kernel
theorem dX7_isOver_11 : decode cX7_isOver 11 = .ok (.getfield 171, 3) := by decide +kernel
theorem dX7_isOver_14 : decode cX7_isOver 14 = .ok (.tableswitch 75 1 4 #[30, 75, 53, 42], 30) := by decide +kernel
theorem dX7_isOver_44 : decode cX7_isOver 44 = .ok (.iload_n 2, 1) := by decide +kernel
theorem dX7_isOver_45 : decode cX7_isOver 45 = .ok (.bipush 6, 2) := by decide +kernel
theorem dX7_isOver_47 : decode cX7_isOver 47 = .ok (.if_icmp .lt 7, 3) := by decide +kernel
theorem dX7_isOver_50 : decode cX7_isOver 50 = .ok (.iconst 1, 1) := by decide +kernel
theorem dX7_isOver_51 : decode cX7_isOver 51 = .ok (.goto 4, 3) := by decide +kernel
theorem dX7_isOver_54 : decode cX7_isOver 54 = .ok (.iconst 0, 1) := by decide +kernel
theorem dX7_isOver_55 : decode cX7_isOver 55 = .ok (.ireturn, 1) := by decide +kernel
theorem dX7_isOver_56 : decode cX7_isOver 56 = .ok (.iload_n 2, 1) := by decide +kernel
theorem dX7_isOver_57 : decode cX7_isOver 57 = .ok (.iconst 3, 1) := by decide +kernel
theorem dX7_isOver_58 : decode cX7_isOver 58 = .ok (.if_icmp .lt 7, 3) := by decide +kernel
theorem dX7_isOver_61 : decode cX7_isOver 61 = .ok (.iconst 1, 1) := by decide +kernel
theorem dX7_isOver_62 : decode cX7_isOver 62 = .ok (.goto 4, 3) := by decide +kernel
theorem dX7_isOver_65 : decode cX7_isOver 65 = .ok (.iconst 0, 1) := by decide +kernel
theorem dX7_isOver_66 : decode cX7_isOver 66 = .ok (.ireturn, 1) := by decide +kernel
theorem dX7_isOver_67 : decode cX7_isOver 67 = .ok (.aload_n 0, 1) := by decide +kernel
theorem dX7_isOver_68 : decode cX7_isOver 68 = .ok (.getfield 36, 3) := by decide +kernel
theorem dX7_isOver_71 : decode cX7_isOver 71 = .ok (.aload_n 1, 1) := by decide +kernel
theorem dX7_isOver_72 : decode cX7_isOver 72 = .ok (.getfield 180, 3) := by decide +kernel
theorem dX7_isOver_75 : decode cX7_isOver 75 = .ok (.isub, 1) := by decide +kernel
theorem dX7_isOver_76 : decode cX7_isOver 76 = .ok (.aload_n 0, 1) := by decide +kernel
theorem dX7_isOver_77 : decode cX7_isOver 77 = .ok (.getfield 73, 3) := by decide +kernel
theorem dX7_isOver_80 : decode cX7_isOver 80 = .ok (.if_icmp .lt 7, 3) := by decide +kernel
theorem dX7_isOver_83 : decode cX7_isOver 83 = .ok (.iconst 1, 1) := by decide +kernel
theorem dX7_isOver_84 : decode cX7_isOver 84 = .ok (.goto 4, 3) := by decide +kernel
theorem dX7_isOver_87 : decode cX7_isOver 87 = .ok (.iconst 0, 1) := by decide +kernel
theorem dX7_isOver_88 : decode cX7_isOver 88 = .ok (.ireturn, 1) := by decide +kernel
theorem dX7_isOver_89 : decode cX7_isOver 89 = .ok (.iconst 0, 1) := by decide +kernel
theorem dX7_isOver_90 : decode cX7_isOver 90 = .ok (.ireturn, 1) := by decide +kernel
theorem dX7_tickEntry_0 : decode cX7_tickEntry 0 = .ok (.aload_n 0, 1) := by decide +kernel
theorem dX7_tickEntry_1 : decode cX7_tickEntry 1 = .ok (.getfield 36, 3) := by decide +kernel
theorem dX7_tickEntry_4 : decode cX7_tickEntry 4 = .ok (.aload_n 1, 1) := by decide +kernel
theorem dX7_tickEntry_5 : decode cX7_tickEntry 5 = .ok (.getfield 177, 3) := by decide +kernel
theorem dX7_tickEntry_8 : decode cX7_tickEntry 8 = .ok (.isub, 1) := by decide +kernel
theorem dX7_tickEntry_9 : decode cX7_tickEntry 9 = .ok (.istore_n 2, 1) := by decide +kernel
theorem dX7_tickEntry_10 : decode cX7_tickEntry 10 = .ok (.aload_n 1, 1) := by decide +kernel
theorem dX7_tickEntry_11 : decode cX7_tickEntry 11 = .ok (.getfield 171, 3) := by decide +kernel
theorem dX7_tickEntry_14 : decode cX7_tickEntry 14 = .ok (.iconst 1, 1) := by decide +kernel
theorem dX7_tickEntry_15 : decode cX7_tickEntry 15 = .ok (.if_icmp .ne 31, 3) := by decide +kernel
theorem dX7_tickEntry_18 : decode cX7_tickEntry 18 = .ok (.iload_n 2, 1) := by decide +kernel
theorem dX7_tickEntry_19 : decode cX7_tickEntry 19 = .ok (.iconst 2, 1) := by decide +kernel
theorem dX7_tickEntry_20 : decode cX7_tickEntry 20 = .ok (.if_icmp .eq 8, 3) := by decide +kernel
theorem dX7_tickEntry_23 : decode cX7_tickEntry 23 = .ok (.iload_n 2, 1) := by decide +kernel
theorem dX7_tickEntry_24 : decode cX7_tickEntry 24 = .ok (.iconst 4, 1) := by decide +kernel
theorem dX7_tickEntry_25 : decode cX7_tickEntry 25 = .ok (.if_icmp .ne 21, 3) := by decide +kernel
theorem dX7_tickEntry_28 : decode cX7_tickEntry 28 = .ok (.aload_n 0, 1) := by decide +kernel
theorem dX7_tickEntry_29 : decode cX7_tickEntry 29 = .ok (.ldc2_w 76, 3) := by decide +kernel
theorem dX7_tickEntry_32 : decode cX7_tickEntry 32 = .ok (.aload_n 0, 1) := by decide +kernel
theorem dX7_tickEntry_33 : decode cX7_tickEntry 33 = .ok (.getfield 43, 3) := by decide +kernel
theorem dX7_tickEntry_36 : decode cX7_tickEntry 36 = .ok (.aload_n 1, 1) := by decide +kernel
theorem dX7_tickEntry_37 : decode cX7_tickEntry 37 = .ok (.getfield 163, 3) := by decide +kernel
theorem dX7_tickEntry_40 : decode cX7_tickEntry 40 = .ok (.invokevirtual 265, 3) := by decide +kernel
theorem dX7_tickEntry_43 : decode cX7_tickEntry 43 = .ok (.goto 55, 3) := by decide +kernel
theorem dX7_tickEntry_46 : decode cX7_tickEntry 46 = .ok (.aload_n 1, 1) := by decide +kernel
theorem dX7_tickEntry_47 : decode cX7_tickEntry 47 = .ok (.getfield 171, 3) := by decide +kernel
theorem dX7_tickEntry_50 : decode cX7_tickEntry 50 = .ok (.iconst 4, 1) := by decide +kernel
theorem dX7_tickEntry_51 : decode cX7_tickEntry 51 = .ok (.if_icmp .ne 22, 3) := by decide +kernel
theorem dX7_tickEntry_54 : decode cX7_tickEntry 54 = .ok (.aload_n 0, 1) := by decide +kernel
theorem dX7_tickEntry_55 : decode cX7_tickEntry 55 = .ok (.aload_n 1, 1) := by decide +kernel
theorem dX7_tickEntry_56 : decode cX7_tickEntry 56 = .ok (.getfield 183, 3) := by decide +kernel
theorem dX7_tickEntry_59 : decode cX7_tickEntry 59 = .ok (.aload_n 0, 1) := by decide +kernel
theorem dX7_tickEntry_60 : decode cX7_tickEntry 60 = .ok (.getfield 43, 3) := by decide +kernel
theorem dX7_tickEntry_63 : decode cX7_tickEntry 63 = .ok (.aload_n 1, 1) := by decide +kernel
theorem dX7_tickEntry_64 : decode cX7_tickEntry 64 = .ok (.getfield 163, 3) := by decide +kernel
theorem dX7_tickEntry_67 : decode cX7_tickEntry 67 = .ok (.invokevirtual 265, 3) := by decide +kernel
theorem dX7_tickEntry_70 : decode cX7_tickEntry 70 = .ok (.goto 28, 3) := by decide +kernel
theorem dX7_tickEntry_73 : decode cX7_tickEntry 73 = .ok (.aload_n 1, 1) := by decide +kernel
theorem dX7_tickEntry_74 : decode cX7_tickEntry 74 = .ok (.getfield 171, 3) := by decide +kernel
theorem dX7_tickEntry_77 : decode cX7_tickEntry 77 = .ok (.iconst 2, 1) := by decide +kernel
theorem dX7_tickEntry_78 : decode cX7_tickEntry 78 = .ok (.if_icmp .ne 20, 3) := by decide +kernel
theorem dX7_tickEntry_81 : decode cX7_tickEntry 81 = .ok (.iload_n 2, 1) := by decide +kernel
theorem dX7_tickEntry_82 : decode cX7_tickEntry 82 = .ok (.aload_n 0, 1) := by decide +kernel
theorem dX7_tickEntry_83 : decode cX7_tickEntry 83 = .ok (.getfield 70, 3) := by decide +kernel
theorem dX7_tickEntry_86 : decode cX7_tickEntry 86 = .ok (.if_icmp .lt 12, 3) := by decide +kernel
theorem dX7_tickEntry_89 : decode cX7_tickEntry 89 = .ok (.aload_n 1, 1) := by decide +kernel
theorem dX7_tickEntry_90 : decode cX7_tickEntry 90 = .ok (.iconst 3, 1) := by decide +kernel
theorem dX7_tickEntry_91 : decode cX7_tickEntry 91 = .ok (.aload_n 0, 1) := by decide +kernel
theorem dX7_tickEntry_92 : decode cX7_tickEntry 92 = .ok (.getfield 36, 3) := by decide +kernel
theorem dX7_tickEntry_95 : decode cX7_tickEntry 95 = .ok (.invokevirtual 244, 3) := by decide +kernel
theorem dX7_tickEntry_98 : decode cX7_tickEntry 98 = .ok (.return_, 1) := by decide +kernel
theorem dX7_giveUp_0 : decode cX7_giveUp 0 = .ok (.aload_n 0, 1) := by decide +kernel
theorem dX7_giveUp_1 : decode cX7_giveUp 1 = .ok (.iconst 0, 1) := by decide +kernel
theorem dX7_giveUp_2 : decode cX7_giveUp 2 = .ok (.putfield 40, 3) := by decide +kernel
theorem dX7_giveUp_5 : decode cX7_giveUp 5 = .ok (.aload_n 0, 1) := by decide +kernel
theorem dX7_giveUp_6 : decode cX7_giveUp 6 = .ok (.iconst 0, 1) := by decide +kernel
theorem dX7_giveUp_7 : decode cX7_giveUp 7 = .ok (.putfield 43, 3) := by decide +kernel
theorem dX7_giveUp_10 : decode cX7_giveUp 10 = .ok (.iconst 0, 1) := by decide +kernel
theorem dX7_giveUp_11 : decode cX7_giveUp 11 = .ok (.istore_n 1, 1) := by decide +kernel
theorem dX7_giveUp_12 : decode cX7_giveUp 12 = .ok (.iload_n 1, 1) := by decide +kernel
theorem dX7_giveUp_13 : decode cX7_giveUp 13 = .ok (.aload_n 0, 1) := by decide +kernel
theorem dX7_giveUp_14 : decode cX7_giveUp 14 = .ok (.getfield 66, 3) := by decide +kernel
theorem dX7_giveUp_17 : decode cX7_giveUp 17 = .ok (.getfield 140, 3) := by decide +kernel
theorem dX7_giveUp_20 : decode cX7_giveUp 20 = .ok (.if_icmp .ge 22, 3) := by decide +kernel
theorem dX7_giveUp_23 : decode cX7_giveUp 23 = .ok (.aload_n 0, 1) := by decide +kernel
theorem dX7_giveUp_24 : decode cX7_giveUp 24 = .ok (.aload_n 0, 1) := by decide +kernel
theorem dX7_giveUp_25 : decode cX7_giveUp 25 = .ok (.getfield 66, 3) := by decide +kernel
theorem dX7_giveUp_28 : decode cX7_giveUp 28 = .ok (.getfield 159, 3) := by decide +kernel
theorem dX7_giveUp_31 : decode cX7_giveUp 31 = .ok (.iload_n 1, 1) := by decide +kernel
theorem dX7_giveUp_32 : decode cX7_giveUp 32 = .ok (.aaload, 1) := by decide +kernel
theorem dX7_giveUp_33 : decode cX7_giveUp 33 = .ok (.invokevirtual 275, 3) := by decide +kernel
theorem dX7_giveUp_36 : decode cX7_giveUp 36 = .ok (.iinc 1 1, 3) := by decide +kernel
theorem dX7_giveUp_39 : decode cX7_giveUp 39 = .ok (.goto (-27), 3) := by decide +kernel
theorem dX7_giveUp_42 : decode cX7_giveUp 42 = .ok (.aload_n 0, 1) := by decide +kernel
theorem dX7_giveUp_43 : decode cX7_giveUp 43 = .ok (.getfield 66, 3) := by decide +kernel
theorem dX7_giveUp_46 : decode cX7_giveUp 46 = .ok (.iconst 0, 1) := by decide +kernel
theorem dX7_giveUp_47 : decode cX7_giveUp 47 = .ok (.putfield 140, 3) := by decide +kernel
theorem dX7_giveUp_50 : decode cX7_giveUp 50 = .ok (.return_, 1) := by decide +kernel
theorem dX7_loseWaiting_0 : decode cX7_loseWaiting 0 = .ok (.iconst 0, 1) := by decide +kernel
theorem dX7_loseWaiting_1 : decode cX7_loseWaiting 1 = .ok (.istore_n 2, 1) := by decide +kernel
theorem dX7_loseWaiting_2 : decode cX7_loseWaiting 2 = .ok (.iload_n 2, 1) := by decide +kernel
theorem dX7_loseWaiting_3 : decode cX7_loseWaiting 3 = .ok (.aload_n 1, 1) := by decide +kernel
theorem dX7_loseWaiting_4 : decode cX7_loseWaiting 4 = .ok (.getfield 174, 3) := by decide +kernel
theorem dX7_loseWaiting_7 : decode cX7_loseWaiting 7 = .ok (.if_icmp .ge 22, 3) := by decide +kernel
theorem dX7_loseWaiting_10 : decode cX7_loseWaiting 10 = .ok (.aload_n 0, 1) := by decide +kernel
theorem dX7_loseWaiting_11 : decode cX7_loseWaiting 11 = .ok (.getfield 26, 3) := by decide +kernel
theorem dX7_loseWaiting_14 : decode cX7_loseWaiting 14 = .ok (.aload_n 1, 1) := by decide +kernel
theorem dX7_loseWaiting_15 : decode cX7_loseWaiting 15 = .ok (.getfield 186, 3) := by decide +kernel
theorem dX7_loseWaiting_18 : decode cX7_loseWaiting 18 = .ok (.iload_n 2, 1) := by decide +kernel
theorem dX7_loseWaiting_19 : decode cX7_loseWaiting 19 = .ok (.iaload, 1) := by decide +kernel
theorem dX7_loseWaiting_20 : decode cX7_loseWaiting 20 = .ok (.invokevirtual 269, 3) := by decide +kernel
theorem dX7_loseWaiting_23 : decode cX7_loseWaiting 23 = .ok (.iinc 2 1, 3) := by decide +kernel
theorem dX7_loseWaiting_26 : decode cX7_loseWaiting 26 = .ok (.goto (-24), 3) := by decide +kernel
theorem dX7_loseWaiting_29 : decode cX7_loseWaiting 29 = .ok (.aload_n 1, 1) := by decide +kernel
theorem dX7_loseWaiting_30 : decode cX7_loseWaiting 30 = .ok (.iconst 0, 1) := by decide +kernel
theorem dX7_loseWaiting_31 : decode cX7_loseWaiting 31 = .ok (.putfield 174, 3) := by decide +kernel
theorem dX7_loseWaiting_34 : decode cX7_loseWaiting 34 = .ok (.return_, 1) := by decide +kernel
theorem dX8_init_0 : decode cX8_init 0 = .ok (.aload_n 0, 1) := by decide +kernel
theorem dX8_init_1 : decode cX8_init 1 = .ok (.invokespecial 1, 3) := by decide +kernel
theorem dX8_init_4 : decode cX8_init 4 = .ok (.aload_n 0, 1) := by decide +kernel
theorem dX8_init_5 : decode cX8_init 5 = .ok (.ldc2_w 7, 3) := by decide +kernel
theorem dX8_init_8 : decode cX8_init 8 = .ok (.putfield 9, 3) := by decide +kernel
theorem dX8_init_11 : decode cX8_init 11 = .ok (.aload_n 0, 1) := by decide +kernel
theorem dX8_init_12 : decode cX8_init 12 = .ok (.iconst (-1), 1) := by decide +kernel
theorem dX8_init_13 : decode cX8_init 13 = .ok (.putfield 15, 3) := by decide +kernel
theorem dX8_init_16 : decode cX8_init 16 = .ok (.aload_n 0, 1) := by decide +kernel
theorem dX8_init_17 : decode cX8_init 17 = .ok (.bipush 40, 2) := by decide +kernel
theorem dX8_init_19 : decode cX8_init 19 = .ok (.newarray .int, 2) := by decide +kernel
theorem dX8_init_21 : decode cX8_init 21 = .ok (.putfield 19, 3) := by decide +kernel
theorem dX8_init_24 : decode cX8_init 24 = .ok (.aload_n 0, 1) := by decide +kernel
theorem dX8_init_25 : decode cX8_init 25 = .ok (.bipush 33, 2) := by decide +kernel
theorem dX8_init_27 : decode cX8_init 27 = .ok (.newarray .int, 2) := by decide +kernel
theorem dX8_init_29 : decode cX8_init 29 = .ok (.putfield 23, 3) := by decide +kernel
theorem dX8_init_32 : decode cX8_init 32 = .ok (.aload_n 0, 1) := by decide +kernel
theorem dX8_init_33 : decode cX8_init 33 = .ok (.bipush 33, 2) := by decide +kernel
theorem dX8_init_35 : decode cX8_init 35 = .ok (.newarray .int, 2) := by decide +kernel
theorem dX8_init_37 : decode cX8_init 37 = .ok (.putfield 26, 3) := by decide +kernel
theorem dX8_init_40 : decode cX8_init 40 = .ok (.aload_n 0, 1) := by decide +kernel
theorem dX8_init_41 : decode cX8_init 41 = .ok (.bipush 33, 2) := by decide +kernel
theorem dX8_init_43 : decode cX8_init 43 = .ok (.newarray .long, 2) := by decide +kernel
theorem dX8_init_45 : decode cX8_init 45 = .ok (.putfield 29, 3) := by decide +kernel
theorem dX8_init_48 : decode cX8_init 48 = .ok (.aload_n 0, 1) := by decide +kernel
theorem dX8_init_49 : decode cX8_init 49 = .ok (.bipush 33, 2) := by decide +kernel
theorem dX8_init_51 : decode cX8_init 51 = .ok (.newarray .int, 2) := by decide +kernel
theorem dX8_init_53 : decode cX8_init 53 = .ok (.putfield 33, 3) := by decide +kernel
theorem dX8_init_56 : decode cX8_init 56 = .ok (.aload_n 0, 1) := by decide +kernel
theorem dX8_init_57 : decode cX8_init 57 = .ok (.bipush 33, 2) := by decide +kernel
theorem dX8_init_59 : decode cX8_init 59 = .ok (.newarray .int, 2) := by decide +kernel
theorem dX8_init_61 : decode cX8_init 61 = .ok (.putfield 36, 3) := by decide +kernel
theorem dX8_init_64 : decode cX8_init 64 = .ok (.aload_n 0, 1) := by decide +kernel
theorem dX8_init_65 : decode cX8_init 65 = .ok (.bipush 33, 2) := by decide +kernel
theorem dX8_init_67 : decode cX8_init 67 = .ok (.newarray .int, 2) := by decide +kernel
theorem dX8_init_69 : decode cX8_init 69 = .ok (.putfield 39, 3) := by decide +kernel
theorem dX8_init_72 : decode cX8_init 72 = .ok (.aload_n 0, 1) := by decide +kernel
theorem dX8_init_73 : decode cX8_init 73 = .ok (.sipush 132, 3) := by decide +kernel
theorem dX8_init_76 : decode cX8_init 76 = .ok (.newarray .int, 2) := by decide +kernel
theorem dX8_init_78 : decode cX8_init 78 = .ok (.putfield 42, 3) := by decide +kernel
theorem dX8_init_81 : decode cX8_init 81 = .ok (.aload_n 0, 1) := by decide +kernel
theorem dX8_init_82 : decode cX8_init 82 = .ok (.bipush 100, 2) := by decide +kernel
theorem dX8_init_84 : decode cX8_init 84 = .ok (.newarray .long, 2) := by decide +kernel
theorem dX8_init_86 : decode cX8_init 86 = .ok (.putfield 45, 3) := by decide +kernel
theorem dX8_init_89 : decode cX8_init 89 = .ok (.aload_n 0, 1) := by decide +kernel
theorem dX8_init_90 : decode cX8_init 90 = .ok (.bipush 100, 2) := by decide +kernel
theorem dX8_init_92 : decode cX8_init 92 = .ok (.newarray .int, 2) := by decide +kernel
theorem dX8_init_94 : decode cX8_init 94 = .ok (.putfield 48, 3) := by decide +kernel
theorem dX8_init_97 : decode cX8_init 97 = .ok (.aload_n 0, 1) := by decide +kernel
theorem dX8_init_98 : decode cX8_init 98 = .ok (.bipush 100, 2) := by decide +kernel
theorem dX8_init_100 : decode cX8_init 100 = .ok (.newarray .boolean, 2) := by decide +kernel
theorem dX8_init_102 : decode cX8_init 102 = .ok (.putfield 51, 3) := by decide +kernel
theorem dX8_init_105 : decode cX8_init 105 = .ok (.aload_n 0, 1) := by decide +kernel
theorem dX8_init_106 : decode cX8_init 106 = .ok (.sipush 2800, 3) := by decide +kernel
theorem dX8_init_109 : decode cX8_init 109 = .ok (.newarray .int, 2) := by decide +kernel
theorem dX8_init_111 : decode cX8_init 111 = .ok (.putfield 55, 3) := by decide +kernel
theorem dX8_init_114 : decode cX8_init 114 = .ok (.aload_n 0, 1) := by decide +kernel
theorem dX8_init_115 : decode cX8_init 115 = .ok (.bipush 100, 2) := by decide +kernel
theorem dX8_init_117 : decode cX8_init 117 = .ok (.newarray .int, 2) := by decide +kernel
theorem dX8_init_119 : decode cX8_init 119 = .ok (.putfield 58, 3) := by decide +kernel
theorem dX8_init_122 : decode cX8_init 122 = .ok (.aload_n 0, 1) := by decide +kernel
theorem dX8_init_123 : decode cX8_init 123 = .ok (.iload_n 1, 1) := by decide +kernel
theorem dX8_init_124 : decode cX8_init 124 = .ok (.iconst 1, 1) := by decide +kernel
theorem dX8_init_125 : decode cX8_init 125 = .ok (.if_icmp .ge 7, 3) := by decide +kernel
theorem dX8_init_128 : decode cX8_init 128 = .ok (.iconst 1, 1) := by decide +kernel
theorem dX8_init_129 : decode cX8_init 129 = .ok (.goto 15, 3) := by decide +kernel
theorem dX8_init_132 : decode cX8_init 132 = .ok (.iload_n 1, 1) := by decide +kernel
theorem dX8_init_133 : decode cX8_init 133 = .ok (.bipush 32, 2) := by decide +kernel
theorem dX8_init_135 : decode cX8_init 135 = .ok (.if_icmp .le 8, 3) := by decide +kernel
theorem dX8_init_138 : decode cX8_init 138 = .ok (.bipush 32, 2) := by decide +kernel
theorem dX8_init_140 : decode cX8_init 140 = .ok (.goto 4, 3) := by decide +kernel
theorem dX8_init_143 : decode cX8_init 143 = .ok (.iload_n 1, 1) := by decide +kernel
theorem dX8_init_144 : decode cX8_init 144 = .ok (.putfield 61, 3) := by decide +kernel
theorem dX8_init_147 : decode cX8_init 147 = .ok (.aload_n 0, 1) := by decide +kernel
theorem dX8_init_148 : decode cX8_init 148 = .ok (.iload_n 2, 1) := by decide +kernel
theorem dX8_init_149 : decode cX8_init 149 = .ok (.iconst 1, 1) := by decide +kernel
theorem dX8_init_150 : decode cX8_init 150 = .ok (.if_icmp .ge 7, 3) := by decide +kernel
theorem dX8_init_153 : decode cX8_init 153 = .ok (.iconst 1, 1) := by decide +kernel
theorem dX8_init_154 : decode cX8_init 154 = .ok (.goto 17, 3) := by decide +kernel
theorem dX8_init_157 : decode cX8_init 157 = .ok (.iload_n 2, 1) := by decide +kernel
theorem dX8_init_158 : decode cX8_init 158 = .ok (.sipush 1000, 3) := by decide +kernel
theorem dX8_init_161 : decode cX8_init 161 = .ok (.if_icmp .le 9, 3) := by decide +kernel
theorem dX8_init_164 : decode cX8_init 164 = .ok (.sipush 1000, 3) := by decide +kernel
theorem dX8_init_167 : decode cX8_init 167 = .ok (.goto 4, 3) := by decide +kernel
theorem dX8_init_170 : decode cX8_init 170 = .ok (.iload_n 2, 1) := by decide +kernel
theorem dX8_init_171 : decode cX8_init 171 = .ok (.putfield 64, 3) := by decide +kernel
theorem dX8_init_174 : decode cX8_init 174 = .ok (.aload_n 0, 1) := by decide +kernel
theorem dX8_init_175 : decode cX8_init 175 = .ok (.iload_n 3, 1) := by decide +kernel
theorem dX8_init_176 : decode cX8_init 176 = .ok (.iconst 1, 1) := by decide +kernel
theorem dX8_init_177 : decode cX8_init 177 = .ok (.if_icmp .ge 7, 3) := by decide +kernel
theorem dX8_init_180 : decode cX8_init 180 = .ok (.iconst 1, 1) := by decide +kernel
theorem dX8_init_181 : decode cX8_init 181 = .ok (.goto 17, 3) := by decide +kernel
theorem dX8_init_184 : decode cX8_init 184 = .ok (.iload_n 3, 1) := by decide +kernel
theorem dX8_init_185 : decode cX8_init 185 = .ok (.sipush 1000, 3) := by decide +kernel
theorem dX8_init_188 : decode cX8_init 188 = .ok (.if_icmp .le 9, 3) := by decide +kernel
theorem dX8_init_191 : decode cX8_init 191 = .ok (.sipush 1000, 3) := by decide +kernel
theorem dX8_init_194 : decode cX8_init 194 = .ok (.goto 4, 3) := by decide +kernel
theorem dX8_init_197 : decode cX8_init 197 = .ok (.iload_n 3, 1) := by decide +kernel
theorem dX8_init_198 : decode cX8_init 198 = .ok (.putfield 67, 3) := by decide +kernel
theorem dX8_init_201 : decode cX8_init 201 = .ok (.return_, 1) := by decide +kernel
theorem dX8_thrown_0 : decode cX8_thrown 0 = .ok (.aload_n 0, 1) := by decide +kernel
theorem dX8_thrown_1 : decode cX8_thrown 1 = .ok (.getfield 70, 3) := by decide +kernel
theorem dX8_thrown_4 : decode cX8_thrown 4 = .ok (.ireturn, 1) := by decide +kernel
theorem dX8_here_0 : decode cX8_here 0 = .ok (.aload_n 0, 1) := by decide +kernel
theorem dX8_here_1 : decode cX8_here 1 = .ok (.lload_n 1, 1) := by decide +kernel
theorem dX8_here_2 : decode cX8_here 2 = .ok (.lconst 1, 1) := by decide +kernel
theorem dX8_here_3 : decode cX8_here 3 = .ok (.lcmp, 1) := by decide +kernel
theorem dX8_here_4 : decode cX8_here 4 = .ok (.ifCond .lt 11, 3) := by decide +kernel
theorem dX8_here_7 : decode cX8_here 7 = .ok (.lload_n 1, 1) := by decide +kernel
theorem dX8_here_8 : decode cX8_here 8 = .ok (.ldc2_w 73, 3) := by decide +kernel
theorem dX8_here_11 : decode cX8_here 11 = .ok (.lcmp, 1) := by decide +kernel
theorem dX8_here_12 : decode cX8_here 12 = .ok (.ifCond .le 7, 3) := by decide +kernel
theorem dX8_here_15 : decode cX8_here 15 = .ok (.iconst 1, 1) := by decide +kernel
theorem dX8_here_16 : decode cX8_here 16 = .ok (.goto 15, 3) := by decide +kernel
theorem dX8_here_19 : decode cX8_here 19 = .ok (.aload_n 0, 1) := by decide +kernel
theorem dX8_here_20 : decode cX8_here 20 = .ok (.getfield 75, 3) := by decide +kernel
theorem dX8_here_23 : decode cX8_here 23 = .ok (.ifCond .eq 7, 3) := by decide +kernel
theorem dX8_here_26 : decode cX8_here 26 = .ok (.iconst 2, 1) := by decide +kernel
theorem dX8_here_27 : decode cX8_here 27 = .ok (.goto 4, 3) := by decide +kernel
theorem dX8_here_30 : decode cX8_here 30 = .ok (.iconst 0, 1) := by decide +kernel
theorem dX8_here_31 : decode cX8_here 31 = .ok (.putfield 70, 3) := by decide +kernel
theorem dX8_here_34 : decode cX8_here 34 = .ok (.aload_n 0, 1) := by decide +kernel
theorem dX8_here_35 : decode cX8_here 35 = .ok (.aload_n 0, 1) := by decide +kernel
theorem dX8_here_36 : decode cX8_here 36 = .ok (.getfield 70, 3) := by decide +kernel
theorem dX8_here_39 : decode cX8_here 39 = .ok (.ifCond .le 10, 3) := by decide +kernel
theorem dX8_here_42 : decode cX8_here 42 = .ok (.aload_n 0, 1) := by decide +kernel
theorem dX8_here_43 : decode cX8_here 43 = .ok (.getfield 9, 3) := by decide +kernel
theorem dX8_here_46 : decode cX8_here 46 = .ok (.goto 4, 3) := by decide +kernel
theorem dX8_here_49 : decode cX8_here 49 = .ok (.lload_n 1, 1) := by decide +kernel
theorem dX8_here_50 : decode cX8_here 50 = .ok (.putfield 9, 3) := by decide +kernel
theorem dX8_here_53 : decode cX8_here 53 = .ok (.return_, 1) := by decide +kernel
theorem dX8_type_0 : decode cX8_type 0 = .ok (.aload_n 0, 1) := by decide +kernel
theorem dX8_type_1 : decode cX8_type 1 = .ok (.iload_n 3, 1) := by decide +kernel
theorem dX8_type_2 : decode cX8_type 2 = .ok (.iconst 1, 1) := by decide +kernel
theorem dX8_type_3 : decode cX8_type 3 = .ok (.if_icmp .lt 9, 3) := by decide +kernel
theorem dX8_type_6 : decode cX8_type 6 = .ok (.iload_n 3, 1) := by decide +kernel
theorem dX8_type_7 : decode cX8_type 7 = .ok (.bipush 8, 2) := by decide +kernel
theorem dX8_type_9 : decode cX8_type 9 = .ok (.if_icmp .le 7, 3) := by decide +kernel
theorem dX8_type_12 : decode cX8_type 12 = .ok (.iconst 1, 1) := by decide +kernel
theorem dX8_type_13 : decode cX8_type 13 = .ok (.goto 19, 3) := by decide +kernel
theorem dX8_type_16 : decode cX8_type 16 = .ok (.aload_n 0, 1) := by decide +kernel
theorem dX8_type_17 : decode cX8_type 17 = .ok (.getfield 78, 3) := by decide +kernel
theorem dX8_type_20 : decode cX8_type 20 = .ok (.iload_n 3, 1) := by decide +kernel
theorem dX8_type_21 : decode cX8_type 21 = .ok (.iadd, 1) := by decide +kernel
theorem dX8_type_22 : decode cX8_type 22 = .ok (.bipush 40, 2) := by decide +kernel
theorem dX8_type_24 : decode cX8_type 24 = .ok (.if_icmp .le 7, 3) := by decide +kernel
theorem dX8_type_27 : decode cX8_type 27 = .ok (.iconst 2, 1) := by decide +kernel
theorem dX8_type_28 : decode cX8_type 28 = .ok (.goto 4, 3) := by decide +kernel
theorem dX8_type_31 : decode cX8_type 31 = .ok (.iconst 0, 1) := by decide +kernel
theorem dX8_type_32 : decode cX8_type 32 = .ok (.putfield 70, 3) := by decide +kernel
theorem dX8_type_35 : decode cX8_type 35 = .ok (.aload_n 0, 1) := by decide +kernel
theorem dX8_type_36 : decode cX8_type 36 = .ok (.getfield 70, 3) := by decide +kernel
theorem dX8_type_39 : decode cX8_type 39 = .ok (.ifCond .le 5, 3) := by decide +kernel
theorem dX8_type_42 : decode cX8_type 42 = .ok (.iconst 0, 1) := by decide +kernel
theorem dX8_type_43 : decode cX8_type 43 = .ok (.ireturn, 1) := by decide +kernel
theorem dX8_type_44 : decode cX8_type 44 = .ok (.iconst 0, 1) := by decide +kernel
theorem dX8_type_45 : decode cX8_type 45 = .ok (.istore 4, 2) := by decide +kernel
theorem dX8_type_47 : decode cX8_type 47 = .ok (.iload 4, 2) := by decide +kernel
theorem dX8_type_49 : decode cX8_type 49 = .ok (.iload_n 3, 1) := by decide +kernel
theorem dX8_type_50 : decode cX8_type 50 = .ok (.if_icmp .ge 40, 3) := by decide +kernel
theorem dX8_type_53 : decode cX8_type 53 = .ok (.aload_n 0, 1) := by decide +kernel
theorem dX8_type_54 : decode cX8_type 54 = .ok (.getfield 19, 3) := by decide +kernel
theorem dX8_type_57 : decode cX8_type 57 = .ok (.aload_n 0, 1) := by decide +kernel
theorem dX8_type_58 : decode cX8_type 58 = .ok (.getfield 78, 3) := by decide +kernel
theorem dX8_type_61 : decode cX8_type 61 = .ok (.lload_n 1, 1) := by decide +kernel
theorem dX8_type_62 : decode cX8_type 62 = .ok (.bipush 8, 2) := by decide +kernel
theorem dX8_type_64 : decode cX8_type 64 = .ok (.iload 4, 2) := by decide +kernel
theorem dX8_type_66 : decode cX8_type 66 = .ok (.imul, 1) := by decide +kernel
theorem dX8_type_67 : decode cX8_type 67 = .ok (.lshr, 1) := by decide +kernel
theorem dX8_type_68 : decode cX8_type 68 = .ok (.l2i, 1) := by decide +kernel
theorem dX8_type_69 : decode cX8_type 69 = .ok (.sipush 255, 3) := by decide +kernel
theorem dX8_type_72 : decode cX8_type 72 = .ok (.iand, 1) := by decide +kernel
theorem dX8_type_73 : decode cX8_type 73 = .ok (.iastore, 1) := by decide +kernel
theorem dX8_type_74 : decode cX8_type 74 = .ok (.aload_n 0, 1) := by decide +kernel
theorem dX8_type_75 : decode cX8_type 75 = .ok (.dup, 1) := by decide +kernel
theorem dX8_type_76 : decode cX8_type 76 = .ok (.getfield 78, 3) := by decide +kernel
theorem dX8_type_79 : decode cX8_type 79 = .ok (.iconst 1, 1) := by decide +kernel
theorem dX8_type_80 : decode cX8_type 80 = .ok (.iadd, 1) := by decide +kernel
theorem dX8_type_81 : decode cX8_type 81 = .ok (.putfield 78, 3) := by decide +kernel
theorem dX8_type_84 : decode cX8_type 84 = .ok (.iinc 4 1, 3) := by decide +kernel
theorem dX8_type_87 : decode cX8_type 87 = .ok (.goto (-40), 3) := by decide +kernel
theorem dX8_type_90 : decode cX8_type 90 = .ok (.aload_n 0, 1) := by decide +kernel
theorem dX8_type_91 : decode cX8_type 91 = .ok (.getfield 78, 3) := by decide +kernel
theorem dX8_type_94 : decode cX8_type 94 = .ok (.ireturn, 1) := by decide +kernel
theorem dX8_byteOf_0 : decode cX8_byteOf 0 = .ok (.iload_n 0, 1) := by decide +kernel
theorem dX8_byteOf_1 : decode cX8_byteOf 1 = .ok (.bipush 6, 2) := by decide +kernel
theorem dX8_byteOf_3 : decode cX8_byteOf 3 = .ok (.if_icmp .ge 43, 3) := by decide +kernel
theorem dX8_byteOf_6 : decode cX8_byteOf 6 = .ok (.iload_n 0, 1) := by decide +kernel
theorem dX8_byteOf_7 : decode cX8_byteOf 7 = .ok (.iconst 1, 1) := by decide +kernel
theorem dX8_byteOf_8 : decode cX8_byteOf 8 = .ok (.if_icmp .ne 7, 3) := by decide +kernel
theorem dX8_byteOf_11 : decode cX8_byteOf 11 = .ok (.iconst 1, 1) := by decide +kernel
theorem dX8_byteOf_12 : decode cX8_byteOf 12 = .ok (.goto 33, 3) := by decide +kernel
theorem dX8_byteOf_15 : decode cX8_byteOf 15 = .ok (.iload_n 0, 1) := by decide +kernel
theorem dX8_byteOf_16 : decode cX8_byteOf 16 = .ok (.iconst 2, 1) := by decide +kernel
theorem dX8_byteOf_17 : decode cX8_byteOf 17 = .ok (.if_icmp .ne 8, 3) := by decide +kernel
theorem dX8_byteOf_20 : decode cX8_byteOf 20 = .ok (.bipush 8, 2) := by decide +kernel
theorem dX8_byteOf_22 : decode cX8_byteOf 22 = .ok (.goto 23, 3) := by decide +kernel
theorem dX8_byteOf_25 : decode cX8_byteOf 25 = .ok (.iload_n 0, 1) := by decide +kernel
theorem dX8_byteOf_26 : decode cX8_byteOf 26 = .ok (.iconst 4, 1) := by decide +kernel
theorem dX8_byteOf_27 : decode cX8_byteOf 27 = .ok (.if_icmp .ne 8, 3) := by decide +kernel
theorem dX8_byteOf_30 : decode cX8_byteOf 30 = .ok (.bipush 6, 2) := by decide +kernel
theorem dX8_byteOf_32 : decode cX8_byteOf 32 = .ok (.goto 13, 3) := by decide +kernel
theorem dX8_byteOf_35 : decode cX8_byteOf 35 = .ok (.iload_n 0, 1) := by decide +kernel
theorem dX8_byteOf_36 : decode cX8_byteOf 36 = .ok (.iconst 5, 1) := by decide +kernel
theorem dX8_byteOf_37 : decode cX8_byteOf 37 = .ok (.if_icmp .ne 7, 3) := by decide +kernel
theorem dX8_byteOf_40 : decode cX8_byteOf 40 = .ok (.iconst 4, 1) := by decide +kernel
theorem dX8_byteOf_41 : decode cX8_byteOf 41 = .ok (.goto 4, 3) := by decide +kernel
theorem dX8_byteOf_44 : decode cX8_byteOf 44 = .ok (.iconst 0, 1) := by decide +kernel
theorem dX8_byteOf_45 : decode cX8_byteOf 45 = .ok (.ireturn, 1) := by decide +kernel
theorem dX8_byteOf_46 : decode cX8_byteOf 46 = .ok (.iload_n 0, 1) := by decide +kernel
theorem dX8_byteOf_47 : decode cX8_byteOf 47 = .ok (.bipush 8, 2) := by decide +kernel
theorem dX8_byteOf_49 : decode cX8_byteOf 49 = .ok (.if_icmp .ge 17, 3) := by decide +kernel
theorem dX8_byteOf_52 : decode cX8_byteOf 52 = .ok (.iload_n 1, 1) := by decide +kernel
theorem dX8_byteOf_53 : decode cX8_byteOf 53 = .ok (.bipush 8, 2) := by decide +kernel
theorem dX8_byteOf_55 : decode cX8_byteOf 55 = .ok (.bipush 7, 2) := by decide +kernel
theorem dX8_byteOf_57 : decode cX8_byteOf 57 = .ok (.iload_n 0, 1) := by decide +kernel
theorem dX8_byteOf_58 : decode cX8_byteOf 58 = .ok (.isub, 1) := by decide +kernel
theorem dX8_byteOf_59 : decode cX8_byteOf 59 = .ok (.imul, 1) := by decide +kernel
theorem dX8_byteOf_60 : decode cX8_byteOf 60 = .ok (.ishr, 1) := by decide +kernel
theorem dX8_byteOf_61 : decode cX8_byteOf 61 = .ok (.sipush 255, 3) := by decide +kernel
theorem dX8_byteOf_64 : decode cX8_byteOf 64 = .ok (.iand, 1) := by decide +kernel
theorem dX8_byteOf_65 : decode cX8_byteOf 65 = .ok (.ireturn, 1) := by decide +kernel
theorem dX8_byteOf_66 : decode cX8_byteOf 66 = .ok (.iload_n 0, 1) := by decide +kernel
theorem dX8_byteOf_67 : decode cX8_byteOf 67 = .ok (.bipush 14, 2) := by decide +kernel
theorem dX8_byteOf_69 : decode cX8_byteOf 69 = .ok (.if_icmp .ge 18, 3) := by decide +kernel
theorem dX8_byteOf_72 : decode cX8_byteOf 72 = .ok (.lload_n 2, 1) := by decide +kernel
theorem dX8_byteOf_73 : decode cX8_byteOf 73 = .ok (.bipush 8, 2) := by decide +kernel
theorem dX8_byteOf_75 : decode cX8_byteOf 75 = .ok (.bipush 13, 2) := by decide +kernel
theorem dX8_byteOf_77 : decode cX8_byteOf 77 = .ok (.iload_n 0, 1) := by decide +kernel
theorem dX8_byteOf_78 : decode cX8_byteOf 78 = .ok (.isub, 1) := by decide +kernel
theorem dX8_byteOf_79 : decode cX8_byteOf 79 = .ok (.imul, 1) := by decide +kernel
theorem dX8_byteOf_80 : decode cX8_byteOf 80 = .ok (.lshr, 1) := by decide +kernel
theorem dX8_byteOf_81 : decode cX8_byteOf 81 = .ok (.l2i, 1) := by decide +kernel
theorem dX8_byteOf_82 : decode cX8_byteOf 82 = .ok (.sipush 255, 3) := by decide +kernel
theorem dX8_byteOf_85 : decode cX8_byteOf 85 = .ok (.iand, 1) := by decide +kernel
theorem dX8_byteOf_86 : decode cX8_byteOf 86 = .ok (.ireturn, 1) := by decide +kernel
theorem dX8_byteOf_87 : decode cX8_byteOf 87 = .ok (.iload_n 0, 1) := by decide +kernel
theorem dX8_byteOf_88 : decode cX8_byteOf 88 = .ok (.bipush 18, 2) := by decide +kernel
theorem dX8_byteOf_90 : decode cX8_byteOf 90 = .ok (.if_icmp .ge 18, 3) := by decide +kernel
theorem dX8_byteOf_93 : decode cX8_byteOf 93 = .ok (.iload 4, 2) := by decide +kernel
theorem dX8_byteOf_95 : decode cX8_byteOf 95 = .ok (.bipush 8, 2) := by decide +kernel
theorem dX8_byteOf_97 : decode cX8_byteOf 97 = .ok (.bipush 17, 2) := by decide +kernel
theorem dX8_byteOf_99 : decode cX8_byteOf 99 = .ok (.iload_n 0, 1) := by decide +kernel
theorem dX8_byteOf_100 : decode cX8_byteOf 100 = .ok (.isub, 1) := by decide +kernel
theorem dX8_byteOf_101 : decode cX8_byteOf 101 = .ok (.imul, 1) := by decide +kernel
theorem dX8_byteOf_102 : decode cX8_byteOf 102 = .ok (.ishr, 1) := by decide +kernel
theorem dX8_byteOf_103 : decode cX8_byteOf 103 = .ok (.sipush 255, 3) := by decide +kernel
theorem dX8_byteOf_106 : decode cX8_byteOf 106 = .ok (.iand, 1) := by decide +kernel
theorem dX8_byteOf_107 : decode cX8_byteOf 107 = .ok (.ireturn, 1) := by decide +kernel
theorem dX8_byteOf_108 : decode cX8_byteOf 108 = .ok (.iload_n 0, 1) := by decide +kernel
theorem dX8_byteOf_109 : decode cX8_byteOf 109 = .ok (.bipush 24, 2) := by decide +kernel
theorem dX8_byteOf_111 : decode cX8_byteOf 111 = .ok (.if_icmp .ge 21, 3) := by decide +kernel
theorem dX8_byteOf_114 : decode cX8_byteOf 114 = .ok (.lload 5, 2) := by decide +kernel
theorem dX8_byteOf_116 : decode cX8_byteOf 116 = .ok (.bipush 8, 2) := by decide +kernel
theorem dX8_byteOf_118 : decode cX8_byteOf 118 = .ok (.bipush 23, 2) := by decide +kernel
theorem dX8_byteOf_120 : decode cX8_byteOf 120 = .ok (.iload_n 0, 1) := by decide +kernel
theorem dX8_byteOf_121 : decode cX8_byteOf 121 = .ok (.isub, 1) := by decide +kernel
theorem dX8_byteOf_122 : decode cX8_byteOf 122 = .ok (.imul, 1) := by decide +kernel
theorem dX8_byteOf_123 : decode cX8_byteOf 123 = .ok (.lshr, 1) := by decide +kernel
theorem dX8_byteOf_124 : decode cX8_byteOf 124 = .ok (.l2i, 1) := by decide +kernel
theorem dX8_byteOf_125 : decode cX8_byteOf 125 = .ok (.sipush 255, 3) := by decide +kernel
theorem dX8_byteOf_128 : decode cX8_byteOf 128 = .ok (.iand, 1) := by decide +kernel
theorem dX8_byteOf_129 : decode cX8_byteOf 129 = .ok (.goto 17, 3) := by decide +kernel
theorem dX8_byteOf_132 : decode cX8_byteOf 132 = .ok (.iload 7, 2) := by decide +kernel
theorem dX8_byteOf_134 : decode cX8_byteOf 134 = .ok (.bipush 8, 2) := by decide +kernel
theorem dX8_byteOf_136 : decode cX8_byteOf 136 = .ok (.bipush 27, 2) := by decide +kernel
theorem dX8_byteOf_138 : decode cX8_byteOf 138 = .ok (.iload_n 0, 1) := by decide +kernel
theorem dX8_byteOf_139 : decode cX8_byteOf 139 = .ok (.isub, 1) := by decide +kernel
theorem dX8_byteOf_140 : decode cX8_byteOf 140 = .ok (.imul, 1) := by decide +kernel
theorem dX8_byteOf_141 : decode cX8_byteOf 141 = .ok (.ishr, 1) := by decide +kernel
theorem dX8_byteOf_142 : decode cX8_byteOf 142 = .ok (.sipush 255, 3) := by decide +kernel
theorem dX8_byteOf_145 : decode cX8_byteOf 145 = .ok (.iand, 1) := by decide +kernel
theorem dX8_byteOf_146 : decode cX8_byteOf 146 = .ok (.ireturn, 1) := by decide +kernel
theorem dX8_pack_0 : decode cX8_pack 0 = .ok (.aload_n 0, 1) := by decide +kernel
theorem dX8_pack_1 : decode cX8_pack 1 = .ok (.iconst 0, 1) := by decide +kernel
theorem dX8_pack_2 : decode cX8_pack 2 = .ok (.putfield 70, 3) := by decide +kernel
theorem dX8_pack_5 : decode cX8_pack 5 = .ok (.aload_n 0, 1) := by decide +kernel
theorem dX8_pack_6 : decode cX8_pack 6 = .ok (.bipush 28, 2) := by decide +kernel
theorem dX8_pack_8 : decode cX8_pack 8 = .ok (.putfield 78, 3) := by decide +kernel
theorem dX8_pack_11 : decode cX8_pack 11 = .ok (.iconst 0, 1) := by decide +kernel
theorem dX8_pack_12 : decode cX8_pack 12 = .ok (.istore 8, 2) := by decide +kernel
theorem dX8_pack_14 : decode cX8_pack 14 = .ok (.iload 8, 2) := by decide +kernel
theorem dX8_pack_16 : decode cX8_pack 16 = .ok (.bipush 28, 2) := by decide +kernel
theorem dX8_pack_18 : decode cX8_pack 18 = .ok (.if_icmp .ge 29, 3) := by decide +kernel
theorem dX8_pack_21 : decode cX8_pack 21 = .ok (.aload_n 0, 1) := by decide +kernel
theorem dX8_pack_22 : decode cX8_pack 22 = .ok (.getfield 19, 3) := by decide +kernel
theorem dX8_pack_25 : decode cX8_pack 25 = .ok (.iload 8, 2) := by decide +kernel
theorem dX8_pack_27 : decode cX8_pack 27 = .ok (.iload 8, 2) := by decide +kernel
theorem dX8_pack_29 : decode cX8_pack 29 = .ok (.iload_n 1, 1) := by decide +kernel
theorem dX8_pack_30 : decode cX8_pack 30 = .ok (.lload_n 2, 1) := by decide +kernel
theorem dX8_pack_31 : decode cX8_pack 31 = .ok (.iload 4, 2) := by decide +kernel
theorem dX8_pack_33 : decode cX8_pack 33 = .ok (.lload 5, 2) := by decide +kernel
theorem dX8_pack_35 : decode cX8_pack 35 = .ok (.iload 7, 2) := by decide +kernel
theorem dX8_pack_37 : decode cX8_pack 37 = .ok (.invokestatic 81, 3) := by decide +kernel
theorem dX8_pack_40 : decode cX8_pack 40 = .ok (.iastore, 1) := by decide +kernel
theorem dX8_pack_41 : decode cX8_pack 41 = .ok (.iinc 8 1, 3) := by decide +kernel
theorem dX8_pack_44 : decode cX8_pack 44 = .ok (.goto (-30), 3) := by decide +kernel
theorem dX8_pack_47 : decode cX8_pack 47 = .ok (.return_, 1) := by decide +kernel
theorem dX8_number_0 : decode cX8_number 0 = .ok (.lconst 0, 1) := by decide +kernel
theorem dX8_number_1 : decode cX8_number 1 = .ok (.lstore_n 3, 1) := by decide +kernel
theorem dX8_number_2 : decode cX8_number 2 = .ok (.iconst 0, 1) := by decide +kernel
theorem dX8_number_3 : decode cX8_number 3 = .ok (.istore 5, 2) := by decide +kernel
theorem dX8_number_5 : decode cX8_number 5 = .ok (.iload 5, 2) := by decide +kernel
theorem dX8_number_7 : decode cX8_number 7 = .ok (.iload_n 2, 1) := by decide +kernel
theorem dX8_number_8 : decode cX8_number 8 = .ok (.if_icmp .ge 25, 3) := by decide +kernel
theorem dX8_number_11 : decode cX8_number 11 = .ok (.lload_n 3, 1) := by decide +kernel
theorem dX8_number_12 : decode cX8_number 12 = .ok (.bipush 8, 2) := by decide +kernel
theorem dX8_number_14 : decode cX8_number 14 = .ok (.lshl, 1) := by decide +kernel
theorem dX8_number_15 : decode cX8_number 15 = .ok (.aload_n 0, 1) := by decide +kernel
theorem dX8_number_16 : decode cX8_number 16 = .ok (.getfield 19, 3) := by decide +kernel
theorem dX8_number_19 : decode cX8_number 19 = .ok (.iload_n 1, 1) := by decide +kernel
theorem dX8_number_20 : decode cX8_number 20 = .ok (.iload 5, 2) := by decide +kernel
theorem dX8_number_22 : decode cX8_number 22 = .ok (.iadd, 1) := by decide +kernel
theorem dX8_number_23 : decode cX8_number 23 = .ok (.iaload, 1) := by decide +kernel
theorem dX8_number_24 : decode cX8_number 24 = .ok (.i2l, 1) := by decide +kernel
theorem dX8_number_25 : decode cX8_number 25 = .ok (.lor, 1) := by decide +kernel
theorem dX8_number_26 : decode cX8_number 26 = .ok (.lstore_n 3, 1) := by decide +kernel
theorem dX8_number_27 : decode cX8_number 27 = .ok (.iinc 5 1, 3) := by decide +kernel
theorem dX8_number_30 : decode cX8_number 30 = .ok (.goto (-25), 3) := by decide +kernel
theorem dX8_number_33 : decode cX8_number 33 = .ok (.lload_n 3, 1) := by decide +kernel
theorem dX8_number_34 : decode cX8_number 34 = .ok (.lreturn, 1) := by decide +kernel
theorem dX8_address_0 : decode cX8_address 0 = .ok (.aload_n 0, 1) := by decide +kernel
theorem dX8_address_1 : decode cX8_address 1 = .ok (.iload_n 1, 1) := by decide +kernel
theorem dX8_address_2 : decode cX8_address 2 = .ok (.iconst 4, 1) := by decide +kernel
theorem dX8_address_3 : decode cX8_address 3 = .ok (.invokevirtual 85, 3) := by decide +kernel
theorem dX8_address_6 : decode cX8_address 6 = .ok (.l2i, 1) := by decide +kernel
theorem dX8_address_7 : decode cX8_address 7 = .ok (.ireturn, 1) := by decide +kernel
theorem dX8_sendPacket_0 : decode cX8_sendPacket 0 = .ok (.aload_n 0, 1) := by decide +kernel
theorem dX8_sendPacket_1 : decode cX8_sendPacket 1 = .ok (.getfield 89, 3) := by decide +kernel
theorem dX8_sendPacket_4 : decode cX8_sendPacket 4 = .ok (.bipush 100, 2) := by decide +kernel
theorem dX8_sendPacket_6 : decode cX8_sendPacket 6 = .ok (.irem, 1) := by decide +kernel
theorem dX8_sendPacket_7 : decode cX8_sendPacket 7 = .ok (.istore 8, 2) := by decide +kernel
theorem dX8_sendPacket_9 : decode cX8_sendPacket 9 = .ok (.aload_n 0, 1) := by decide +kernel
theorem dX8_sendPacket_10 : decode cX8_sendPacket 10 = .ok (.getfield 45, 3) := by decide +kernel
theorem dX8_sendPacket_13 : decode cX8_sendPacket 13 = .ok (.iload 8, 2) := by decide +kernel
theorem dX8_sendPacket_15 : decode cX8_sendPacket 15 = .ok (.lload_n 1, 1) := by decide +kernel
theorem dX8_sendPacket_16 : decode cX8_sendPacket 16 = .ok (.lastore, 1) := by decide +kernel
theorem dX8_sendPacket_17 : decode cX8_sendPacket 17 = .ok (.aload_n 0, 1) := by decide +kernel
theorem dX8_sendPacket_18 : decode cX8_sendPacket 18 = .ok (.getfield 51, 3) := by decide +kernel
theorem dX8_sendPacket_21 : decode cX8_sendPacket 21 = .ok (.iload 8, 2) := by decide +kernel
theorem dX8_sendPacket_23 : decode cX8_sendPacket 23 = .ok (.iconst 1, 1) := by decide +kernel
theorem dX8_sendPacket_24 : decode cX8_sendPacket 24 = .ok (.bastore, 1) := by decide +kernel
theorem dX8_sendPacket_25 : decode cX8_sendPacket 25 = .ok (.iconst 0, 1) := by decide +kernel
theorem dX8_sendPacket_26 : decode cX8_sendPacket 26 = .ok (.istore 9, 2) := by decide +kernel
theorem dX8_sendPacket_28 : decode cX8_sendPacket 28 = .ok (.iload 9, 2) := by decide +kernel
theorem dX8_sendPacket_30 : decode cX8_sendPacket 30 = .ok (.bipush 28, 2) := by decide +kernel
theorem dX8_sendPacket_32 : decode cX8_sendPacket 32 = .ok (.if_icmp .ge 38, 3) := by decide +kernel
theorem dX8_sendPacket_35 : decode cX8_sendPacket 35 = .ok (.aload_n 0, 1) := by decide +kernel
theorem dX8_sendPacket_36 : decode cX8_sendPacket 36 = .ok (.getfield 55, 3) := by decide +kernel
theorem dX8_sendPacket_39 : decode cX8_sendPacket 39 = .ok (.bipush 28, 2) := by decide +kernel
theorem dX8_sendPacket_41 : decode cX8_sendPacket 41 = .ok (.iload 8, 2) := by decide +kernel
theorem dX8_sendPacket_43 : decode cX8_sendPacket 43 = .ok (.imul, 1) := by decide +kernel
theorem dX8_sendPacket_44 : decode cX8_sendPacket 44 = .ok (.iload 9, 2) := by decide +kernel
theorem dX8_sendPacket_46 : decode cX8_sendPacket 46 = .ok (.iadd, 1) := by decide +kernel
theorem dX8_sendPacket_47 : decode cX8_sendPacket 47 = .ok (.iload 9, 2) := by decide +kernel
theorem dX8_sendPacket_49 : decode cX8_sendPacket 49 = .ok (.iload_n 3, 1) := by decide +kernel
theorem dX8_sendPacket_50 : decode cX8_sendPacket 50 = .ok (.aload_n 0, 1) := by decide +kernel
theorem dX8_sendPacket_51 : decode cX8_sendPacket 51 = .ok (.getfield 9, 3) := by decide +kernel
theorem dX8_sendPacket_54 : decode cX8_sendPacket 54 = .ok (.iload 4, 2) := by decide +kernel
theorem dX8_sendPacket_56 : decode cX8_sendPacket 56 = .ok (.lload 5, 2) := by decide +kernel
theorem dX8_sendPacket_58 : decode cX8_sendPacket 58 = .ok (.iload 7, 2) := by decide +kernel
theorem dX8_sendPacket_60 : decode cX8_sendPacket 60 = .ok (.invokestatic 81, 3) := by decide +kernel
theorem dX8_sendPacket_63 : decode cX8_sendPacket 63 = .ok (.iastore, 1) := by decide +kernel
theorem dX8_sendPacket_64 : decode cX8_sendPacket 64 = .ok (.iinc 9 1, 3) := by decide +kernel
theorem dX8_sendPacket_67 : decode cX8_sendPacket 67 = .ok (.goto (-39), 3) := by decide +kernel
theorem dX8_sendPacket_70 : decode cX8_sendPacket 70 = .ok (.aload_n 0, 1) := by decide +kernel
theorem dX8_sendPacket_71 : decode cX8_sendPacket 71 = .ok (.dup, 1) := by decide +kernel
theorem dX8_sendPacket_72 : decode cX8_sendPacket 72 = .ok (.getfield 89, 3) := by decide +kernel
theorem dX8_sendPacket_75 : decode cX8_sendPacket 75 = .ok (.iconst 1, 1) := by decide +kernel
theorem dX8_sendPacket_76 : decode cX8_sendPacket 76 = .ok (.iadd, 1) := by decide +kernel
theorem dX8_sendPacket_77 : decode cX8_sendPacket 77 = .ok (.putfield 89, 3) := by decide +kernel
theorem dX8_sendPacket_80 : decode cX8_sendPacket 80 = .ok (.return_, 1) := by decide +kernel
theorem dX8_sendData_0 : decode cX8_sendData 0 = .ok (.aload_n 0, 1) := by decide +kernel
theorem dX8_sendData_1 : decode cX8_sendData 1 = .ok (.getfield 89, 3) := by decide +kernel
theorem dX8_sendData_4 : decode cX8_sendData 4 = .ok (.bipush 100, 2) := by decide +kernel
theorem dX8_sendData_6 : decode cX8_sendData 6 = .ok (.irem, 1) := by decide +kernel
theorem dX8_sendData_7 : decode cX8_sendData 7 = .ok (.istore 4, 2) := by decide +kernel
theorem dX8_sendData_9 : decode cX8_sendData 9 = .ok (.aload_n 0, 1) := by decide +kernel
theorem dX8_sendData_10 : decode cX8_sendData 10 = .ok (.getfield 45, 3) := by decide +kernel
theorem dX8_sendData_13 : decode cX8_sendData 13 = .ok (.iload 4, 2) := by decide +kernel
theorem dX8_sendData_15 : decode cX8_sendData 15 = .ok (.lload_n 1, 1) := by decide +kernel
theorem dX8_sendData_16 : decode cX8_sendData 16 = .ok (.lastore, 1) := by decide +kernel
theorem dX8_sendData_17 : decode cX8_sendData 17 = .ok (.aload_n 0, 1) := by decide +kernel
theorem dX8_sendData_18 : decode cX8_sendData 18 = .ok (.getfield 51, 3) := by decide +kernel
theorem dX8_sendData_21 : decode cX8_sendData 21 = .ok (.iload 4, 2) := by decide +kernel
theorem dX8_sendData_23 : decode cX8_sendData 23 = .ok (.iconst 0, 1) := by decide +kernel
theorem dX8_sendData_24 : decode cX8_sendData 24 = .ok (.bastore, 1) := by decide +kernel
theorem dX8_sendData_25 : decode cX8_sendData 25 = .ok (.aload_n 0, 1) := by decide +kernel
theorem dX8_sendData_26 : decode cX8_sendData 26 = .ok (.getfield 48, 3) := by decide +kernel
theorem dX8_sendData_29 : decode cX8_sendData 29 = .ok (.iload 4, 2) := by decide +kernel
theorem dX8_sendData_31 : decode cX8_sendData 31 = .ok (.iload_n 3, 1) := by decide +kernel
theorem dX8_sendData_32 : decode cX8_sendData 32 = .ok (.iastore, 1) := by decide +kernel
theorem dX8_sendData_33 : decode cX8_sendData 33 = .ok (.aload_n 0, 1) := by decide +kernel
theorem dX8_sendData_34 : decode cX8_sendData 34 = .ok (.dup, 1) := by decide +kernel
theorem dX8_sendData_35 : decode cX8_sendData 35 = .ok (.getfield 89, 3) := by decide +kernel
theorem dX8_sendData_38 : decode cX8_sendData 38 = .ok (.iconst 1, 1) := by decide +kernel
theorem dX8_sendData_39 : decode cX8_sendData 39 = .ok (.iadd, 1) := by decide +kernel
theorem dX8_sendData_40 : decode cX8_sendData 40 = .ok (.putfield 89, 3) := by decide +kernel
theorem dX8_sendData_43 : decode cX8_sendData 43 = .ok (.return_, 1) := by decide +kernel
theorem dX8_request_0 : decode cX8_request 0 = .ok (.aload_n 0, 1) := by decide +kernel
theorem dX8_request_1 : decode cX8_request 1 = .ok (.lload_n 1, 1) := by decide +kernel
theorem dX8_request_2 : decode cX8_request 2 = .ok (.iconst 1, 1) := by decide +kernel
theorem dX8_request_3 : decode cX8_request 3 = .ok (.aload_n 0, 1) := by decide +kernel
theorem dX8_request_4 : decode cX8_request 4 = .ok (.getfield 92, 3) := by decide +kernel
theorem dX8_request_7 : decode cX8_request 7 = .ok (.lconst 0, 1) := by decide +kernel
theorem dX8_request_8 : decode cX8_request 8 = .ok (.iload_n 3, 1) := by decide +kernel
theorem dX8_request_9 : decode cX8_request 9 = .ok (.invokevirtual 95, 3) := by decide +kernel
theorem dX8_request_12 : decode cX8_request 12 = .ok (.return_, 1) := by decide +kernel
theorem dX8_probe_0 : decode cX8_probe 0 = .ok (.aload_n 0, 1) := by decide +kernel
theorem dX8_probe_1 : decode cX8_probe 1 = .ok (.ldc2_w 99, 3) := by decide +kernel
theorem dX8_probe_4 : decode cX8_probe 4 = .ok (.iconst 1, 1) := by decide +kernel
theorem dX8_probe_5 : decode cX8_probe 5 = .ok (.iconst 0, 1) := by decide +kernel
theorem dX8_probe_6 : decode cX8_probe 6 = .ok (.lconst 0, 1) := by decide +kernel
theorem dX8_probe_7 : decode cX8_probe 7 = .ok (.aload_n 0, 1) := by decide +kernel
theorem dX8_probe_8 : decode cX8_probe 8 = .ok (.getfield 92, 3) := by decide +kernel
theorem dX8_probe_11 : decode cX8_probe 11 = .ok (.invokevirtual 95, 3) := by decide +kernel
theorem dX8_probe_14 : decode cX8_probe 14 = .ok (.return_, 1) := by decide +kernel
theorem dX8_lose_0 : decode cX8_lose 0 = .ok (.aload_n 0, 1) := by decide +kernel
theorem dX8_lose_1 : decode cX8_lose 1 = .ok (.getfield 58, 3) := by decide +kernel
theorem dX8_lose_4 : decode cX8_lose 4 = .ok (.aload_n 0, 1) := by decide +kernel
theorem dX8_lose_5 : decode cX8_lose 5 = .ok (.getfield 101, 3) := by decide +kernel
theorem dX8_lose_8 : decode cX8_lose 8 = .ok (.bipush 100, 2) := by decide +kernel
theorem dX8_lose_10 : decode cX8_lose 10 = .ok (.irem, 1) := by decide +kernel
theorem dX8_lose_11 : decode cX8_lose 11 = .ok (.iload_n 1, 1) := by decide +kernel
theorem dX8_lose_12 : decode cX8_lose 12 = .ok (.iastore, 1) := by decide +kernel
theorem dX8_lose_13 : decode cX8_lose 13 = .ok (.aload_n 0, 1) := by decide +kernel
theorem dX8_lose_14 : decode cX8_lose 14 = .ok (.dup, 1) := by decide +kernel
theorem dX8_lose_15 : decode cX8_lose 15 = .ok (.getfield 101, 3) := by decide +kernel
theorem dX8_lose_18 : decode cX8_lose 18 = .ok (.iconst 1, 1) := by decide +kernel
theorem dX8_lose_19 : decode cX8_lose 19 = .ok (.iadd, 1) := by decide +kernel
theorem dX8_lose_20 : decode cX8_lose 20 = .ok (.putfield 101, 3) := by decide +kernel
theorem dX8_lose_23 : decode cX8_lose 23 = .ok (.return_, 1) := by decide +kernel
theorem dX8_find_0 : decode cX8_find 0 = .ok (.iconst (-1), 1) := by decide +kernel
theorem dX8_find_1 : decode cX8_find 1 = .ok (.istore_n 2, 1) := by decide +kernel
theorem dX8_find_2 : decode cX8_find 2 = .ok (.iconst 0, 1) := by decide +kernel
theorem dX8_find_3 : decode cX8_find 3 = .ok (.istore_n 3, 1) := by decide +kernel
theorem dX8_find_4 : decode cX8_find 4 = .ok (.iload_n 3, 1) := by decide +kernel
theorem dX8_find_5 : decode cX8_find 5 = .ok (.aload_n 0, 1) := by decide +kernel
theorem dX8_find_6 : decode cX8_find 6 = .ok (.getfield 104, 3) := by decide +kernel
theorem dX8_find_9 : decode cX8_find 9 = .ok (.if_icmp .ge 25, 3) := by decide +kernel
theorem dX8_find_12 : decode cX8_find 12 = .ok (.aload_n 0, 1) := by decide +kernel
theorem dX8_find_13 : decode cX8_find 13 = .ok (.getfield 23, 3) := by decide +kernel
theorem dX8_find_16 : decode cX8_find 16 = .ok (.iload_n 3, 1) := by decide +kernel
theorem dX8_find_17 : decode cX8_find 17 = .ok (.iaload, 1) := by decide +kernel
theorem dX8_find_18 : decode cX8_find 18 = .ok (.iload_n 1, 1) := by decide +kernel
theorem dX8_find_19 : decode cX8_find 19 = .ok (.if_icmp .ne 7, 3) := by decide +kernel
theorem dX8_find_22 : decode cX8_find 22 = .ok (.iload_n 3, 1) := by decide +kernel
theorem dX8_find_23 : decode cX8_find 23 = .ok (.goto 4, 3) := by decide +kernel
theorem dX8_find_26 : decode cX8_find 26 = .ok (.iload_n 2, 1) := by decide +kernel
theorem dX8_find_27 : decode cX8_find 27 = .ok (.istore_n 2, 1) := by decide +kernel
theorem dX8_find_28 : decode cX8_find 28 = .ok (.iinc 3 1, 3) := by decide +kernel
theorem dX8_find_31 : decode cX8_find 31 = .ok (.goto (-27), 3) := by decide +kernel
theorem dX8_find_34 : decode cX8_find 34 = .ok (.iload_n 2, 1) := by decide +kernel
theorem dX8_find_35 : decode cX8_find 35 = .ok (.ireturn, 1) := by decide +kernel
theorem dX8_move_0 : decode cX8_move 0 = .ok (.aload_n 0, 1) := by decide +kernel
theorem dX8_move_1 : decode cX8_move 1 = .ok (.getfield 23, 3) := by decide +kernel
theorem dX8_move_4 : decode cX8_move 4 = .ok (.iload_n 2, 1) := by decide +kernel
theorem dX8_move_5 : decode cX8_move 5 = .ok (.aload_n 0, 1) := by decide +kernel
theorem dX8_move_6 : decode cX8_move 6 = .ok (.getfield 23, 3) := by decide +kernel
theorem dX8_move_9 : decode cX8_move 9 = .ok (.iload_n 1, 1) := by decide +kernel
theorem dX8_move_10 : decode cX8_move 10 = .ok (.iaload, 1) := by decide +kernel
theorem dX8_move_11 : decode cX8_move 11 = .ok (.iastore, 1) := by decide +kernel
theorem dX8_move_12 : decode cX8_move 12 = .ok (.aload_n 0, 1) := by decide +kernel
theorem dX8_move_13 : decode cX8_move 13 = .ok (.getfield 26, 3) := by decide +kernel
theorem dX8_move_16 : decode cX8_move 16 = .ok (.iload_n 2, 1) := by decide +kernel
theorem dX8_move_17 : decode cX8_move 17 = .ok (.aload_n 0, 1) := by decide +kernel
theorem dX8_move_18 : decode cX8_move 18 = .ok (.getfield 26, 3) := by decide +kernel
theorem dX8_move_21 : decode cX8_move 21 = .ok (.iload_n 1, 1) := by decide +kernel
theorem dX8_move_22 : decode cX8_move 22 = .ok (.iaload, 1) := by decide +kernel
theorem dX8_move_23 : decode cX8_move 23 = .ok (.iastore, 1) := by decide +kernel
theorem dX8_move_24 : decode cX8_move 24 = .ok (.aload_n 0, 1) := by decide +kernel
theorem dX8_move_25 : decode cX8_move 25 = .ok (.getfield 29, 3) := by decide +kernel
theorem dX8_move_28 : decode cX8_move 28 = .ok (.iload_n 2, 1) := by decide +kernel
theorem dX8_move_29 : decode cX8_move 29 = .ok (.aload_n 0, 1) := by decide +kernel
theorem dX8_move_30 : decode cX8_move 30 = .ok (.getfield 29, 3) := by decide +kernel
theorem dX8_move_33 : decode cX8_move 33 = .ok (.iload_n 1, 1) := by decide +kernel
theorem dX8_move_34 : decode cX8_move 34 = .ok (.laload, 1) := by decide +kernel
theorem dX8_move_35 : decode cX8_move 35 = .ok (.lastore, 1) := by decide +kernel
theorem dX8_move_36 : decode cX8_move 36 = .ok (.aload_n 0, 1) := by decide +kernel
theorem dX8_move_37 : decode cX8_move 37 = .ok (.getfield 33, 3) := by decide +kernel
theorem dX8_move_40 : decode cX8_move 40 = .ok (.iload_n 2, 1) := by decide +kernel
theorem dX8_move_41 : decode cX8_move 41 = .ok (.aload_n 0, 1) := by decide +kernel
theorem dX8_move_42 : decode cX8_move 42 = .ok (.getfield 33, 3) := by decide +kernel
theorem dX8_move_45 : decode cX8_move 45 = .ok (.iload_n 1, 1) := by decide +kernel
theorem dX8_move_46 : decode cX8_move 46 = .ok (.iaload, 1) := by decide +kernel
theorem dX8_move_47 : decode cX8_move 47 = .ok (.iastore, 1) := by decide +kernel
theorem dX8_move_48 : decode cX8_move 48 = .ok (.aload_n 0, 1) := by decide +kernel
theorem dX8_move_49 : decode cX8_move 49 = .ok (.getfield 36, 3) := by decide +kernel
theorem dX8_move_52 : decode cX8_move 52 = .ok (.iload_n 2, 1) := by decide +kernel
theorem dX8_move_53 : decode cX8_move 53 = .ok (.aload_n 0, 1) := by decide +kernel
theorem dX8_move_54 : decode cX8_move 54 = .ok (.getfield 36, 3) := by decide +kernel
theorem dX8_move_57 : decode cX8_move 57 = .ok (.iload_n 1, 1) := by decide +kernel
theorem dX8_move_58 : decode cX8_move 58 = .ok (.iaload, 1) := by decide +kernel
theorem dX8_move_59 : decode cX8_move 59 = .ok (.iastore, 1) := by decide +kernel
theorem dX8_move_60 : decode cX8_move 60 = .ok (.aload_n 0, 1) := by decide +kernel
theorem dX8_move_61 : decode cX8_move 61 = .ok (.getfield 39, 3) := by decide +kernel
theorem dX8_move_64 : decode cX8_move 64 = .ok (.iload_n 2, 1) := by decide +kernel
theorem dX8_move_65 : decode cX8_move 65 = .ok (.aload_n 0, 1) := by decide +kernel
theorem dX8_move_66 : decode cX8_move 66 = .ok (.getfield 39, 3) := by decide +kernel
theorem dX8_move_69 : decode cX8_move 69 = .ok (.iload_n 1, 1) := by decide +kernel
theorem dX8_move_70 : decode cX8_move 70 = .ok (.iaload, 1) := by decide +kernel
theorem dX8_move_71 : decode cX8_move 71 = .ok (.iastore, 1) := by decide +kernel
theorem dX8_move_72 : decode cX8_move 72 = .ok (.iconst 0, 1) := by decide +kernel
theorem dX8_move_73 : decode cX8_move 73 = .ok (.istore_n 3, 1) := by decide +kernel
theorem dX8_move_74 : decode cX8_move 74 = .ok (.iload_n 3, 1) := by decide +kernel
theorem dX8_move_75 : decode cX8_move 75 = .ok (.iconst 4, 1) := by decide +kernel
theorem dX8_move_76 : decode cX8_move 76 = .ok (.if_icmp .ge 29, 3) := by decide +kernel
theorem dX8_move_79 : decode cX8_move 79 = .ok (.aload_n 0, 1) := by decide +kernel
theorem dX8_move_80 : decode cX8_move 80 = .ok (.getfield 42, 3) := by decide +kernel
theorem dX8_move_83 : decode cX8_move 83 = .ok (.iconst 4, 1) := by decide +kernel
theorem dX8_move_84 : decode cX8_move 84 = .ok (.iload_n 2, 1) := by decide +kernel
theorem dX8_move_85 : decode cX8_move 85 = .ok (.imul, 1) := by decide +kernel
theorem dX8_move_86 : decode cX8_move 86 = .ok (.iload_n 3, 1) := by decide +kernel
theorem dX8_move_87 : decode cX8_move 87 = .ok (.iadd, 1) := by decide +kernel
theorem dX8_move_88 : decode cX8_move 88 = .ok (.aload_n 0, 1) := by decide +kernel
theorem dX8_move_89 : decode cX8_move 89 = .ok (.getfield 42, 3) := by decide +kernel
theorem dX8_move_92 : decode cX8_move 92 = .ok (.iconst 4, 1) := by decide +kernel
theorem dX8_move_93 : decode cX8_move 93 = .ok (.iload_n 1, 1) := by decide +kernel
theorem dX8_move_94 : decode cX8_move 94 = .ok (.imul, 1) := by decide +kernel
theorem dX8_move_95 : decode cX8_move 95 = .ok (.iload_n 3, 1) := by decide +kernel
theorem dX8_move_96 : decode cX8_move 96 = .ok (.iadd, 1) := by decide +kernel
theorem dX8_move_97 : decode cX8_move 97 = .ok (.iaload, 1) := by decide +kernel
theorem dX8_move_98 : decode cX8_move 98 = .ok (.iastore, 1) := by decide +kernel
theorem dX8_move_99 : decode cX8_move 99 = .ok (.iinc 3 1, 3) := by decide +kernel
theorem dX8_move_102 : decode cX8_move 102 = .ok (.goto (-28), 3) := by decide +kernel
theorem dX8_move_105 : decode cX8_move 105 = .ok (.return_, 1) := by decide +kernel
theorem dX8_take_0 : decode cX8_take 0 = .ok (.aload_n 0, 1) := by decide +kernel
theorem dX8_take_1 : decode cX8_take 1 = .ok (.dup, 1) := by decide +kernel
theorem dX8_take_2 : decode cX8_take 2 = .ok (.getfield 104, 3) := by decide +kernel
theorem dX8_take_5 : decode cX8_take 5 = .ok (.iconst 1, 1) := by decide +kernel
theorem dX8_take_6 : decode cX8_take 6 = .ok (.isub, 1) := by decide +kernel
theorem dX8_take_7 : decode cX8_take 7 = .ok (.putfield 104, 3) := by decide +kernel
theorem dX8_take_10 : decode cX8_take 10 = .ok (.iload_n 1, 1) := by decide +kernel
theorem dX8_take_11 : decode cX8_take 11 = .ok (.istore_n 2, 1) := by decide +kernel
theorem dX8_take_12 : decode cX8_take 12 = .ok (.iload_n 2, 1) := by decide +kernel
theorem dX8_take_13 : decode cX8_take 13 = .ok (.aload_n 0, 1) := by decide +kernel
theorem dX8_take_14 : decode cX8_take 14 = .ok (.getfield 104, 3) := by decide +kernel
theorem dX8_take_17 : decode cX8_take 17 = .ok (.if_icmp .ge 17, 3) := by decide +kernel
theorem dX8_take_20 : decode cX8_take 20 = .ok (.aload_n 0, 1) := by decide +kernel
theorem dX8_take_21 : decode cX8_take 21 = .ok (.iload_n 2, 1) := by decide +kernel
theorem dX8_take_22 : decode cX8_take 22 = .ok (.iconst 1, 1) := by decide +kernel
theorem dX8_take_23 : decode cX8_take 23 = .ok (.iadd, 1) := by decide +kernel
theorem dX8_take_24 : decode cX8_take 24 = .ok (.iload_n 2, 1) := by decide +kernel
theorem dX8_take_25 : decode cX8_take 25 = .ok (.invokevirtual 107, 3) := by decide +kernel
theorem dX8_take_28 : decode cX8_take 28 = .ok (.iinc 2 1, 3) := by decide +kernel
theorem dX8_take_31 : decode cX8_take 31 = .ok (.goto (-19), 3) := by decide +kernel
theorem dX8_take_34 : decode cX8_take 34 = .ok (.return_, 1) := by decide +kernel
theorem dX8_goes_0 : decode cX8_goes 0 = .ok (.iconst 0, 1) := by decide +kernel
theorem dX8_goes_1 : decode cX8_goes 1 = .ok (.istore_n 2, 1) := by decide +kernel
theorem dX8_goes_2 : decode cX8_goes 2 = .ok (.iload_n 2, 1) := by decide +kernel
theorem dX8_goes_3 : decode cX8_goes 3 = .ok (.aload_n 0, 1) := by decide +kernel
theorem dX8_goes_4 : decode cX8_goes 4 = .ok (.getfield 39, 3) := by decide +kernel
theorem dX8_goes_7 : decode cX8_goes 7 = .ok (.iload_n 1, 1) := by decide +kernel
theorem dX8_goes_8 : decode cX8_goes 8 = .ok (.iaload, 1) := by decide +kernel
theorem dX8_goes_9 : decode cX8_goes 9 = .ok (.if_icmp .ge 23, 3) := by decide +kernel
theorem dX8_goes_12 : decode cX8_goes 12 = .ok (.aload_n 0, 1) := by decide +kernel
theorem dX8_goes_13 : decode cX8_goes 13 = .ok (.aload_n 0, 1) := by decide +kernel
theorem dX8_goes_14 : decode cX8_goes 14 = .ok (.getfield 42, 3) := by decide +kernel
theorem dX8_goes_17 : decode cX8_goes 17 = .ok (.iconst 4, 1) := by decide +kernel
theorem dX8_goes_18 : decode cX8_goes 18 = .ok (.iload_n 1, 1) := by decide +kernel
theorem dX8_goes_19 : decode cX8_goes 19 = .ok (.imul, 1) := by decide +kernel
theorem dX8_goes_20 : decode cX8_goes 20 = .ok (.iload_n 2, 1) := by decide +kernel
theorem dX8_goes_21 : decode cX8_goes 21 = .ok (.iadd, 1) := by decide +kernel
theorem dX8_goes_22 : decode cX8_goes 22 = .ok (.iaload, 1) := by decide +kernel
theorem dX8_goes_23 : decode cX8_goes 23 = .ok (.invokevirtual 111, 3) := by decide +kernel
theorem dX8_goes_26 : decode cX8_goes 26 = .ok (.iinc 2 1, 3) := by decide +kernel
theorem dX8_goes_29 : decode cX8_goes 29 = .ok (.goto (-27), 3) := by decide +kernel
theorem dX8_goes_32 : decode cX8_goes 32 = .ok (.aload_n 0, 1) := by decide +kernel
theorem dX8_goes_33 : decode cX8_goes 33 = .ok (.iload_n 1, 1) := by decide +kernel
theorem dX8_goes_34 : decode cX8_goes 34 = .ok (.invokevirtual 115, 3) := by decide +kernel
theorem dX8_goes_37 : decode cX8_goes 37 = .ok (.return_, 1) := by decide +kernel
theorem dX8_use_0 : decode cX8_use 0 = .ok (.aload_n 0, 1) := by decide +kernel
theorem dX8_use_1 : decode cX8_use 1 = .ok (.getfield 36, 3) := by decide +kernel
theorem dX8_use_4 : decode cX8_use 4 = .ok (.iload_n 1, 1) := by decide +kernel
theorem dX8_use_5 : decode cX8_use 5 = .ok (.aload_n 0, 1) := by decide +kernel
theorem dX8_use_6 : decode cX8_use 6 = .ok (.getfield 118, 3) := by decide +kernel
theorem dX8_use_9 : decode cX8_use 9 = .ok (.iastore, 1) := by decide +kernel
theorem dX8_use_10 : decode cX8_use 10 = .ok (.aload_n 0, 1) := by decide +kernel
theorem dX8_use_11 : decode cX8_use 11 = .ok (.iload_n 1, 1) := by decide +kernel
theorem dX8_use_12 : decode cX8_use 12 = .ok (.bipush 32, 2) := by decide +kernel
theorem dX8_use_14 : decode cX8_use 14 = .ok (.invokevirtual 107, 3) := by decide +kernel
theorem dX8_use_17 : decode cX8_use 17 = .ok (.aload_n 0, 1) := by decide +kernel
theorem dX8_use_18 : decode cX8_use 18 = .ok (.iload_n 1, 1) := by decide +kernel
theorem dX8_use_19 : decode cX8_use 19 = .ok (.invokevirtual 115, 3) := by decide +kernel
theorem dX8_use_22 : decode cX8_use 22 = .ok (.aload_n 0, 1) := by decide +kernel
theorem dX8_use_23 : decode cX8_use 23 = .ok (.bipush 32, 2) := by decide +kernel
theorem dX8_use_25 : decode cX8_use 25 = .ok (.aload_n 0, 1) := by decide +kernel
theorem dX8_use_26 : decode cX8_use 26 = .ok (.getfield 104, 3) := by decide +kernel
theorem dX8_use_29 : decode cX8_use 29 = .ok (.invokevirtual 107, 3) := by decide +kernel
theorem dX8_use_32 : decode cX8_use 32 = .ok (.aload_n 0, 1) := by decide +kernel
theorem dX8_use_33 : decode cX8_use 33 = .ok (.dup, 1) := by decide +kernel
theorem dX8_use_34 : decode cX8_use 34 = .ok (.getfield 104, 3) := by decide +kernel
theorem dX8_use_37 : decode cX8_use 37 = .ok (.iconst 1, 1) := by decide +kernel
theorem dX8_use_38 : decode cX8_use 38 = .ok (.iadd, 1) := by decide +kernel
theorem dX8_use_39 : decode cX8_use 39 = .ok (.putfield 104, 3) := by decide +kernel
theorem dX8_use_42 : decode cX8_use 42 = .ok (.return_, 1) := by decide +kernel
theorem dX8_makeRoom_0 : decode cX8_makeRoom 0 = .ok (.aload_n 0, 1) := by decide +kernel
theorem dX8_makeRoom_1 : decode cX8_makeRoom 1 = .ok (.getfield 104, 3) := by decide +kernel
theorem dX8_makeRoom_4 : decode cX8_makeRoom 4 = .ok (.aload_n 0, 1) := by decide +kernel
theorem dX8_makeRoom_5 : decode cX8_makeRoom 5 = .ok (.getfield 61, 3) := by decide +kernel
theorem dX8_makeRoom_8 : decode cX8_makeRoom 8 = .ok (.if_icmp .ge 5, 3) := by decide +kernel
theorem dX8_makeRoom_11 : decode cX8_makeRoom 11 = .ok (.iconst 1, 1) := by decide +kernel
theorem dX8_makeRoom_12 : decode cX8_makeRoom 12 = .ok (.ireturn, 1) := by decide +kernel
theorem dX8_makeRoom_13 : decode cX8_makeRoom 13 = .ok (.iconst 0, 1) := by decide +kernel
theorem dX8_makeRoom_14 : decode cX8_makeRoom 14 = .ok (.istore_n 1, 1) := by decide +kernel
theorem dX8_makeRoom_15 : decode cX8_makeRoom 15 = .ok (.iload_n 1, 1) := by decide +kernel
theorem dX8_makeRoom_16 : decode cX8_makeRoom 16 = .ok (.aload_n 0, 1) := by decide +kernel
theorem dX8_makeRoom_17 : decode cX8_makeRoom 17 = .ok (.getfield 104, 3) := by decide +kernel
theorem dX8_makeRoom_20 : decode cX8_makeRoom 20 = .ok (.if_icmp .ge 26, 3) := by decide +kernel
theorem dX8_makeRoom_23 : decode cX8_makeRoom 23 = .ok (.aload_n 0, 1) := by decide +kernel
theorem dX8_makeRoom_24 : decode cX8_makeRoom 24 = .ok (.getfield 26, 3) := by decide +kernel
theorem dX8_makeRoom_27 : decode cX8_makeRoom 27 = .ok (.iload_n 1, 1) := by decide +kernel
theorem dX8_makeRoom_28 : decode cX8_makeRoom 28 = .ok (.iaload, 1) := by decide +kernel
theorem dX8_makeRoom_29 : decode cX8_makeRoom 29 = .ok (.iconst 1, 1) := by decide +kernel
theorem dX8_makeRoom_30 : decode cX8_makeRoom 30 = .ok (.if_icmp .eq 10, 3) := by decide +kernel
theorem dX8_makeRoom_33 : decode cX8_makeRoom 33 = .ok (.aload_n 0, 1) := by decide +kernel
theorem dX8_makeRoom_34 : decode cX8_makeRoom 34 = .ok (.iload_n 1, 1) := by decide +kernel
theorem dX8_makeRoom_35 : decode cX8_makeRoom 35 = .ok (.invokevirtual 121, 3) := by decide +kernel
theorem dX8_makeRoom_38 : decode cX8_makeRoom 38 = .ok (.iconst 1, 1) := by decide +kernel
theorem dX8_makeRoom_39 : decode cX8_makeRoom 39 = .ok (.ireturn, 1) := by decide +kernel
theorem dX8_makeRoom_40 : decode cX8_makeRoom 40 = .ok (.iinc 1 1, 3) := by decide +kernel
theorem dX8_makeRoom_43 : decode cX8_makeRoom 43 = .ok (.goto (-28), 3) := by decide +kernel
theorem dX8_makeRoom_46 : decode cX8_makeRoom 46 = .ok (.iconst 0, 1) := by decide +kernel
theorem dX8_makeRoom_47 : decode cX8_makeRoom 47 = .ok (.ireturn, 1) := by decide +kernel
theorem dX8_make_0 : decode cX8_make 0 = .ok (.aload_n 0, 1) := by decide +kernel
theorem dX8_make_1 : decode cX8_make 1 = .ok (.getfield 104, 3) := by decide +kernel
theorem dX8_make_4 : decode cX8_make 4 = .ok (.istore 5, 2) := by decide +kernel
theorem dX8_make_6 : decode cX8_make 6 = .ok (.aload_n 0, 1) := by decide +kernel
theorem dX8_make_7 : decode cX8_make 7 = .ok (.dup, 1) := by decide +kernel
theorem dX8_make_8 : decode cX8_make 8 = .ok (.getfield 104, 3) := by decide +kernel
theorem dX8_make_11 : decode cX8_make 11 = .ok (.iconst 1, 1) := by decide +kernel
theorem dX8_make_12 : decode cX8_make 12 = .ok (.iadd, 1) := by decide +kernel
theorem dX8_make_13 : decode cX8_make 13 = .ok (.putfield 104, 3) := by decide +kernel
theorem dX8_make_16 : decode cX8_make 16 = .ok (.aload_n 0, 1) := by decide +kernel
theorem dX8_make_17 : decode cX8_make 17 = .ok (.getfield 23, 3) := by decide +kernel
theorem dX8_make_20 : decode cX8_make 20 = .ok (.iload 5, 2) := by decide +kernel
theorem dX8_make_22 : decode cX8_make 22 = .ok (.iload_n 1, 1) := by decide +kernel
theorem dX8_make_23 : decode cX8_make 23 = .ok (.iastore, 1) := by decide +kernel
theorem dX8_make_24 : decode cX8_make 24 = .ok (.aload_n 0, 1) := by decide +kernel
theorem dX8_make_25 : decode cX8_make 25 = .ok (.getfield 26, 3) := by decide +kernel
theorem dX8_make_28 : decode cX8_make 28 = .ok (.iload 5, 2) := by decide +kernel
theorem dX8_make_30 : decode cX8_make 30 = .ok (.iload_n 2, 1) := by decide +kernel
theorem dX8_make_31 : decode cX8_make 31 = .ok (.iastore, 1) := by decide +kernel
theorem dX8_make_32 : decode cX8_make 32 = .ok (.aload_n 0, 1) := by decide +kernel
theorem dX8_make_33 : decode cX8_make 33 = .ok (.getfield 29, 3) := by decide +kernel
theorem dX8_make_36 : decode cX8_make 36 = .ok (.iload 5, 2) := by decide +kernel
theorem dX8_make_38 : decode cX8_make 38 = .ok (.lload_n 3, 1) := by decide +kernel
theorem dX8_make_39 : decode cX8_make 39 = .ok (.lastore, 1) := by decide +kernel
theorem dX8_make_40 : decode cX8_make 40 = .ok (.aload_n 0, 1) := by decide +kernel
theorem dX8_make_41 : decode cX8_make 41 = .ok (.getfield 33, 3) := by decide +kernel
theorem dX8_make_44 : decode cX8_make 44 = .ok (.iload 5, 2) := by decide +kernel
theorem dX8_make_46 : decode cX8_make 46 = .ok (.aload_n 0, 1) := by decide +kernel
theorem dX8_make_47 : decode cX8_make 47 = .ok (.getfield 118, 3) := by decide +kernel
theorem dX8_make_50 : decode cX8_make 50 = .ok (.iastore, 1) := by decide +kernel
theorem dX8_make_51 : decode cX8_make 51 = .ok (.aload_n 0, 1) := by decide +kernel
theorem dX8_make_52 : decode cX8_make 52 = .ok (.getfield 36, 3) := by decide +kernel
theorem dX8_make_55 : decode cX8_make 55 = .ok (.iload 5, 2) := by decide +kernel
theorem dX8_make_57 : decode cX8_make 57 = .ok (.aload_n 0, 1) := by decide +kernel
theorem dX8_make_58 : decode cX8_make 58 = .ok (.getfield 118, 3) := by decide +kernel
theorem dX8_make_61 : decode cX8_make 61 = .ok (.iastore, 1) := by decide +kernel
theorem dX8_make_62 : decode cX8_make 62 = .ok (.aload_n 0, 1) := by decide +kernel
theorem dX8_make_63 : decode cX8_make 63 = .ok (.getfield 39, 3) := by decide +kernel
theorem dX8_make_66 : decode cX8_make 66 = .ok (.iload 5, 2) := by decide +kernel
theorem dX8_make_68 : decode cX8_make 68 = .ok (.iconst 0, 1) := by decide +kernel
theorem dX8_make_69 : decode cX8_make 69 = .ok (.iastore, 1) := by decide +kernel
theorem dX8_make_70 : decode cX8_make 70 = .ok (.return_, 1) := by decide +kernel
theorem dX8_giveUp_0 : decode cX8_giveUp 0 = .ok (.aload_n 0, 1) := by decide +kernel
theorem dX8_giveUp_1 : decode cX8_giveUp 1 = .ok (.iconst 0, 1) := by decide +kernel
theorem dX8_giveUp_2 : decode cX8_giveUp 2 = .ok (.putfield 75, 3) := by decide +kernel
theorem dX8_giveUp_5 : decode cX8_giveUp 5 = .ok (.aload_n 0, 1) := by decide +kernel
theorem dX8_giveUp_6 : decode cX8_giveUp 6 = .ok (.iconst 0, 1) := by decide +kernel
theorem dX8_giveUp_7 : decode cX8_giveUp 7 = .ok (.putfield 92, 3) := by decide +kernel
theorem dX8_giveUp_10 : decode cX8_giveUp 10 = .ok (.aload_n 0, 1) := by decide +kernel
theorem dX8_giveUp_11 : decode cX8_giveUp 11 = .ok (.getfield 104, 3) := by decide +kernel
theorem dX8_giveUp_14 : decode cX8_giveUp 14 = .ok (.ifCond .le 11, 3) := by decide +kernel
theorem dX8_giveUp_17 : decode cX8_giveUp 17 = .ok (.aload_n 0, 1) := by decide +kernel
theorem dX8_giveUp_18 : decode cX8_giveUp 18 = .ok (.iconst 0, 1) := by decide +kernel
theorem dX8_giveUp_19 : decode cX8_giveUp 19 = .ok (.invokevirtual 121, 3) := by decide +kernel
theorem dX8_giveUp_22 : decode cX8_giveUp 22 = .ok (.goto (-12), 3) := by decide +kernel
theorem dX8_giveUp_25 : decode cX8_giveUp 25 = .ok (.return_, 1) := by decide +kernel
theorem dX8_isBad_0 : decode cX8_isBad 0 = .ok (.aload_n 0, 1) := by decide +kernel
theorem dX8_isBad_1 : decode cX8_isBad 1 = .ok (.getfield 78, 3) := by decide +kernel
theorem dX8_isBad_4 : decode cX8_isBad 4 = .ok (.bipush 28, 2) := by decide +kernel
theorem dX8_isBad_6 : decode cX8_isBad 6 = .ok (.if_icmp .ne 7, 3) := by decide +kernel
theorem dX8_isBad_9 : decode cX8_isBad 9 = .ok (.iconst 1, 1) := by decide +kernel
theorem dX8_isBad_10 : decode cX8_isBad 10 = .ok (.goto 4, 3) := by decide +kernel
theorem dX8_isBad_13 : decode cX8_isBad 13 = .ok (.iconst 0, 1) := by decide +kernel
theorem dX8_isBad_14 : decode cX8_isBad 14 = .ok (.istore_n 1, 1) := by decide +kernel
theorem dX8_isBad_15 : decode cX8_isBad 15 = .ok (.iconst 0, 1) := by decide +kernel
theorem dX8_isBad_16 : decode cX8_isBad 16 = .ok (.istore_n 2, 1) := by decide +kernel
theorem dX8_isBad_17 : decode cX8_isBad 17 = .ok (.iload_n 2, 1) := by decide +kernel
theorem dX8_isBad_18 : decode cX8_isBad 18 = .ok (.bipush 6, 2) := by decide +kernel
theorem dX8_isBad_20 : decode cX8_isBad 20 = .ok (.if_icmp .ge 37, 3) := by decide +kernel
theorem dX8_isBad_23 : decode cX8_isBad 23 = .ok (.iload_n 1, 1) := by decide +kernel
theorem dX8_isBad_24 : decode cX8_isBad 24 = .ok (.ifCond .eq 33, 3) := by decide +kernel
theorem dX8_isBad_27 : decode cX8_isBad 27 = .ok (.aload_n 0, 1) := by decide +kernel
theorem dX8_isBad_28 : decode cX8_isBad 28 = .ok (.getfield 19, 3) := by decide +kernel
theorem dX8_isBad_31 : decode cX8_isBad 31 = .ok (.iload_n 2, 1) := by decide +kernel
theorem dX8_isBad_32 : decode cX8_isBad 32 = .ok (.iaload, 1) := by decide +kernel
theorem dX8_isBad_33 : decode cX8_isBad 33 = .ok (.iload_n 2, 1) := by decide +kernel
theorem dX8_isBad_34 : decode cX8_isBad 34 = .ok (.iconst 0, 1) := by decide +kernel
theorem dX8_isBad_35 : decode cX8_isBad 35 = .ok (.lconst 0, 1) := by decide +kernel
theorem dX8_isBad_36 : decode cX8_isBad 36 = .ok (.iconst 0, 1) := by decide +kernel
theorem dX8_isBad_37 : decode cX8_isBad 37 = .ok (.lconst 0, 1) := by decide +kernel
theorem dX8_isBad_38 : decode cX8_isBad 38 = .ok (.iconst 0, 1) := by decide +kernel
theorem dX8_isBad_39 : decode cX8_isBad 39 = .ok (.invokestatic 81, 3) := by decide +kernel
theorem dX8_isBad_42 : decode cX8_isBad 42 = .ok (.if_icmp .ne 7, 3) := by decide +kernel
theorem dX8_isBad_45 : decode cX8_isBad 45 = .ok (.iconst 1, 1) := by decide +kernel
theorem dX8_isBad_46 : decode cX8_isBad 46 = .ok (.goto 4, 3) := by decide +kernel
theorem dX8_isBad_49 : decode cX8_isBad 49 = .ok (.iconst 0, 1) := by decide +kernel
theorem dX8_isBad_50 : decode cX8_isBad 50 = .ok (.istore_n 1, 1) := by decide +kernel
theorem dX8_isBad_51 : decode cX8_isBad 51 = .ok (.iinc 2 1, 3) := by decide +kernel
theorem dX8_isBad_54 : decode cX8_isBad 54 = .ok (.goto (-37), 3) := by decide +kernel
theorem dX8_isBad_57 : decode cX8_isBad 57 = .ok (.iload_n 1, 1) := by decide +kernel
theorem dX8_isBad_58 : decode cX8_isBad 58 = .ok (.ifCond .ne 5, 3) := by decide +kernel
theorem dX8_isBad_61 : decode cX8_isBad 61 = .ok (.iconst 1, 1) := by decide +kernel
theorem dX8_isBad_62 : decode cX8_isBad 62 = .ok (.ireturn, 1) := by decide +kernel
theorem dX8_isBad_63 : decode cX8_isBad 63 = .ok (.aload_n 0, 1) := by decide +kernel
theorem dX8_isBad_64 : decode cX8_isBad 64 = .ok (.bipush 6, 2) := by decide +kernel
theorem dX8_isBad_66 : decode cX8_isBad 66 = .ok (.iconst 2, 1) := by decide +kernel
theorem dX8_isBad_67 : decode cX8_isBad 67 = .ok (.invokevirtual 85, 3) := by decide +kernel
theorem dX8_isBad_70 : decode cX8_isBad 70 = .ok (.lstore_n 2, 1) := by decide +kernel
theorem dX8_isBad_71 : decode cX8_isBad 71 = .ok (.aload_n 0, 1) := by decide +kernel
theorem dX8_isBad_72 : decode cX8_isBad 72 = .ok (.bipush 8, 2) := by decide +kernel
theorem dX8_isBad_74 : decode cX8_isBad 74 = .ok (.bipush 6, 2) := by decide +kernel
theorem dX8_isBad_76 : decode cX8_isBad 76 = .ok (.invokevirtual 85, 3) := by decide +kernel
theorem dX8_isBad_79 : decode cX8_isBad 79 = .ok (.lstore 4, 2) := by decide +kernel
theorem dX8_isBad_81 : decode cX8_isBad 81 = .ok (.lload_n 2, 1) := by decide +kernel
theorem dX8_isBad_82 : decode cX8_isBad 82 = .ok (.lconst 1, 1) := by decide +kernel
theorem dX8_isBad_83 : decode cX8_isBad 83 = .ok (.lcmp, 1) := by decide +kernel
theorem dX8_isBad_84 : decode cX8_isBad 84 = .ok (.ifCond .eq 11, 3) := by decide +kernel
theorem dX8_isBad_87 : decode cX8_isBad 87 = .ok (.lload_n 2, 1) := by decide +kernel
theorem dX8_isBad_88 : decode cX8_isBad 88 = .ok (.ldc2_w 7, 3) := by decide +kernel
theorem dX8_isBad_91 : decode cX8_isBad 91 = .ok (.lcmp, 1) := by decide +kernel
theorem dX8_isBad_92 : decode cX8_isBad 92 = .ok (.ifCond .ne 29, 3) := by decide +kernel
theorem dX8_isBad_95 : decode cX8_isBad 95 = .ok (.lload 4, 2) := by decide +kernel
theorem dX8_isBad_97 : decode cX8_isBad 97 = .ok (.aload_n 0, 1) := by decide +kernel
theorem dX8_isBad_98 : decode cX8_isBad 98 = .ok (.getfield 9, 3) := by decide +kernel
theorem dX8_isBad_101 : decode cX8_isBad 101 = .ok (.lcmp, 1) := by decide +kernel
theorem dX8_isBad_102 : decode cX8_isBad 102 = .ok (.ifCond .eq 19, 3) := by decide +kernel
theorem dX8_isBad_105 : decode cX8_isBad 105 = .ok (.lload 4, 2) := by decide +kernel
theorem dX8_isBad_107 : decode cX8_isBad 107 = .ok (.lconst 0, 1) := by decide +kernel
theorem dX8_isBad_108 : decode cX8_isBad 108 = .ok (.lcmp, 1) := by decide +kernel
theorem dX8_isBad_109 : decode cX8_isBad 109 = .ok (.ifCond .eq 12, 3) := by decide +kernel
theorem dX8_isBad_112 : decode cX8_isBad 112 = .ok (.lload 4, 2) := by decide +kernel
theorem dX8_isBad_114 : decode cX8_isBad 114 = .ok (.ldc2_w 99, 3) := by decide +kernel
theorem dX8_isBad_117 : decode cX8_isBad 117 = .ok (.lcmp, 1) := by decide +kernel
theorem dX8_isBad_118 : decode cX8_isBad 118 = .ok (.ifCond .ne 7, 3) := by decide +kernel
theorem dX8_isBad_121 : decode cX8_isBad 121 = .ok (.iconst 1, 1) := by decide +kernel
theorem dX8_isBad_122 : decode cX8_isBad 122 = .ok (.goto 4, 3) := by decide +kernel
theorem dX8_isBad_125 : decode cX8_isBad 125 = .ok (.iconst 0, 1) := by decide +kernel
theorem dX8_isBad_126 : decode cX8_isBad 126 = .ok (.ireturn, 1) := by decide +kernel
theorem dX8_conflict_0 : decode cX8_conflict 0 = .ok (.aload_n 0, 1) := by decide +kernel
theorem dX8_conflict_1 : decode cX8_conflict 1 = .ok (.getfield 75, 3) := by decide +kernel
theorem dX8_conflict_4 : decode cX8_conflict 4 = .ok (.iconst 1, 1) := by decide +kernel
theorem dX8_conflict_5 : decode cX8_conflict 5 = .ok (.if_icmp .le 47, 3) := by decide +kernel
theorem dX8_conflict_8 : decode cX8_conflict 8 = .ok (.aload_n 0, 1) := by decide +kernel
theorem dX8_conflict_9 : decode cX8_conflict 9 = .ok (.getfield 15, 3) := by decide +kernel
theorem dX8_conflict_12 : decode cX8_conflict 12 = .ok (.iconst (-1), 1) := by decide +kernel
theorem dX8_conflict_13 : decode cX8_conflict 13 = .ok (.if_icmp .eq 17, 3) := by decide +kernel
theorem dX8_conflict_16 : decode cX8_conflict 16 = .ok (.aload_n 0, 1) := by decide +kernel
theorem dX8_conflict_17 : decode cX8_conflict 17 = .ok (.getfield 118, 3) := by decide +kernel
theorem dX8_conflict_20 : decode cX8_conflict 20 = .ok (.aload_n 0, 1) := by decide +kernel
theorem dX8_conflict_21 : decode cX8_conflict 21 = .ok (.getfield 15, 3) := by decide +kernel
theorem dX8_conflict_24 : decode cX8_conflict 24 = .ok (.isub, 1) := by decide +kernel
theorem dX8_conflict_25 : decode cX8_conflict 25 = .ok (.bipush 10, 2) := by decide +kernel
theorem dX8_conflict_27 : decode cX8_conflict 27 = .ok (.if_icmp .lt 25, 3) := by decide +kernel
theorem dX8_conflict_30 : decode cX8_conflict 30 = .ok (.aload_n 0, 1) := by decide +kernel
theorem dX8_conflict_31 : decode cX8_conflict 31 = .ok (.ldc2_w 99, 3) := by decide +kernel
theorem dX8_conflict_34 : decode cX8_conflict 34 = .ok (.aload_n 0, 1) := by decide +kernel
theorem dX8_conflict_35 : decode cX8_conflict 35 = .ok (.getfield 92, 3) := by decide +kernel
theorem dX8_conflict_38 : decode cX8_conflict 38 = .ok (.invokevirtual 124, 3) := by decide +kernel
theorem dX8_conflict_41 : decode cX8_conflict 41 = .ok (.aload_n 0, 1) := by decide +kernel
theorem dX8_conflict_42 : decode cX8_conflict 42 = .ok (.aload_n 0, 1) := by decide +kernel
theorem dX8_conflict_43 : decode cX8_conflict 43 = .ok (.getfield 118, 3) := by decide +kernel
theorem dX8_conflict_46 : decode cX8_conflict 46 = .ok (.putfield 15, 3) := by decide +kernel
theorem dX8_conflict_49 : decode cX8_conflict 49 = .ok (.goto 7, 3) := by decide +kernel
theorem dX8_conflict_52 : decode cX8_conflict 52 = .ok (.aload_n 0, 1) := by decide +kernel
theorem dX8_conflict_53 : decode cX8_conflict 53 = .ok (.invokevirtual 128, 3) := by decide +kernel
theorem dX8_conflict_56 : decode cX8_conflict 56 = .ok (.iconst 2, 1) := by decide +kernel
theorem dX8_conflict_57 : decode cX8_conflict 57 = .ok (.ireturn, 1) := by decide +kernel
theorem dX8_learn_0 : decode cX8_learn 0 = .ok (.aload_n 0, 1) := by decide +kernel
theorem dX8_learn_1 : decode cX8_learn 1 = .ok (.getfield 26, 3) := by decide +kernel
theorem dX8_learn_4 : decode cX8_learn 4 = .ok (.iload_n 1, 1) := by decide +kernel
theorem dX8_learn_5 : decode cX8_learn 5 = .ok (.iaload, 1) := by decide +kernel
theorem dX8_learn_6 : decode cX8_learn 6 = .ok (.iconst 1, 1) := by decide +kernel
theorem dX8_learn_7 : decode cX8_learn 7 = .ok (.if_icmp .ne 7, 3) := by decide +kernel
theorem dX8_learn_10 : decode cX8_learn 10 = .ok (.iconst 1, 1) := by decide +kernel
theorem dX8_learn_11 : decode cX8_learn 11 = .ok (.goto 4, 3) := by decide +kernel
theorem dX8_learn_14 : decode cX8_learn 14 = .ok (.iconst 0, 1) := by decide +kernel
theorem dX8_learn_15 : decode cX8_learn 15 = .ok (.istore 4, 2) := by decide +kernel
theorem dX8_learn_17 : decode cX8_learn 17 = .ok (.aload_n 0, 1) := by decide +kernel
theorem dX8_learn_18 : decode cX8_learn 18 = .ok (.getfield 29, 3) := by decide +kernel
theorem dX8_learn_21 : decode cX8_learn 21 = .ok (.iload_n 1, 1) := by decide +kernel
theorem dX8_learn_22 : decode cX8_learn 22 = .ok (.lload_n 2, 1) := by decide +kernel
theorem dX8_learn_23 : decode cX8_learn 23 = .ok (.lastore, 1) := by decide +kernel
theorem dX8_learn_24 : decode cX8_learn 24 = .ok (.aload_n 0, 1) := by decide +kernel
theorem dX8_learn_25 : decode cX8_learn 25 = .ok (.getfield 26, 3) := by decide +kernel
theorem dX8_learn_28 : decode cX8_learn 28 = .ok (.iload_n 1, 1) := by decide +kernel
theorem dX8_learn_29 : decode cX8_learn 29 = .ok (.iconst 2, 1) := by decide +kernel
theorem dX8_learn_30 : decode cX8_learn 30 = .ok (.iastore, 1) := by decide +kernel
theorem dX8_learn_31 : decode cX8_learn 31 = .ok (.aload_n 0, 1) := by decide +kernel
theorem dX8_learn_32 : decode cX8_learn 32 = .ok (.getfield 33, 3) := by decide +kernel
theorem dX8_learn_35 : decode cX8_learn 35 = .ok (.iload_n 1, 1) := by decide +kernel
theorem dX8_learn_36 : decode cX8_learn 36 = .ok (.aload_n 0, 1) := by decide +kernel
theorem dX8_learn_37 : decode cX8_learn 37 = .ok (.getfield 118, 3) := by decide +kernel
theorem dX8_learn_40 : decode cX8_learn 40 = .ok (.iastore, 1) := by decide +kernel
theorem dX8_learn_41 : decode cX8_learn 41 = .ok (.iconst 0, 1) := by decide +kernel
theorem dX8_learn_42 : decode cX8_learn 42 = .ok (.istore 5, 2) := by decide +kernel
theorem dX8_learn_44 : decode cX8_learn 44 = .ok (.iload 5, 2) := by decide +kernel
theorem dX8_learn_46 : decode cX8_learn 46 = .ok (.aload_n 0, 1) := by decide +kernel
theorem dX8_learn_47 : decode cX8_learn 47 = .ok (.getfield 39, 3) := by decide +kernel
theorem dX8_learn_50 : decode cX8_learn 50 = .ok (.iload_n 1, 1) := by decide +kernel
theorem dX8_learn_51 : decode cX8_learn 51 = .ok (.iaload, 1) := by decide +kernel
theorem dX8_learn_52 : decode cX8_learn 52 = .ok (.if_icmp .ge 30, 3) := by decide +kernel
theorem dX8_learn_55 : decode cX8_learn 55 = .ok (.iload 4, 2) := by decide +kernel
theorem dX8_learn_57 : decode cX8_learn 57 = .ok (.ifCond .eq 25, 3) := by decide +kernel
theorem dX8_learn_60 : decode cX8_learn 60 = .ok (.aload_n 0, 1) := by decide +kernel
theorem dX8_learn_61 : decode cX8_learn 61 = .ok (.lload_n 2, 1) := by decide +kernel
theorem dX8_learn_62 : decode cX8_learn 62 = .ok (.aload_n 0, 1) := by decide +kernel
theorem dX8_learn_63 : decode cX8_learn 63 = .ok (.getfield 42, 3) := by decide +kernel
theorem dX8_learn_66 : decode cX8_learn 66 = .ok (.iconst 4, 1) := by decide +kernel
theorem dX8_learn_67 : decode cX8_learn 67 = .ok (.iload_n 1, 1) := by decide +kernel
theorem dX8_learn_68 : decode cX8_learn 68 = .ok (.imul, 1) := by decide +kernel
theorem dX8_learn_69 : decode cX8_learn 69 = .ok (.iload 5, 2) := by decide +kernel
theorem dX8_learn_71 : decode cX8_learn 71 = .ok (.iadd, 1) := by decide +kernel
theorem dX8_learn_72 : decode cX8_learn 72 = .ok (.iaload, 1) := by decide +kernel
theorem dX8_learn_73 : decode cX8_learn 73 = .ok (.invokevirtual 131, 3) := by decide +kernel
theorem dX8_learn_76 : decode cX8_learn 76 = .ok (.iinc 5 1, 3) := by decide +kernel
theorem dX8_learn_79 : decode cX8_learn 79 = .ok (.goto (-35), 3) := by decide +kernel
theorem dX8_learn_82 : decode cX8_learn 82 = .ok (.aload_n 0, 1) := by decide +kernel
theorem dX8_learn_83 : decode cX8_learn 83 = .ok (.getfield 39, 3) := by decide +kernel
theorem dX8_learn_86 : decode cX8_learn 86 = .ok (.iload_n 1, 1) := by decide +kernel
theorem dX8_learn_87 : decode cX8_learn 87 = .ok (.iconst 0, 1) := by decide +kernel
theorem dX8_learn_88 : decode cX8_learn 88 = .ok (.iastore, 1) := by decide +kernel
theorem dX8_learn_89 : decode cX8_learn 89 = .ok (.return_, 1) := by decide +kernel
theorem dX8_heard_0 : decode cX8_heard 0 = .ok (.aload_n 0, 1) := by decide +kernel
theorem dX8_heard_1 : decode cX8_heard 1 = .ok (.invokevirtual 134, 3) := by decide +kernel
theorem dX8_heard_4 : decode cX8_heard 4 = .ok (.ifCond .eq 5, 3) := by decide +kernel
theorem dX8_heard_7 : decode cX8_heard 7 = .ok (.iconst 1, 1) := by decide +kernel
theorem dX8_heard_8 : decode cX8_heard 8 = .ok (.ireturn, 1) := by decide +kernel
theorem dX8_heard_9 : decode cX8_heard 9 = .ok (.aload_n 0, 1) := by decide +kernel
theorem dX8_heard_10 : decode cX8_heard 10 = .ok (.bipush 6, 2) := by decide +kernel
theorem dX8_heard_12 : decode cX8_heard 12 = .ok (.iconst 2, 1) := by decide +kernel
theorem dX8_heard_13 : decode cX8_heard 13 = .ok (.invokevirtual 85, 3) := by decide +kernel
theorem dX8_heard_16 : decode cX8_heard 16 = .ok (.lconst 1, 1) := by decide +kernel
theorem dX8_heard_17 : decode cX8_heard 17 = .ok (.lcmp, 1) := by decide +kernel
theorem dX8_heard_18 : decode cX8_heard 18 = .ok (.ifCond .ne 7, 3) := by decide +kernel
theorem dX8_heard_21 : decode cX8_heard 21 = .ok (.iconst 1, 1) := by decide +kernel
theorem dX8_heard_22 : decode cX8_heard 22 = .ok (.goto 4, 3) := by decide +kernel
theorem dX8_heard_25 : decode cX8_heard 25 = .ok (.iconst 0, 1) := by decide +kernel
theorem dX8_heard_26 : decode cX8_heard 26 = .ok (.istore_n 1, 1) := by decide +kernel
theorem dX8_heard_27 : decode cX8_heard 27 = .ok (.aload_n 0, 1) := by decide +kernel
theorem dX8_heard_28 : decode cX8_heard 28 = .ok (.bipush 8, 2) := by decide +kernel
theorem dX8_heard_30 : decode cX8_heard 30 = .ok (.bipush 6, 2) := by decide +kernel
theorem dX8_heard_32 : decode cX8_heard 32 = .ok (.invokevirtual 85, 3) := by decide +kernel
theorem dX8_heard_35 : decode cX8_heard 35 = .ok (.lstore_n 2, 1) := by decide +kernel
theorem dX8_heard_36 : decode cX8_heard 36 = .ok (.aload_n 0, 1) := by decide +kernel
theorem dX8_heard_37 : decode cX8_heard 37 = .ok (.bipush 14, 2) := by decide +kernel
theorem dX8_heard_39 : decode cX8_heard 39 = .ok (.invokevirtual 138, 3) := by decide +kernel
theorem dX8_heard_42 : decode cX8_heard 42 = .ok (.istore 4, 2) := by decide +kernel
theorem dX8_heard_44 : decode cX8_heard 44 = .ok (.aload_n 0, 1) := by decide +kernel
theorem dX8_heard_45 : decode cX8_heard 45 = .ok (.bipush 24, 2) := by decide +kernel
theorem dX8_heard_47 : decode cX8_heard 47 = .ok (.invokevirtual 138, 3) := by decide +kernel
theorem dX8_heard_50 : decode cX8_heard 50 = .ok (.istore 5, 2) := by decide +kernel
theorem dX8_heard_52 : decode cX8_heard 52 = .ok (.aload_n 0, 1) := by decide +kernel
theorem dX8_heard_53 : decode cX8_heard 53 = .ok (.getfield 75, 3) := by decide +kernel
theorem dX8_heard_56 : decode cX8_heard 56 = .ok (.ifCond .le 43, 3) := by decide +kernel
theorem dX8_heard_59 : decode cX8_heard 59 = .ok (.iload 4, 2) := by decide +kernel
theorem dX8_heard_61 : decode cX8_heard 61 = .ok (.aload_n 0, 1) := by decide +kernel
theorem dX8_heard_62 : decode cX8_heard 62 = .ok (.getfield 92, 3) := by decide +kernel
theorem dX8_heard_65 : decode cX8_heard 65 = .ok (.if_icmp .eq 29, 3) := by decide +kernel
theorem dX8_heard_68 : decode cX8_heard 68 = .ok (.aload_n 0, 1) := by decide +kernel
theorem dX8_heard_69 : decode cX8_heard 69 = .ok (.getfield 75, 3) := by decide +kernel
theorem dX8_heard_72 : decode cX8_heard 72 = .ok (.iconst 1, 1) := by decide +kernel
theorem dX8_heard_73 : decode cX8_heard 73 = .ok (.if_icmp .ne 26, 3) := by decide +kernel
theorem dX8_heard_76 : decode cX8_heard 76 = .ok (.iload_n 1, 1) := by decide +kernel
theorem dX8_heard_77 : decode cX8_heard 77 = .ok (.ifCond .eq 22, 3) := by decide +kernel
theorem dX8_heard_80 : decode cX8_heard 80 = .ok (.iload 4, 2) := by decide +kernel
theorem dX8_heard_82 : decode cX8_heard 82 = .ok (.ifCond .ne 17, 3) := by decide +kernel
theorem dX8_heard_85 : decode cX8_heard 85 = .ok (.iload 5, 2) := by decide +kernel
theorem dX8_heard_87 : decode cX8_heard 87 = .ok (.aload_n 0, 1) := by decide +kernel
theorem dX8_heard_88 : decode cX8_heard 88 = .ok (.getfield 92, 3) := by decide +kernel
theorem dX8_heard_91 : decode cX8_heard 91 = .ok (.if_icmp .ne 8, 3) := by decide +kernel
theorem dX8_heard_94 : decode cX8_heard 94 = .ok (.aload_n 0, 1) := by decide +kernel
theorem dX8_heard_95 : decode cX8_heard 95 = .ok (.invokevirtual 142, 3) := by decide +kernel
theorem dX8_heard_98 : decode cX8_heard 98 = .ok (.ireturn, 1) := by decide +kernel
theorem dX8_heard_99 : decode cX8_heard 99 = .ok (.aload_n 0, 1) := by decide +kernel
theorem dX8_heard_100 : decode cX8_heard 100 = .ok (.iload 4, 2) := by decide +kernel
theorem dX8_heard_102 : decode cX8_heard 102 = .ok (.invokevirtual 146, 3) := by decide +kernel
theorem dX8_heard_105 : decode cX8_heard 105 = .ok (.istore 6, 2) := by decide +kernel
theorem dX8_heard_107 : decode cX8_heard 107 = .ok (.iload 6, 2) := by decide +kernel
theorem dX8_heard_109 : decode cX8_heard 109 = .ok (.iconst (-1), 1) := by decide +kernel
theorem dX8_heard_110 : decode cX8_heard 110 = .ok (.if_icmp .eq 10, 3) := by decide +kernel
theorem dX8_heard_113 : decode cX8_heard 113 = .ok (.aload_n 0, 1) := by decide +kernel
theorem dX8_heard_114 : decode cX8_heard 114 = .ok (.iload 6, 2) := by decide +kernel
theorem dX8_heard_116 : decode cX8_heard 116 = .ok (.lload_n 2, 1) := by decide +kernel
theorem dX8_heard_117 : decode cX8_heard 117 = .ok (.invokevirtual 149, 3) := by decide +kernel
theorem dX8_heard_120 : decode cX8_heard 120 = .ok (.aload_n 0, 1) := by decide +kernel
theorem dX8_heard_121 : decode cX8_heard 121 = .ok (.getfield 75, 3) := by decide +kernel
theorem dX8_heard_124 : decode cX8_heard 124 = .ok (.iconst 1, 1) := by decide +kernel
theorem dX8_heard_125 : decode cX8_heard 125 = .ok (.if_icmp .le 55, 3) := by decide +kernel
theorem dX8_heard_128 : decode cX8_heard 128 = .ok (.iload 5, 2) := by decide +kernel
theorem dX8_heard_130 : decode cX8_heard 130 = .ok (.aload_n 0, 1) := by decide +kernel
theorem dX8_heard_131 : decode cX8_heard 131 = .ok (.getfield 92, 3) := by decide +kernel
theorem dX8_heard_134 : decode cX8_heard 134 = .ok (.if_icmp .ne 46, 3) := by decide +kernel
theorem dX8_heard_137 : decode cX8_heard 137 = .ok (.iload 6, 2) := by decide +kernel
theorem dX8_heard_139 : decode cX8_heard 139 = .ok (.iconst (-1), 1) := by decide +kernel
theorem dX8_heard_140 : decode cX8_heard 140 = .ok (.if_icmp .ne 23, 3) := by decide +kernel
theorem dX8_heard_143 : decode cX8_heard 143 = .ok (.iload 4, 2) := by decide +kernel
theorem dX8_heard_145 : decode cX8_heard 145 = .ok (.ifCond .eq 18, 3) := by decide +kernel
theorem dX8_heard_148 : decode cX8_heard 148 = .ok (.aload_n 0, 1) := by decide +kernel
theorem dX8_heard_149 : decode cX8_heard 149 = .ok (.invokevirtual 153, 3) := by decide +kernel
theorem dX8_heard_152 : decode cX8_heard 152 = .ok (.ifCond .eq 11, 3) := by decide +kernel
theorem dX8_heard_155 : decode cX8_heard 155 = .ok (.aload_n 0, 1) := by decide +kernel
theorem dX8_heard_156 : decode cX8_heard 156 = .ok (.iload 4, 2) := by decide +kernel
theorem dX8_heard_158 : decode cX8_heard 158 = .ok (.iconst 2, 1) := by decide +kernel
theorem dX8_heard_159 : decode cX8_heard 159 = .ok (.lload_n 2, 1) := by decide +kernel
theorem dX8_heard_160 : decode cX8_heard 160 = .ok (.invokevirtual 156, 3) := by decide +kernel
theorem dX8_heard_163 : decode cX8_heard 163 = .ok (.iload_n 1, 1) := by decide +kernel
theorem dX8_heard_164 : decode cX8_heard 164 = .ok (.ifCond .eq 16, 3) := by decide +kernel
theorem dX8_heard_167 : decode cX8_heard 167 = .ok (.aload_n 0, 1) := by decide +kernel
theorem dX8_heard_168 : decode cX8_heard 168 = .ok (.lload_n 2, 1) := by decide +kernel
theorem dX8_heard_169 : decode cX8_heard 169 = .ok (.iconst 2, 1) := by decide +kernel
theorem dX8_heard_170 : decode cX8_heard 170 = .ok (.aload_n 0, 1) := by decide +kernel
theorem dX8_heard_171 : decode cX8_heard 171 = .ok (.getfield 92, 3) := by decide +kernel
theorem dX8_heard_174 : decode cX8_heard 174 = .ok (.lload_n 2, 1) := by decide +kernel
theorem dX8_heard_175 : decode cX8_heard 175 = .ok (.iload 4, 2) := by decide +kernel
theorem dX8_heard_177 : decode cX8_heard 177 = .ok (.invokevirtual 95, 3) := by decide +kernel
theorem dX8_heard_180 : decode cX8_heard 180 = .ok (.iconst 0, 1) := by decide +kernel
theorem dX8_heard_181 : decode cX8_heard 181 = .ok (.ireturn, 1) := by decide +kernel
theorem dX8_hear_0 : decode cX8_hear 0 = .ok (.aload_n 0, 1) := by decide +kernel
theorem dX8_hear_1 : decode cX8_hear 1 = .ok (.iconst 0, 1) := by decide +kernel
theorem dX8_hear_2 : decode cX8_hear 2 = .ok (.putfield 70, 3) := by decide +kernel
theorem dX8_hear_5 : decode cX8_hear 5 = .ok (.aload_n 0, 1) := by decide +kernel
theorem dX8_hear_6 : decode cX8_hear 6 = .ok (.invokevirtual 160, 3) := by decide +kernel
theorem dX8_hear_9 : decode cX8_hear 9 = .ok (.istore_n 1, 1) := by decide +kernel
theorem dX8_hear_10 : decode cX8_hear 10 = .ok (.aload_n 0, 1) := by decide +kernel
theorem dX8_hear_11 : decode cX8_hear 11 = .ok (.iconst 0, 1) := by decide +kernel
theorem dX8_hear_12 : decode cX8_hear 12 = .ok (.putfield 78, 3) := by decide +kernel
theorem dX8_hear_15 : decode cX8_hear 15 = .ok (.iload_n 1, 1) := by decide +kernel
theorem dX8_hear_16 : decode cX8_hear 16 = .ok (.ireturn, 1) := by decide +kernel
theorem dX8_claim_0 : decode cX8_claim 0 = .ok (.aload_n 0, 1) := by decide +kernel
theorem dX8_claim_1 : decode cX8_claim 1 = .ok (.iload_n 1, 1) := by decide +kernel
theorem dX8_claim_2 : decode cX8_claim 2 = .ok (.ifCond .eq 8, 3) := by decide +kernel
theorem dX8_claim_5 : decode cX8_claim 5 = .ok (.iload_n 1, 1) := by decide +kernel
theorem dX8_claim_6 : decode cX8_claim 6 = .ok (.iconst (-1), 1) := by decide +kernel
theorem dX8_claim_7 : decode cX8_claim 7 = .ok (.if_icmp .ne 7, 3) := by decide +kernel
theorem dX8_claim_10 : decode cX8_claim 10 = .ok (.iconst 1, 1) := by decide +kernel
theorem dX8_claim_11 : decode cX8_claim 11 = .ok (.goto 15, 3) := by decide +kernel
theorem dX8_claim_14 : decode cX8_claim 14 = .ok (.aload_n 0, 1) := by decide +kernel
theorem dX8_claim_15 : decode cX8_claim 15 = .ok (.getfield 75, 3) := by decide +kernel
theorem dX8_claim_18 : decode cX8_claim 18 = .ok (.ifCond .eq 7, 3) := by decide +kernel
theorem dX8_claim_21 : decode cX8_claim 21 = .ok (.iconst 2, 1) := by decide +kernel
theorem dX8_claim_22 : decode cX8_claim 22 = .ok (.goto 4, 3) := by decide +kernel
theorem dX8_claim_25 : decode cX8_claim 25 = .ok (.iconst 0, 1) := by decide +kernel
theorem dX8_claim_26 : decode cX8_claim 26 = .ok (.putfield 70, 3) := by decide +kernel
theorem dX8_claim_29 : decode cX8_claim 29 = .ok (.aload_n 0, 1) := by decide +kernel
theorem dX8_claim_30 : decode cX8_claim 30 = .ok (.getfield 70, 3) := by decide +kernel
theorem dX8_claim_33 : decode cX8_claim 33 = .ok (.ifCond .ne 30, 3) := by decide +kernel
theorem dX8_claim_36 : decode cX8_claim 36 = .ok (.aload_n 0, 1) := by decide +kernel
theorem dX8_claim_37 : decode cX8_claim 37 = .ok (.iload_n 1, 1) := by decide +kernel
theorem dX8_claim_38 : decode cX8_claim 38 = .ok (.putfield 92, 3) := by decide +kernel
theorem dX8_claim_41 : decode cX8_claim 41 = .ok (.aload_n 0, 1) := by decide +kernel
theorem dX8_claim_42 : decode cX8_claim 42 = .ok (.iconst 1, 1) := by decide +kernel
theorem dX8_claim_43 : decode cX8_claim 43 = .ok (.putfield 75, 3) := by decide +kernel
theorem dX8_claim_46 : decode cX8_claim 46 = .ok (.aload_n 0, 1) := by decide +kernel
theorem dX8_claim_47 : decode cX8_claim 47 = .ok (.aload_n 0, 1) := by decide +kernel
theorem dX8_claim_48 : decode cX8_claim 48 = .ok (.getfield 118, 3) := by decide +kernel
theorem dX8_claim_51 : decode cX8_claim 51 = .ok (.putfield 163, 3) := by decide +kernel
theorem dX8_claim_54 : decode cX8_claim 54 = .ok (.aload_n 0, 1) := by decide +kernel
theorem dX8_claim_55 : decode cX8_claim 55 = .ok (.iconst (-1), 1) := by decide +kernel
theorem dX8_claim_56 : decode cX8_claim 56 = .ok (.putfield 15, 3) := by decide +kernel
theorem dX8_claim_59 : decode cX8_claim 59 = .ok (.aload_n 0, 1) := by decide +kernel
theorem dX8_claim_60 : decode cX8_claim 60 = .ok (.invokevirtual 166, 3) := by decide +kernel
theorem dX8_claim_63 : decode cX8_claim 63 = .ok (.return_, 1) := by decide +kernel
theorem dX8_release_0 : decode cX8_release 0 = .ok (.aload_n 0, 1) := by decide +kernel
theorem dX8_release_1 : decode cX8_release 1 = .ok (.iconst 0, 1) := by decide +kernel
theorem dX8_release_2 : decode cX8_release 2 = .ok (.putfield 70, 3) := by decide +kernel
theorem dX8_release_5 : decode cX8_release 5 = .ok (.aload_n 0, 1) := by decide +kernel
theorem dX8_release_6 : decode cX8_release 6 = .ok (.getfield 75, 3) := by decide +kernel
theorem dX8_release_9 : decode cX8_release 9 = .ok (.ifCond .le 7, 3) := by decide +kernel
theorem dX8_release_12 : decode cX8_release 12 = .ok (.iconst 1, 1) := by decide +kernel
theorem dX8_release_13 : decode cX8_release 13 = .ok (.goto 4, 3) := by decide +kernel
theorem dX8_release_16 : decode cX8_release 16 = .ok (.iconst 0, 1) := by decide +kernel
theorem dX8_release_17 : decode cX8_release 17 = .ok (.istore_n 1, 1) := by decide +kernel
theorem dX8_release_18 : decode cX8_release 18 = .ok (.aload_n 0, 1) := by decide +kernel
theorem dX8_release_19 : decode cX8_release 19 = .ok (.invokevirtual 128, 3) := by decide +kernel
theorem dX8_release_22 : decode cX8_release 22 = .ok (.iload_n 1, 1) := by decide +kernel
theorem dX8_release_23 : decode cX8_release 23 = .ok (.ireturn, 1) := by decide +kernel
theorem dX8_send_0 : decode cX8_send 0 = .ok (.aload_n 0, 1) := by decide +kernel
theorem dX8_send_1 : decode cX8_send 1 = .ok (.iload_n 1, 1) := by decide +kernel
theorem dX8_send_2 : decode cX8_send 2 = .ok (.ifCond .eq 16, 3) := by decide +kernel
theorem dX8_send_5 : decode cX8_send 5 = .ok (.iload_n 1, 1) := by decide +kernel
theorem dX8_send_6 : decode cX8_send 6 = .ok (.iconst (-1), 1) := by decide +kernel
theorem dX8_send_7 : decode cX8_send 7 = .ok (.if_icmp .eq 11, 3) := by decide +kernel
theorem dX8_send_10 : decode cX8_send 10 = .ok (.iload_n 1, 1) := by decide +kernel
theorem dX8_send_11 : decode cX8_send 11 = .ok (.aload_n 0, 1) := by decide +kernel
theorem dX8_send_12 : decode cX8_send 12 = .ok (.getfield 92, 3) := by decide +kernel
theorem dX8_send_15 : decode cX8_send 15 = .ok (.if_icmp .ne 7, 3) := by decide +kernel
theorem dX8_send_18 : decode cX8_send 18 = .ok (.iconst 1, 1) := by decide +kernel
theorem dX8_send_19 : decode cX8_send 19 = .ok (.goto 16, 3) := by decide +kernel
theorem dX8_send_22 : decode cX8_send 22 = .ok (.aload_n 0, 1) := by decide +kernel
theorem dX8_send_23 : decode cX8_send 23 = .ok (.getfield 75, 3) := by decide +kernel
theorem dX8_send_26 : decode cX8_send 26 = .ok (.iconst 2, 1) := by decide +kernel
theorem dX8_send_27 : decode cX8_send 27 = .ok (.if_icmp .ge 7, 3) := by decide +kernel
theorem dX8_send_30 : decode cX8_send 30 = .ok (.iconst 2, 1) := by decide +kernel
theorem dX8_send_31 : decode cX8_send 31 = .ok (.goto 4, 3) := by decide +kernel
theorem dX8_send_34 : decode cX8_send 34 = .ok (.iconst 0, 1) := by decide +kernel
theorem dX8_send_35 : decode cX8_send 35 = .ok (.putfield 70, 3) := by decide +kernel
theorem dX8_send_38 : decode cX8_send 38 = .ok (.aload_n 0, 1) := by decide +kernel
theorem dX8_send_39 : decode cX8_send 39 = .ok (.getfield 70, 3) := by decide +kernel
theorem dX8_send_42 : decode cX8_send 42 = .ok (.ifCond .le 5, 3) := by decide +kernel
theorem dX8_send_45 : decode cX8_send 45 = .ok (.iconst 0, 1) := by decide +kernel
theorem dX8_send_46 : decode cX8_send 46 = .ok (.ireturn, 1) := by decide +kernel
theorem dX8_send_47 : decode cX8_send 47 = .ok (.aload_n 0, 1) := by decide +kernel
theorem dX8_send_48 : decode cX8_send 48 = .ok (.iload_n 1, 1) := by decide +kernel
theorem dX8_send_49 : decode cX8_send 49 = .ok (.invokevirtual 146, 3) := by decide +kernel
theorem dX8_send_52 : decode cX8_send 52 = .ok (.istore_n 3, 1) := by decide +kernel
theorem dX8_send_53 : decode cX8_send 53 = .ok (.iload_n 3, 1) := by decide +kernel
theorem dX8_send_54 : decode cX8_send 54 = .ok (.iconst (-1), 1) := by decide +kernel
theorem dX8_send_55 : decode cX8_send 55 = .ok (.if_icmp .ne 60, 3) := by decide +kernel
theorem dX8_send_58 : decode cX8_send 58 = .ok (.aload_n 0, 1) := by decide +kernel
theorem dX8_send_59 : decode cX8_send 59 = .ok (.invokevirtual 153, 3) := by decide +kernel
theorem dX8_send_62 : decode cX8_send 62 = .ok (.ifCond .ne 10, 3) := by decide +kernel
theorem dX8_send_65 : decode cX8_send 65 = .ok (.aload_n 0, 1) := by decide +kernel
theorem dX8_send_66 : decode cX8_send 66 = .ok (.iload_n 2, 1) := by decide +kernel
theorem dX8_send_67 : decode cX8_send 67 = .ok (.invokevirtual 111, 3) := by decide +kernel
theorem dX8_send_70 : decode cX8_send 70 = .ok (.iconst 2, 1) := by decide +kernel
theorem dX8_send_71 : decode cX8_send 71 = .ok (.ireturn, 1) := by decide +kernel
theorem dX8_send_72 : decode cX8_send 72 = .ok (.aload_n 0, 1) := by decide +kernel
theorem dX8_send_73 : decode cX8_send 73 = .ok (.iload_n 1, 1) := by decide +kernel
theorem dX8_send_74 : decode cX8_send 74 = .ok (.iconst 1, 1) := by decide +kernel
theorem dX8_send_75 : decode cX8_send 75 = .ok (.lconst 0, 1) := by decide +kernel
theorem dX8_send_76 : decode cX8_send 76 = .ok (.invokevirtual 156, 3) := by decide +kernel
theorem dX8_send_79 : decode cX8_send 79 = .ok (.aload_n 0, 1) := by decide +kernel
theorem dX8_send_80 : decode cX8_send 80 = .ok (.ldc2_w 99, 3) := by decide +kernel
theorem dX8_send_83 : decode cX8_send 83 = .ok (.iload_n 1, 1) := by decide +kernel
theorem dX8_send_84 : decode cX8_send 84 = .ok (.invokevirtual 124, 3) := by decide +kernel
theorem dX8_send_87 : decode cX8_send 87 = .ok (.aload_n 0, 1) := by decide +kernel
theorem dX8_send_88 : decode cX8_send 88 = .ok (.getfield 42, 3) := by decide +kernel
theorem dX8_send_91 : decode cX8_send 91 = .ok (.iconst 4, 1) := by decide +kernel
theorem dX8_send_92 : decode cX8_send 92 = .ok (.aload_n 0, 1) := by decide +kernel
theorem dX8_send_93 : decode cX8_send 93 = .ok (.getfield 104, 3) := by decide +kernel
theorem dX8_send_96 : decode cX8_send 96 = .ok (.iconst 1, 1) := by decide +kernel
theorem dX8_send_97 : decode cX8_send 97 = .ok (.isub, 1) := by decide +kernel
theorem dX8_send_98 : decode cX8_send 98 = .ok (.imul, 1) := by decide +kernel
theorem dX8_send_99 : decode cX8_send 99 = .ok (.iload_n 2, 1) := by decide +kernel
theorem dX8_send_100 : decode cX8_send 100 = .ok (.iastore, 1) := by decide +kernel
theorem dX8_send_101 : decode cX8_send 101 = .ok (.aload_n 0, 1) := by decide +kernel
theorem dX8_send_102 : decode cX8_send 102 = .ok (.getfield 39, 3) := by decide +kernel
theorem dX8_send_105 : decode cX8_send 105 = .ok (.aload_n 0, 1) := by decide +kernel
theorem dX8_send_106 : decode cX8_send 106 = .ok (.getfield 104, 3) := by decide +kernel
theorem dX8_send_109 : decode cX8_send 109 = .ok (.iconst 1, 1) := by decide +kernel
theorem dX8_send_110 : decode cX8_send 110 = .ok (.isub, 1) := by decide +kernel
theorem dX8_send_111 : decode cX8_send 111 = .ok (.iconst 1, 1) := by decide +kernel
theorem dX8_send_112 : decode cX8_send 112 = .ok (.iastore, 1) := by decide +kernel
theorem dX8_send_113 : decode cX8_send 113 = .ok (.iconst 1, 1) := by decide +kernel
theorem dX8_send_114 : decode cX8_send 114 = .ok (.ireturn, 1) := by decide +kernel
theorem dX8_send_115 : decode cX8_send 115 = .ok (.iconst 0, 1) := by decide +kernel
theorem dX8_send_116 : decode cX8_send 116 = .ok (.istore 4, 2) := by decide +kernel
theorem dX8_send_118 : decode cX8_send 118 = .ok (.aload_n 0, 1) := by decide +kernel
theorem dX8_send_119 : decode cX8_send 119 = .ok (.getfield 26, 3) := by decide +kernel
theorem dX8_send_122 : decode cX8_send 122 = .ok (.iload_n 3, 1) := by decide +kernel
theorem dX8_send_123 : decode cX8_send 123 = .ok (.iaload, 1) := by decide +kernel
theorem dX8_send_124 : decode cX8_send 124 = .ok (.iconst 1, 1) := by decide +kernel
theorem dX8_send_125 : decode cX8_send 125 = .ok (.if_icmp .ne 74, 3) := by decide +kernel
theorem dX8_send_128 : decode cX8_send 128 = .ok (.aload_n 0, 1) := by decide +kernel
theorem dX8_send_129 : decode cX8_send 129 = .ok (.getfield 39, 3) := by decide +kernel
theorem dX8_send_132 : decode cX8_send 132 = .ok (.iload_n 3, 1) := by decide +kernel
theorem dX8_send_133 : decode cX8_send 133 = .ok (.iaload, 1) := by decide +kernel
theorem dX8_send_134 : decode cX8_send 134 = .ok (.iconst 4, 1) := by decide +kernel
theorem dX8_send_135 : decode cX8_send 135 = .ok (.if_icmp .ge 7, 3) := by decide +kernel
theorem dX8_send_138 : decode cX8_send 138 = .ok (.iconst 1, 1) := by decide +kernel
theorem dX8_send_139 : decode cX8_send 139 = .ok (.goto 4, 3) := by decide +kernel
theorem dX8_send_142 : decode cX8_send 142 = .ok (.iconst 0, 1) := by decide +kernel
theorem dX8_send_143 : decode cX8_send 143 = .ok (.istore 5, 2) := by decide +kernel
theorem dX8_send_145 : decode cX8_send 145 = .ok (.iload 5, 2) := by decide +kernel
theorem dX8_send_147 : decode cX8_send 147 = .ok (.ifCond .eq 7, 3) := by decide +kernel
theorem dX8_send_150 : decode cX8_send 150 = .ok (.iconst 1, 1) := by decide +kernel
theorem dX8_send_151 : decode cX8_send 151 = .ok (.goto 4, 3) := by decide +kernel
theorem dX8_send_154 : decode cX8_send 154 = .ok (.iconst 2, 1) := by decide +kernel
theorem dX8_send_155 : decode cX8_send 155 = .ok (.istore 4, 2) := by decide +kernel
theorem dX8_send_157 : decode cX8_send 157 = .ok (.iload 5, 2) := by decide +kernel
theorem dX8_send_159 : decode cX8_send 159 = .ok (.ifCond .eq 32, 3) := by decide +kernel
theorem dX8_send_162 : decode cX8_send 162 = .ok (.aload_n 0, 1) := by decide +kernel
theorem dX8_send_163 : decode cX8_send 163 = .ok (.getfield 42, 3) := by decide +kernel
theorem dX8_send_166 : decode cX8_send 166 = .ok (.iconst 4, 1) := by decide +kernel
theorem dX8_send_167 : decode cX8_send 167 = .ok (.iload_n 3, 1) := by decide +kernel
theorem dX8_send_168 : decode cX8_send 168 = .ok (.imul, 1) := by decide +kernel
theorem dX8_send_169 : decode cX8_send 169 = .ok (.aload_n 0, 1) := by decide +kernel
theorem dX8_send_170 : decode cX8_send 170 = .ok (.getfield 39, 3) := by decide +kernel
theorem dX8_send_173 : decode cX8_send 173 = .ok (.iload_n 3, 1) := by decide +kernel
theorem dX8_send_174 : decode cX8_send 174 = .ok (.iaload, 1) := by decide +kernel
theorem dX8_send_175 : decode cX8_send 175 = .ok (.iadd, 1) := by decide +kernel
theorem dX8_send_176 : decode cX8_send 176 = .ok (.iload_n 2, 1) := by decide +kernel
theorem dX8_send_177 : decode cX8_send 177 = .ok (.iastore, 1) := by decide +kernel
theorem dX8_send_178 : decode cX8_send 178 = .ok (.aload_n 0, 1) := by decide +kernel
theorem dX8_send_179 : decode cX8_send 179 = .ok (.getfield 39, 3) := by decide +kernel
theorem dX8_send_182 : decode cX8_send 182 = .ok (.iload_n 3, 1) := by decide +kernel
theorem dX8_send_183 : decode cX8_send 183 = .ok (.dup2, 1) := by decide +kernel
theorem dX8_send_184 : decode cX8_send 184 = .ok (.iaload, 1) := by decide +kernel
theorem dX8_send_185 : decode cX8_send 185 = .ok (.iconst 1, 1) := by decide +kernel
theorem dX8_send_186 : decode cX8_send 186 = .ok (.iadd, 1) := by decide +kernel
theorem dX8_send_187 : decode cX8_send 187 = .ok (.iastore, 1) := by decide +kernel
theorem dX8_send_188 : decode cX8_send 188 = .ok (.goto 8, 3) := by decide +kernel
theorem dX8_send_191 : decode cX8_send 191 = .ok (.aload_n 0, 1) := by decide +kernel
theorem dX8_send_192 : decode cX8_send 192 = .ok (.iload_n 2, 1) := by decide +kernel
theorem dX8_send_193 : decode cX8_send 193 = .ok (.invokevirtual 111, 3) := by decide +kernel
theorem dX8_send_196 : decode cX8_send 196 = .ok (.goto 52, 3) := by decide +kernel
theorem dX8_send_199 : decode cX8_send 199 = .ok (.aload_n 0, 1) := by decide +kernel
theorem dX8_send_200 : decode cX8_send 200 = .ok (.aload_n 0, 1) := by decide +kernel
theorem dX8_send_201 : decode cX8_send 201 = .ok (.getfield 29, 3) := by decide +kernel
theorem dX8_send_204 : decode cX8_send 204 = .ok (.iload_n 3, 1) := by decide +kernel
theorem dX8_send_205 : decode cX8_send 205 = .ok (.laload, 1) := by decide +kernel
theorem dX8_send_206 : decode cX8_send 206 = .ok (.iload_n 2, 1) := by decide +kernel
theorem dX8_send_207 : decode cX8_send 207 = .ok (.invokevirtual 131, 3) := by decide +kernel
theorem dX8_send_210 : decode cX8_send 210 = .ok (.aload_n 0, 1) := by decide +kernel
theorem dX8_send_211 : decode cX8_send 211 = .ok (.getfield 26, 3) := by decide +kernel
theorem dX8_send_214 : decode cX8_send 214 = .ok (.iload_n 3, 1) := by decide +kernel
theorem dX8_send_215 : decode cX8_send 215 = .ok (.iaload, 1) := by decide +kernel
theorem dX8_send_216 : decode cX8_send 216 = .ok (.iconst 3, 1) := by decide +kernel
theorem dX8_send_217 : decode cX8_send 217 = .ok (.if_icmp .ne 31, 3) := by decide +kernel
theorem dX8_send_220 : decode cX8_send 220 = .ok (.aload_n 0, 1) := by decide +kernel
theorem dX8_send_221 : decode cX8_send 221 = .ok (.aload_n 0, 1) := by decide +kernel
theorem dX8_send_222 : decode cX8_send 222 = .ok (.getfield 29, 3) := by decide +kernel
theorem dX8_send_225 : decode cX8_send 225 = .ok (.iload_n 3, 1) := by decide +kernel
theorem dX8_send_226 : decode cX8_send 226 = .ok (.laload, 1) := by decide +kernel
theorem dX8_send_227 : decode cX8_send 227 = .ok (.iload_n 1, 1) := by decide +kernel
theorem dX8_send_228 : decode cX8_send 228 = .ok (.invokevirtual 124, 3) := by decide +kernel
theorem dX8_send_231 : decode cX8_send 231 = .ok (.aload_n 0, 1) := by decide +kernel
theorem dX8_send_232 : decode cX8_send 232 = .ok (.getfield 26, 3) := by decide +kernel
theorem dX8_send_235 : decode cX8_send 235 = .ok (.iload_n 3, 1) := by decide +kernel
theorem dX8_send_236 : decode cX8_send 236 = .ok (.iconst 4, 1) := by decide +kernel
theorem dX8_send_237 : decode cX8_send 237 = .ok (.iastore, 1) := by decide +kernel
theorem dX8_send_238 : decode cX8_send 238 = .ok (.aload_n 0, 1) := by decide +kernel
theorem dX8_send_239 : decode cX8_send 239 = .ok (.getfield 33, 3) := by decide +kernel
theorem dX8_send_242 : decode cX8_send 242 = .ok (.iload_n 3, 1) := by decide +kernel
theorem dX8_send_243 : decode cX8_send 243 = .ok (.aload_n 0, 1) := by decide +kernel
theorem dX8_send_244 : decode cX8_send 244 = .ok (.getfield 118, 3) := by decide +kernel
theorem dX8_send_247 : decode cX8_send 247 = .ok (.iastore, 1) := by decide +kernel
theorem dX8_send_248 : decode cX8_send 248 = .ok (.aload_n 0, 1) := by decide +kernel
theorem dX8_send_249 : decode cX8_send 249 = .ok (.iload_n 3, 1) := by decide +kernel
theorem dX8_send_250 : decode cX8_send 250 = .ok (.invokevirtual 169, 3) := by decide +kernel
theorem dX8_send_253 : decode cX8_send 253 = .ok (.iload 4, 2) := by decide +kernel
theorem dX8_send_255 : decode cX8_send 255 = .ok (.ireturn, 1) := by decide +kernel
theorem dX8_ownTick_0 : decode cX8_ownTick 0 = .ok (.aload_n 0, 1) := by decide +kernel
theorem dX8_ownTick_1 : decode cX8_ownTick 1 = .ok (.getfield 118, 3) := by decide +kernel
theorem dX8_ownTick_4 : decode cX8_ownTick 4 = .ok (.aload_n 0, 1) := by decide +kernel
theorem dX8_ownTick_5 : decode cX8_ownTick 5 = .ok (.getfield 163, 3) := by decide +kernel
theorem dX8_ownTick_8 : decode cX8_ownTick 8 = .ok (.isub, 1) := by decide +kernel
theorem dX8_ownTick_9 : decode cX8_ownTick 9 = .ok (.istore_n 1, 1) := by decide +kernel
theorem dX8_ownTick_10 : decode cX8_ownTick 10 = .ok (.aload_n 0, 1) := by decide +kernel
theorem dX8_ownTick_11 : decode cX8_ownTick 11 = .ok (.getfield 75, 3) := by decide +kernel
theorem dX8_ownTick_14 : decode cX8_ownTick 14 = .ok (.iconst 1, 1) := by decide +kernel
theorem dX8_ownTick_15 : decode cX8_ownTick 15 = .ok (.if_icmp .ne 20, 3) := by decide +kernel
theorem dX8_ownTick_18 : decode cX8_ownTick 18 = .ok (.iload_n 1, 1) := by decide +kernel
theorem dX8_ownTick_19 : decode cX8_ownTick 19 = .ok (.iconst 2, 1) := by decide +kernel
theorem dX8_ownTick_20 : decode cX8_ownTick 20 = .ok (.if_icmp .eq 8, 3) := by decide +kernel
theorem dX8_ownTick_23 : decode cX8_ownTick 23 = .ok (.iload_n 1, 1) := by decide +kernel
theorem dX8_ownTick_24 : decode cX8_ownTick 24 = .ok (.iconst 4, 1) := by decide +kernel
theorem dX8_ownTick_25 : decode cX8_ownTick 25 = .ok (.if_icmp .ne 10, 3) := by decide +kernel
theorem dX8_ownTick_28 : decode cX8_ownTick 28 = .ok (.aload_n 0, 1) := by decide +kernel
theorem dX8_ownTick_29 : decode cX8_ownTick 29 = .ok (.invokevirtual 166, 3) := by decide +kernel
theorem dX8_ownTick_32 : decode cX8_ownTick 32 = .ok (.goto 52, 3) := by decide +kernel
theorem dX8_ownTick_35 : decode cX8_ownTick 35 = .ok (.aload_n 0, 1) := by decide +kernel
theorem dX8_ownTick_36 : decode cX8_ownTick 36 = .ok (.getfield 75, 3) := by decide +kernel
theorem dX8_ownTick_39 : decode cX8_ownTick 39 = .ok (.iconst 1, 1) := by decide +kernel
theorem dX8_ownTick_40 : decode cX8_ownTick 40 = .ok (.if_icmp .ne 9, 3) := by decide +kernel
theorem dX8_ownTick_43 : decode cX8_ownTick 43 = .ok (.iload_n 1, 1) := by decide +kernel
theorem dX8_ownTick_44 : decode cX8_ownTick 44 = .ok (.bipush 6, 2) := by decide +kernel
theorem dX8_ownTick_46 : decode cX8_ownTick 46 = .ok (.if_icmp .eq 17, 3) := by decide +kernel
theorem dX8_ownTick_49 : decode cX8_ownTick 49 = .ok (.aload_n 0, 1) := by decide +kernel
theorem dX8_ownTick_50 : decode cX8_ownTick 50 = .ok (.getfield 75, 3) := by decide +kernel
theorem dX8_ownTick_53 : decode cX8_ownTick 53 = .ok (.iconst 2, 1) := by decide +kernel
theorem dX8_ownTick_54 : decode cX8_ownTick 54 = .ok (.if_icmp .ne 30, 3) := by decide +kernel
theorem dX8_ownTick_57 : decode cX8_ownTick 57 = .ok (.iload_n 1, 1) := by decide +kernel
theorem dX8_ownTick_58 : decode cX8_ownTick 58 = .ok (.bipush 8, 2) := by decide +kernel
theorem dX8_ownTick_60 : decode cX8_ownTick 60 = .ok (.if_icmp .ne 24, 3) := by decide +kernel
theorem dX8_ownTick_63 : decode cX8_ownTick 63 = .ok (.aload_n 0, 1) := by decide +kernel
theorem dX8_ownTick_64 : decode cX8_ownTick 64 = .ok (.ldc2_w 99, 3) := by decide +kernel
theorem dX8_ownTick_67 : decode cX8_ownTick 67 = .ok (.aload_n 0, 1) := by decide +kernel
theorem dX8_ownTick_68 : decode cX8_ownTick 68 = .ok (.getfield 92, 3) := by decide +kernel
theorem dX8_ownTick_71 : decode cX8_ownTick 71 = .ok (.invokevirtual 124, 3) := by decide +kernel
theorem dX8_ownTick_74 : decode cX8_ownTick 74 = .ok (.aload_n 0, 1) := by decide +kernel
theorem dX8_ownTick_75 : decode cX8_ownTick 75 = .ok (.dup, 1) := by decide +kernel
theorem dX8_ownTick_76 : decode cX8_ownTick 76 = .ok (.getfield 75, 3) := by decide +kernel
theorem dX8_ownTick_79 : decode cX8_ownTick 79 = .ok (.iconst 1, 1) := by decide +kernel
theorem dX8_ownTick_80 : decode cX8_ownTick 80 = .ok (.iadd, 1) := by decide +kernel
theorem dX8_ownTick_81 : decode cX8_ownTick 81 = .ok (.putfield 75, 3) := by decide +kernel
theorem dX8_ownTick_84 : decode cX8_ownTick 84 = .ok (.return_, 1) := by decide +kernel
theorem dX8_entryTick_0 : decode cX8_entryTick 0 = .ok (.aload_n 0, 1) := by decide +kernel
theorem dX8_entryTick_1 : decode cX8_entryTick 1 = .ok (.getfield 118, 3) := by decide +kernel
theorem dX8_entryTick_4 : decode cX8_entryTick 4 = .ok (.aload_n 0, 1) := by decide +kernel
theorem dX8_entryTick_5 : decode cX8_entryTick 5 = .ok (.getfield 33, 3) := by decide +kernel
theorem dX8_entryTick_8 : decode cX8_entryTick 8 = .ok (.iload_n 1, 1) := by decide +kernel
theorem dX8_entryTick_9 : decode cX8_entryTick 9 = .ok (.iaload, 1) := by decide +kernel
theorem dX8_entryTick_10 : decode cX8_entryTick 10 = .ok (.isub, 1) := by decide +kernel
theorem dX8_entryTick_11 : decode cX8_entryTick 11 = .ok (.istore_n 2, 1) := by decide +kernel
theorem dX8_entryTick_12 : decode cX8_entryTick 12 = .ok (.aload_n 0, 1) := by decide +kernel
theorem dX8_entryTick_13 : decode cX8_entryTick 13 = .ok (.getfield 26, 3) := by decide +kernel
theorem dX8_entryTick_16 : decode cX8_entryTick 16 = .ok (.iload_n 1, 1) := by decide +kernel
theorem dX8_entryTick_17 : decode cX8_entryTick 17 = .ok (.iaload, 1) := by decide +kernel
theorem dX8_entryTick_18 : decode cX8_entryTick 18 = .ok (.iconst 1, 1) := by decide +kernel
theorem dX8_entryTick_19 : decode cX8_entryTick 19 = .ok (.if_icmp .ne 38, 3) := by decide +kernel
theorem dX8_entryTick_22 : decode cX8_entryTick 22 = .ok (.iload_n 2, 1) := by decide +kernel
theorem dX8_entryTick_23 : decode cX8_entryTick 23 = .ok (.iconst 2, 1) := by decide +kernel
theorem dX8_entryTick_24 : decode cX8_entryTick 24 = .ok (.if_icmp .eq 8, 3) := by decide +kernel
theorem dX8_entryTick_27 : decode cX8_entryTick 27 = .ok (.iload_n 2, 1) := by decide +kernel
theorem dX8_entryTick_28 : decode cX8_entryTick 28 = .ok (.iconst 4, 1) := by decide +kernel
theorem dX8_entryTick_29 : decode cX8_entryTick 29 = .ok (.if_icmp .ne 16, 3) := by decide +kernel
theorem dX8_entryTick_32 : decode cX8_entryTick 32 = .ok (.aload_n 0, 1) := by decide +kernel
theorem dX8_entryTick_33 : decode cX8_entryTick 33 = .ok (.ldc2_w 99, 3) := by decide +kernel
theorem dX8_entryTick_36 : decode cX8_entryTick 36 = .ok (.aload_n 0, 1) := by decide +kernel
theorem dX8_entryTick_37 : decode cX8_entryTick 37 = .ok (.getfield 23, 3) := by decide +kernel
theorem dX8_entryTick_40 : decode cX8_entryTick 40 = .ok (.iload_n 1, 1) := by decide +kernel
theorem dX8_entryTick_41 : decode cX8_entryTick 41 = .ok (.iaload, 1) := by decide +kernel
theorem dX8_entryTick_42 : decode cX8_entryTick 42 = .ok (.invokevirtual 124, 3) := by decide +kernel
theorem dX8_entryTick_45 : decode cX8_entryTick 45 = .ok (.iload_n 2, 1) := by decide +kernel
theorem dX8_entryTick_46 : decode cX8_entryTick 46 = .ok (.bipush 6, 2) := by decide +kernel
theorem dX8_entryTick_48 : decode cX8_entryTick 48 = .ok (.if_icmp .ge 7, 3) := by decide +kernel
theorem dX8_entryTick_51 : decode cX8_entryTick 51 = .ok (.iconst 1, 1) := by decide +kernel
theorem dX8_entryTick_52 : decode cX8_entryTick 52 = .ok (.goto 4, 3) := by decide +kernel
theorem dX8_entryTick_55 : decode cX8_entryTick 55 = .ok (.iconst 0, 1) := by decide +kernel
theorem dX8_entryTick_56 : decode cX8_entryTick 56 = .ok (.ireturn, 1) := by decide +kernel
theorem dX8_entryTick_57 : decode cX8_entryTick 57 = .ok (.aload_n 0, 1) := by decide +kernel
theorem dX8_entryTick_58 : decode cX8_entryTick 58 = .ok (.getfield 26, 3) := by decide +kernel
theorem dX8_entryTick_61 : decode cX8_entryTick 61 = .ok (.iload_n 1, 1) := by decide +kernel
theorem dX8_entryTick_62 : decode cX8_entryTick 62 = .ok (.iaload, 1) := by decide +kernel
theorem dX8_entryTick_63 : decode cX8_entryTick 63 = .ok (.iconst 4, 1) := by decide +kernel
theorem dX8_entryTick_64 : decode cX8_entryTick 64 = .ok (.if_icmp .ne 40, 3) := by decide +kernel
theorem dX8_entryTick_67 : decode cX8_entryTick 67 = .ok (.iload_n 2, 1) := by decide +kernel
theorem dX8_entryTick_68 : decode cX8_entryTick 68 = .ok (.iconst 1, 1) := by decide +kernel
theorem dX8_entryTick_69 : decode cX8_entryTick 69 = .ok (.if_icmp .eq 8, 3) := by decide +kernel
theorem dX8_entryTick_72 : decode cX8_entryTick 72 = .ok (.iload_n 2, 1) := by decide +kernel
theorem dX8_entryTick_73 : decode cX8_entryTick 73 = .ok (.iconst 2, 1) := by decide +kernel
theorem dX8_entryTick_74 : decode cX8_entryTick 74 = .ok (.if_icmp .ne 19, 3) := by decide +kernel
theorem dX8_entryTick_77 : decode cX8_entryTick 77 = .ok (.aload_n 0, 1) := by decide +kernel
theorem dX8_entryTick_78 : decode cX8_entryTick 78 = .ok (.aload_n 0, 1) := by decide +kernel
theorem dX8_entryTick_79 : decode cX8_entryTick 79 = .ok (.getfield 29, 3) := by decide +kernel
theorem dX8_entryTick_82 : decode cX8_entryTick 82 = .ok (.iload_n 1, 1) := by decide +kernel
theorem dX8_entryTick_83 : decode cX8_entryTick 83 = .ok (.laload, 1) := by decide +kernel
theorem dX8_entryTick_84 : decode cX8_entryTick 84 = .ok (.aload_n 0, 1) := by decide +kernel
theorem dX8_entryTick_85 : decode cX8_entryTick 85 = .ok (.getfield 23, 3) := by decide +kernel
theorem dX8_entryTick_88 : decode cX8_entryTick 88 = .ok (.iload_n 1, 1) := by decide +kernel
theorem dX8_entryTick_89 : decode cX8_entryTick 89 = .ok (.iaload, 1) := by decide +kernel
theorem dX8_entryTick_90 : decode cX8_entryTick 90 = .ok (.invokevirtual 124, 3) := by decide +kernel
theorem dX8_entryTick_93 : decode cX8_entryTick 93 = .ok (.iload_n 2, 1) := by decide +kernel
theorem dX8_entryTick_94 : decode cX8_entryTick 94 = .ok (.iconst 3, 1) := by decide +kernel
theorem dX8_entryTick_95 : decode cX8_entryTick 95 = .ok (.if_icmp .ge 7, 3) := by decide +kernel
theorem dX8_entryTick_98 : decode cX8_entryTick 98 = .ok (.iconst 1, 1) := by decide +kernel
theorem dX8_entryTick_99 : decode cX8_entryTick 99 = .ok (.goto 4, 3) := by decide +kernel
theorem dX8_entryTick_102 : decode cX8_entryTick 102 = .ok (.iconst 0, 1) := by decide +kernel
theorem dX8_entryTick_103 : decode cX8_entryTick 103 = .ok (.ireturn, 1) := by decide +kernel
theorem dX8_entryTick_104 : decode cX8_entryTick 104 = .ok (.aload_n 0, 1) := by decide +kernel
theorem dX8_entryTick_105 : decode cX8_entryTick 105 = .ok (.getfield 26, 3) := by decide +kernel
theorem dX8_entryTick_108 : decode cX8_entryTick 108 = .ok (.iload_n 1, 1) := by decide +kernel
theorem dX8_entryTick_109 : decode cX8_entryTick 109 = .ok (.iaload, 1) := by decide +kernel
theorem dX8_entryTick_110 : decode cX8_entryTick 110 = .ok (.iconst 3, 1) := by decide +kernel
theorem dX8_entryTick_111 : decode cX8_entryTick 111 = .ok (.if_icmp .ne 27, 3) := by decide +kernel
theorem dX8_entryTick_114 : decode cX8_entryTick 114 = .ok (.aload_n 0, 1) := by decide +kernel
theorem dX8_entryTick_115 : decode cX8_entryTick 115 = .ok (.getfield 118, 3) := by decide +kernel
theorem dX8_entryTick_118 : decode cX8_entryTick 118 = .ok (.aload_n 0, 1) := by decide +kernel
theorem dX8_entryTick_119 : decode cX8_entryTick 119 = .ok (.getfield 36, 3) := by decide +kernel
theorem dX8_entryTick_122 : decode cX8_entryTick 122 = .ok (.iload_n 1, 1) := by decide +kernel
theorem dX8_entryTick_123 : decode cX8_entryTick 123 = .ok (.iaload, 1) := by decide +kernel
theorem dX8_entryTick_124 : decode cX8_entryTick 124 = .ok (.isub, 1) := by decide +kernel
theorem dX8_entryTick_125 : decode cX8_entryTick 125 = .ok (.aload_n 0, 1) := by decide +kernel
theorem dX8_entryTick_126 : decode cX8_entryTick 126 = .ok (.getfield 67, 3) := by decide +kernel
theorem dX8_entryTick_129 : decode cX8_entryTick 129 = .ok (.if_icmp .ge 7, 3) := by decide +kernel
theorem dX8_entryTick_132 : decode cX8_entryTick 132 = .ok (.iconst 1, 1) := by decide +kernel
theorem dX8_entryTick_133 : decode cX8_entryTick 133 = .ok (.goto 4, 3) := by decide +kernel
theorem dX8_entryTick_136 : decode cX8_entryTick 136 = .ok (.iconst 0, 1) := by decide +kernel
theorem dX8_entryTick_137 : decode cX8_entryTick 137 = .ok (.ireturn, 1) := by decide +kernel
theorem dX8_entryTick_138 : decode cX8_entryTick 138 = .ok (.iload_n 2, 1) := by decide +kernel
theorem dX8_entryTick_139 : decode cX8_entryTick 139 = .ok (.aload_n 0, 1) := by decide +kernel
theorem dX8_entryTick_140 : decode cX8_entryTick 140 = .ok (.getfield 64, 3) := by decide +kernel
theorem dX8_entryTick_143 : decode cX8_entryTick 143 = .ok (.if_icmp .lt 20, 3) := by decide +kernel
theorem dX8_entryTick_146 : decode cX8_entryTick 146 = .ok (.aload_n 0, 1) := by decide +kernel
theorem dX8_entryTick_147 : decode cX8_entryTick 147 = .ok (.getfield 26, 3) := by decide +kernel
theorem dX8_entryTick_150 : decode cX8_entryTick 150 = .ok (.iload_n 1, 1) := by decide +kernel
theorem dX8_entryTick_151 : decode cX8_entryTick 151 = .ok (.iconst 3, 1) := by decide +kernel
theorem dX8_entryTick_152 : decode cX8_entryTick 152 = .ok (.iastore, 1) := by decide +kernel
theorem dX8_entryTick_153 : decode cX8_entryTick 153 = .ok (.aload_n 0, 1) := by decide +kernel
theorem dX8_entryTick_154 : decode cX8_entryTick 154 = .ok (.getfield 33, 3) := by decide +kernel
theorem dX8_entryTick_157 : decode cX8_entryTick 157 = .ok (.iload_n 1, 1) := by decide +kernel
theorem dX8_entryTick_158 : decode cX8_entryTick 158 = .ok (.aload_n 0, 1) := by decide +kernel
theorem dX8_entryTick_159 : decode cX8_entryTick 159 = .ok (.getfield 118, 3) := by decide +kernel
theorem dX8_entryTick_162 : decode cX8_entryTick 162 = .ok (.iastore, 1) := by decide +kernel
theorem dX8_entryTick_163 : decode cX8_entryTick 163 = .ok (.iconst 1, 1) := by decide +kernel
theorem dX8_entryTick_164 : decode cX8_entryTick 164 = .ok (.ireturn, 1) := by decide +kernel
theorem dX8_tick_0 : decode cX8_tick 0 = .ok (.aload_n 0, 1) := by decide +kernel
theorem dX8_tick_1 : decode cX8_tick 1 = .ok (.iload_n 1, 1) := by decide +kernel
theorem dX8_tick_2 : decode cX8_tick 2 = .ok (.ifCond .lt 9, 3) := by decide +kernel
theorem dX8_tick_5 : decode cX8_tick 5 = .ok (.iload_n 1, 1) := by decide +kernel
theorem dX8_tick_6 : decode cX8_tick 6 = .ok (.bipush 40, 2) := by decide +kernel
theorem dX8_tick_8 : decode cX8_tick 8 = .ok (.if_icmp .le 7, 3) := by decide +kernel
theorem dX8_tick_11 : decode cX8_tick 11 = .ok (.iconst 1, 1) := by decide +kernel
theorem dX8_tick_12 : decode cX8_tick 12 = .ok (.goto 4, 3) := by decide +kernel
theorem dX8_tick_15 : decode cX8_tick 15 = .ok (.iconst 0, 1) := by decide +kernel
theorem dX8_tick_16 : decode cX8_tick 16 = .ok (.putfield 70, 3) := by decide +kernel
theorem dX8_tick_19 : decode cX8_tick 19 = .ok (.iconst 0, 1) := by decide +kernel
theorem dX8_tick_20 : decode cX8_tick 20 = .ok (.istore_n 2, 1) := by decide +kernel
theorem dX8_tick_21 : decode cX8_tick 21 = .ok (.iload_n 2, 1) := by decide +kernel
theorem dX8_tick_22 : decode cX8_tick 22 = .ok (.iload_n 1, 1) := by decide +kernel
theorem dX8_tick_23 : decode cX8_tick 23 = .ok (.if_icmp .ge 62, 3) := by decide +kernel
theorem dX8_tick_26 : decode cX8_tick 26 = .ok (.aload_n 0, 1) := by decide +kernel
theorem dX8_tick_27 : decode cX8_tick 27 = .ok (.getfield 70, 3) := by decide +kernel
theorem dX8_tick_30 : decode cX8_tick 30 = .ok (.ifCond .ne 55, 3) := by decide +kernel
theorem dX8_tick_33 : decode cX8_tick 33 = .ok (.aload_n 0, 1) := by decide +kernel
theorem dX8_tick_34 : decode cX8_tick 34 = .ok (.dup, 1) := by decide +kernel
theorem dX8_tick_35 : decode cX8_tick 35 = .ok (.getfield 118, 3) := by decide +kernel
theorem dX8_tick_38 : decode cX8_tick 38 = .ok (.iconst 1, 1) := by decide +kernel
theorem dX8_tick_39 : decode cX8_tick 39 = .ok (.iadd, 1) := by decide +kernel
theorem dX8_tick_40 : decode cX8_tick 40 = .ok (.putfield 118, 3) := by decide +kernel
theorem dX8_tick_43 : decode cX8_tick 43 = .ok (.aload_n 0, 1) := by decide +kernel
theorem dX8_tick_44 : decode cX8_tick 44 = .ok (.invokevirtual 172, 3) := by decide +kernel
theorem dX8_tick_47 : decode cX8_tick 47 = .ok (.iconst 0, 1) := by decide +kernel
theorem dX8_tick_48 : decode cX8_tick 48 = .ok (.istore_n 3, 1) := by decide +kernel
theorem dX8_tick_49 : decode cX8_tick 49 = .ok (.iload_n 3, 1) := by decide +kernel
theorem dX8_tick_50 : decode cX8_tick 50 = .ok (.aload_n 0, 1) := by decide +kernel
theorem dX8_tick_51 : decode cX8_tick 51 = .ok (.getfield 104, 3) := by decide +kernel
theorem dX8_tick_54 : decode cX8_tick 54 = .ok (.if_icmp .ge 25, 3) := by decide +kernel
theorem dX8_tick_57 : decode cX8_tick 57 = .ok (.aload_n 0, 1) := by decide +kernel
theorem dX8_tick_58 : decode cX8_tick 58 = .ok (.iload_n 3, 1) := by decide +kernel
theorem dX8_tick_59 : decode cX8_tick 59 = .ok (.invokevirtual 175, 3) := by decide +kernel
theorem dX8_tick_62 : decode cX8_tick 62 = .ok (.ifCond .eq 9, 3) := by decide +kernel
theorem dX8_tick_65 : decode cX8_tick 65 = .ok (.iinc 3 1, 3) := by decide +kernel
theorem dX8_tick_68 : decode cX8_tick 68 = .ok (.goto (-19), 3) := by decide +kernel
theorem dX8_tick_71 : decode cX8_tick 71 = .ok (.aload_n 0, 1) := by decide +kernel
theorem dX8_tick_72 : decode cX8_tick 72 = .ok (.iload_n 3, 1) := by decide +kernel
theorem dX8_tick_73 : decode cX8_tick 73 = .ok (.invokevirtual 121, 3) := by decide +kernel
theorem dX8_tick_76 : decode cX8_tick 76 = .ok (.goto (-27), 3) := by decide +kernel
theorem dX8_tick_79 : decode cX8_tick 79 = .ok (.iinc 2 1, 3) := by decide +kernel
theorem dX8_tick_82 : decode cX8_tick 82 = .ok (.goto (-61), 3) := by decide +kernel
theorem dX8_tick_85 : decode cX8_tick 85 = .ok (.aload_n 0, 1) := by decide +kernel
theorem dX8_tick_86 : decode cX8_tick 86 = .ok (.getfield 70, 3) := by decide +kernel
theorem dX8_tick_89 : decode cX8_tick 89 = .ok (.ifCond .le 7, 3) := by decide +kernel
theorem dX8_tick_92 : decode cX8_tick 92 = .ok (.iconst 0, 1) := by decide +kernel
theorem dX8_tick_93 : decode cX8_tick 93 = .ok (.goto 7, 3) := by decide +kernel
theorem dX8_tick_96 : decode cX8_tick 96 = .ok (.aload_n 0, 1) := by decide +kernel
theorem dX8_tick_97 : decode cX8_tick 97 = .ok (.getfield 118, 3) := by decide +kernel
theorem dX8_tick_100 : decode cX8_tick 100 = .ok (.ireturn, 1) := by decide +kernel
theorem dX8_count_0 : decode cX8_count 0 = .ok (.aload_n 0, 1) := by decide +kernel
theorem dX8_count_1 : decode cX8_count 1 = .ok (.iload_n 1, 1) := by decide +kernel
theorem dX8_count_2 : decode cX8_count 2 = .ok (.ifCond .lt 9, 3) := by decide +kernel
theorem dX8_count_5 : decode cX8_count 5 = .ok (.iload_n 1, 1) := by decide +kernel
theorem dX8_count_6 : decode cX8_count 6 = .ok (.bipush 7, 2) := by decide +kernel
theorem dX8_count_8 : decode cX8_count 8 = .ok (.if_icmp .le 7, 3) := by decide +kernel
theorem dX8_count_11 : decode cX8_count 11 = .ok (.iconst 1, 1) := by decide +kernel
theorem dX8_count_12 : decode cX8_count 12 = .ok (.goto 4, 3) := by decide +kernel
theorem dX8_count_15 : decode cX8_count 15 = .ok (.iconst 0, 1) := by decide +kernel
theorem dX8_count_16 : decode cX8_count 16 = .ok (.putfield 70, 3) := by decide +kernel
theorem dX8_count_19 : decode cX8_count 19 = .ok (.aload_n 0, 1) := by decide +kernel
theorem dX8_count_20 : decode cX8_count 20 = .ok (.getfield 70, 3) := by decide +kernel
theorem dX8_count_23 : decode cX8_count 23 = .ok (.ifCond .le 5, 3) := by decide +kernel
theorem dX8_count_26 : decode cX8_count 26 = .ok (.iconst 0, 1) := by decide +kernel
theorem dX8_count_27 : decode cX8_count 27 = .ok (.ireturn, 1) := by decide +kernel
theorem dX8_count_28 : decode cX8_count 28 = .ok (.iload_n 1, 1) := by decide +kernel
theorem dX8_count_29 : decode cX8_count 29 = .ok (.iconst 4, 1) := by decide +kernel
theorem dX8_count_30 : decode cX8_count 30 = .ok (.if_icmp .ge 43, 3) := by decide +kernel
theorem dX8_count_33 : decode cX8_count 33 = .ok (.iload_n 1, 1) := by decide +kernel
theorem dX8_count_34 : decode cX8_count 34 = .ok (.ifCond .ne 10, 3) := by decide +kernel
theorem dX8_count_37 : decode cX8_count 37 = .ok (.aload_n 0, 1) := by decide +kernel
theorem dX8_count_38 : decode cX8_count 38 = .ok (.getfield 75, 3) := by decide +kernel
theorem dX8_count_41 : decode cX8_count 41 = .ok (.goto 31, 3) := by decide +kernel
theorem dX8_count_44 : decode cX8_count 44 = .ok (.iload_n 1, 1) := by decide +kernel
theorem dX8_count_45 : decode cX8_count 45 = .ok (.iconst 1, 1) := by decide +kernel
theorem dX8_count_46 : decode cX8_count 46 = .ok (.if_icmp .ne 10, 3) := by decide +kernel
theorem dX8_count_49 : decode cX8_count 49 = .ok (.aload_n 0, 1) := by decide +kernel
theorem dX8_count_50 : decode cX8_count 50 = .ok (.getfield 92, 3) := by decide +kernel
theorem dX8_count_53 : decode cX8_count 53 = .ok (.goto 19, 3) := by decide +kernel
theorem dX8_count_56 : decode cX8_count 56 = .ok (.iload_n 1, 1) := by decide +kernel
theorem dX8_count_57 : decode cX8_count 57 = .ok (.iconst 2, 1) := by decide +kernel
theorem dX8_count_58 : decode cX8_count 58 = .ok (.if_icmp .ne 10, 3) := by decide +kernel
theorem dX8_count_61 : decode cX8_count 61 = .ok (.aload_n 0, 1) := by decide +kernel
theorem dX8_count_62 : decode cX8_count 62 = .ok (.getfield 118, 3) := by decide +kernel
theorem dX8_count_65 : decode cX8_count 65 = .ok (.goto 7, 3) := by decide +kernel
theorem dX8_count_68 : decode cX8_count 68 = .ok (.aload_n 0, 1) := by decide +kernel
theorem dX8_count_69 : decode cX8_count 69 = .ok (.getfield 104, 3) := by decide +kernel
theorem dX8_count_72 : decode cX8_count 72 = .ok (.ireturn, 1) := by decide +kernel
theorem dX8_count_73 : decode cX8_count 73 = .ok (.iconst 0, 1) := by decide +kernel
theorem dX8_count_74 : decode cX8_count 74 = .ok (.istore_n 2, 1) := by decide +kernel
theorem dX8_count_75 : decode cX8_count 75 = .ok (.iconst 0, 1) := by decide +kernel
theorem dX8_count_76 : decode cX8_count 76 = .ok (.istore_n 3, 1) := by decide +kernel
theorem dX8_count_77 : decode cX8_count 77 = .ok (.iload_n 3, 1) := by decide +kernel
theorem dX8_count_78 : decode cX8_count 78 = .ok (.aload_n 0, 1) := by decide +kernel
theorem dX8_count_79 : decode cX8_count 79 = .ok (.getfield 104, 3) := by decide +kernel
theorem dX8_count_82 : decode cX8_count 82 = .ok (.if_icmp .ge 18, 3) := by decide +kernel
theorem dX8_count_85 : decode cX8_count 85 = .ok (.iload_n 2, 1) := by decide +kernel
theorem dX8_count_86 : decode cX8_count 86 = .ok (.aload_n 0, 1) := by decide +kernel
theorem dX8_count_87 : decode cX8_count 87 = .ok (.getfield 39, 3) := by decide +kernel
theorem dX8_count_90 : decode cX8_count 90 = .ok (.iload_n 3, 1) := by decide +kernel
theorem dX8_count_91 : decode cX8_count 91 = .ok (.iaload, 1) := by decide +kernel
theorem dX8_count_92 : decode cX8_count 92 = .ok (.iadd, 1) := by decide +kernel
theorem dX8_count_93 : decode cX8_count 93 = .ok (.istore_n 2, 1) := by decide +kernel
theorem dX8_count_94 : decode cX8_count 94 = .ok (.iinc 3 1, 3) := by decide +kernel
theorem dX8_count_97 : decode cX8_count 97 = .ok (.goto (-20), 3) := by decide +kernel
theorem dX8_count_100 : decode cX8_count 100 = .ok (.iload_n 1, 1) := by decide +kernel
theorem dX8_count_101 : decode cX8_count 101 = .ok (.iconst 4, 1) := by decide +kernel
theorem dX8_count_102 : decode cX8_count 102 = .ok (.if_icmp .ne 10, 3) := by decide +kernel
theorem dX8_count_105 : decode cX8_count 105 = .ok (.aload_n 0, 1) := by decide +kernel
theorem dX8_count_106 : decode cX8_count 106 = .ok (.getfield 89, 3) := by decide +kernel
theorem dX8_count_109 : decode cX8_count 109 = .ok (.goto 29, 3) := by decide +kernel
theorem dX8_count_112 : decode cX8_count 112 = .ok (.iload_n 1, 1) := by decide +kernel
theorem dX8_count_113 : decode cX8_count 113 = .ok (.iconst 5, 1) := by decide +kernel
theorem dX8_count_114 : decode cX8_count 114 = .ok (.if_icmp .ne 10, 3) := by decide +kernel
theorem dX8_count_117 : decode cX8_count 117 = .ok (.aload_n 0, 1) := by decide +kernel
theorem dX8_count_118 : decode cX8_count 118 = .ok (.getfield 101, 3) := by decide +kernel
theorem dX8_count_121 : decode cX8_count 121 = .ok (.goto 17, 3) := by decide +kernel
theorem dX8_count_124 : decode cX8_count 124 = .ok (.iload_n 1, 1) := by decide +kernel
theorem dX8_count_125 : decode cX8_count 125 = .ok (.bipush 6, 2) := by decide +kernel
theorem dX8_count_127 : decode cX8_count 127 = .ok (.if_icmp .ne 7, 3) := by decide +kernel
theorem dX8_count_130 : decode cX8_count 130 = .ok (.iload_n 2, 1) := by decide +kernel
theorem dX8_count_131 : decode cX8_count 131 = .ok (.goto 7, 3) := by decide +kernel
theorem dX8_count_134 : decode cX8_count 134 = .ok (.aload_n 0, 1) := by decide +kernel
theorem dX8_count_135 : decode cX8_count 135 = .ok (.getfield 15, 3) := by decide +kernel
theorem dX8_count_138 : decode cX8_count 138 = .ok (.ireturn, 1) := by decide +kernel
theorem dX8_entry_0 : decode cX8_entry 0 = .ok (.aload_n 0, 1) := by decide +kernel
theorem dX8_entry_1 : decode cX8_entry 1 = .ok (.iload_n 1, 1) := by decide +kernel
theorem dX8_entry_2 : decode cX8_entry 2 = .ok (.ifCond .lt 11, 3) := by decide +kernel
theorem dX8_entry_5 : decode cX8_entry 5 = .ok (.iload_n 1, 1) := by decide +kernel
theorem dX8_entry_6 : decode cX8_entry 6 = .ok (.aload_n 0, 1) := by decide +kernel
theorem dX8_entry_7 : decode cX8_entry 7 = .ok (.getfield 104, 3) := by decide +kernel
theorem dX8_entry_10 : decode cX8_entry 10 = .ok (.if_icmp .lt 7, 3) := by decide +kernel
theorem dX8_entry_13 : decode cX8_entry 13 = .ok (.iconst 1, 1) := by decide +kernel
theorem dX8_entry_14 : decode cX8_entry 14 = .ok (.goto 4, 3) := by decide +kernel
theorem dX8_entry_17 : decode cX8_entry 17 = .ok (.iconst 0, 1) := by decide +kernel
theorem dX8_entry_18 : decode cX8_entry 18 = .ok (.putfield 70, 3) := by decide +kernel
theorem dX8_entry_21 : decode cX8_entry 21 = .ok (.aload_n 0, 1) := by decide +kernel
theorem dX8_entry_22 : decode cX8_entry 22 = .ok (.getfield 70, 3) := by decide +kernel
theorem dX8_entry_25 : decode cX8_entry 25 = .ok (.ifCond .le 7, 3) := by decide +kernel
theorem dX8_entry_28 : decode cX8_entry 28 = .ok (.iconst 0, 1) := by decide +kernel
theorem dX8_entry_29 : decode cX8_entry 29 = .ok (.goto 9, 3) := by decide +kernel
theorem dX8_entry_32 : decode cX8_entry 32 = .ok (.aload_n 0, 1) := by decide +kernel
theorem dX8_entry_33 : decode cX8_entry 33 = .ok (.getfield 23, 3) := by decide +kernel
theorem dX8_entry_36 : decode cX8_entry 36 = .ok (.iload_n 1, 1) := by decide +kernel
theorem dX8_entry_37 : decode cX8_entry 37 = .ok (.iaload, 1) := by decide +kernel
theorem dX8_entry_38 : decode cX8_entry 38 = .ok (.ireturn, 1) := by decide +kernel
theorem dX8_about_0 : decode cX8_about 0 = .ok (.aload_n 0, 1) := by decide +kernel
theorem dX8_about_1 : decode cX8_about 1 = .ok (.iload_n 1, 1) := by decide +kernel
theorem dX8_about_2 : decode cX8_about 2 = .ok (.invokevirtual 146, 3) := by decide +kernel
theorem dX8_about_5 : decode cX8_about 5 = .ok (.istore_n 3, 1) := by decide +kernel
theorem dX8_about_6 : decode cX8_about 6 = .ok (.aload_n 0, 1) := by decide +kernel
theorem dX8_about_7 : decode cX8_about 7 = .ok (.iload_n 2, 1) := by decide +kernel
theorem dX8_about_8 : decode cX8_about 8 = .ok (.ifCond .lt 8, 3) := by decide +kernel
theorem dX8_about_11 : decode cX8_about 11 = .ok (.iload_n 2, 1) := by decide +kernel
theorem dX8_about_12 : decode cX8_about 12 = .ok (.iconst 3, 1) := by decide +kernel
theorem dX8_about_13 : decode cX8_about 13 = .ok (.if_icmp .le 7, 3) := by decide +kernel
theorem dX8_about_16 : decode cX8_about 16 = .ok (.iconst 1, 1) := by decide +kernel
theorem dX8_about_17 : decode cX8_about 17 = .ok (.goto 13, 3) := by decide +kernel
theorem dX8_about_20 : decode cX8_about 20 = .ok (.iload_n 3, 1) := by decide +kernel
theorem dX8_about_21 : decode cX8_about 21 = .ok (.iconst (-1), 1) := by decide +kernel
theorem dX8_about_22 : decode cX8_about 22 = .ok (.if_icmp .ne 7, 3) := by decide +kernel
theorem dX8_about_25 : decode cX8_about 25 = .ok (.iconst 2, 1) := by decide +kernel
theorem dX8_about_26 : decode cX8_about 26 = .ok (.goto 4, 3) := by decide +kernel
theorem dX8_about_29 : decode cX8_about 29 = .ok (.iconst 0, 1) := by decide +kernel
theorem dX8_about_30 : decode cX8_about 30 = .ok (.putfield 70, 3) := by decide +kernel
theorem dX8_about_33 : decode cX8_about 33 = .ok (.aload_n 0, 1) := by decide +kernel
theorem dX8_about_34 : decode cX8_about 34 = .ok (.getfield 70, 3) := by decide +kernel
theorem dX8_about_37 : decode cX8_about 37 = .ok (.ifCond .le 5, 3) := by decide +kernel
theorem dX8_about_40 : decode cX8_about 40 = .ok (.iconst 0, 1) := by decide +kernel
theorem dX8_about_41 : decode cX8_about 41 = .ok (.ireturn, 1) := by decide +kernel
theorem dX8_about_42 : decode cX8_about 42 = .ok (.iload_n 2, 1) := by decide +kernel
theorem dX8_about_43 : decode cX8_about 43 = .ok (.ifCond .ne 12, 3) := by decide +kernel
theorem dX8_about_46 : decode cX8_about 46 = .ok (.aload_n 0, 1) := by decide +kernel
theorem dX8_about_47 : decode cX8_about 47 = .ok (.getfield 26, 3) := by decide +kernel
theorem dX8_about_50 : decode cX8_about 50 = .ok (.iload_n 3, 1) := by decide +kernel
theorem dX8_about_51 : decode cX8_about 51 = .ok (.iaload, 1) := by decide +kernel
theorem dX8_about_52 : decode cX8_about 52 = .ok (.goto 37, 3) := by decide +kernel
theorem dX8_about_55 : decode cX8_about 55 = .ok (.iload_n 2, 1) := by decide +kernel
theorem dX8_about_56 : decode cX8_about 56 = .ok (.iconst 1, 1) := by decide +kernel
theorem dX8_about_57 : decode cX8_about 57 = .ok (.if_icmp .ne 12, 3) := by decide +kernel
theorem dX8_about_60 : decode cX8_about 60 = .ok (.aload_n 0, 1) := by decide +kernel
theorem dX8_about_61 : decode cX8_about 61 = .ok (.getfield 39, 3) := by decide +kernel
theorem dX8_about_64 : decode cX8_about 64 = .ok (.iload_n 3, 1) := by decide +kernel
theorem dX8_about_65 : decode cX8_about 65 = .ok (.iaload, 1) := by decide +kernel
theorem dX8_about_66 : decode cX8_about 66 = .ok (.goto 23, 3) := by decide +kernel
theorem dX8_about_69 : decode cX8_about 69 = .ok (.iload_n 2, 1) := by decide +kernel
theorem dX8_about_70 : decode cX8_about 70 = .ok (.iconst 2, 1) := by decide +kernel
theorem dX8_about_71 : decode cX8_about 71 = .ok (.if_icmp .ne 12, 3) := by decide +kernel
theorem dX8_about_74 : decode cX8_about 74 = .ok (.aload_n 0, 1) := by decide +kernel
theorem dX8_about_75 : decode cX8_about 75 = .ok (.getfield 33, 3) := by decide +kernel
theorem dX8_about_78 : decode cX8_about 78 = .ok (.iload_n 3, 1) := by decide +kernel
theorem dX8_about_79 : decode cX8_about 79 = .ok (.iaload, 1) := by decide +kernel
theorem dX8_about_80 : decode cX8_about 80 = .ok (.goto 9, 3) := by decide +kernel
theorem dX8_about_83 : decode cX8_about 83 = .ok (.aload_n 0, 1) := by decide +kernel
theorem dX8_about_84 : decode cX8_about 84 = .ok (.getfield 36, 3) := by decide +kernel
theorem dX8_about_87 : decode cX8_about 87 = .ok (.iload_n 3, 1) := by decide +kernel
theorem dX8_about_88 : decode cX8_about 88 = .ok (.iaload, 1) := by decide +kernel
theorem dX8_about_89 : decode cX8_about 89 = .ok (.ireturn, 1) := by decide +kernel
theorem dX8_hardware_0 : decode cX8_hardware 0 = .ok (.aload_n 0, 1) := by decide +kernel
theorem dX8_hardware_1 : decode cX8_hardware 1 = .ok (.iload_n 1, 1) := by decide +kernel
theorem dX8_hardware_2 : decode cX8_hardware 2 = .ok (.invokevirtual 146, 3) := by decide +kernel
theorem dX8_hardware_5 : decode cX8_hardware 5 = .ok (.istore_n 2, 1) := by decide +kernel
theorem dX8_hardware_6 : decode cX8_hardware 6 = .ok (.aload_n 0, 1) := by decide +kernel
theorem dX8_hardware_7 : decode cX8_hardware 7 = .ok (.iload_n 2, 1) := by decide +kernel
theorem dX8_hardware_8 : decode cX8_hardware 8 = .ok (.iconst (-1), 1) := by decide +kernel
theorem dX8_hardware_9 : decode cX8_hardware 9 = .ok (.if_icmp .ne 7, 3) := by decide +kernel
theorem dX8_hardware_12 : decode cX8_hardware 12 = .ok (.iconst 1, 1) := by decide +kernel
theorem dX8_hardware_13 : decode cX8_hardware 13 = .ok (.goto 4, 3) := by decide +kernel
theorem dX8_hardware_16 : decode cX8_hardware 16 = .ok (.iconst 0, 1) := by decide +kernel
theorem dX8_hardware_17 : decode cX8_hardware 17 = .ok (.putfield 70, 3) := by decide +kernel
theorem dX8_hardware_20 : decode cX8_hardware 20 = .ok (.aload_n 0, 1) := by decide +kernel
theorem dX8_hardware_21 : decode cX8_hardware 21 = .ok (.getfield 70, 3) := by decide +kernel
theorem dX8_hardware_24 : decode cX8_hardware 24 = .ok (.ifCond .gt 13, 3) := by decide +kernel
theorem dX8_hardware_27 : decode cX8_hardware 27 = .ok (.aload_n 0, 1) := by decide +kernel
theorem dX8_hardware_28 : decode cX8_hardware 28 = .ok (.getfield 26, 3) := by decide +kernel
theorem dX8_hardware_31 : decode cX8_hardware 31 = .ok (.iload_n 2, 1) := by decide +kernel
theorem dX8_hardware_32 : decode cX8_hardware 32 = .ok (.iaload, 1) := by decide +kernel
theorem dX8_hardware_33 : decode cX8_hardware 33 = .ok (.iconst 1, 1) := by decide +kernel
theorem dX8_hardware_34 : decode cX8_hardware 34 = .ok (.if_icmp .ne 7, 3) := by decide +kernel
theorem dX8_hardware_37 : decode cX8_hardware 37 = .ok (.lconst 0, 1) := by decide +kernel
theorem dX8_hardware_38 : decode cX8_hardware 38 = .ok (.goto 9, 3) := by decide +kernel
theorem dX8_hardware_41 : decode cX8_hardware 41 = .ok (.aload_n 0, 1) := by decide +kernel
theorem dX8_hardware_42 : decode cX8_hardware 42 = .ok (.getfield 29, 3) := by decide +kernel
theorem dX8_hardware_45 : decode cX8_hardware 45 = .ok (.iload_n 2, 1) := by decide +kernel
theorem dX8_hardware_46 : decode cX8_hardware 46 = .ok (.laload, 1) := by decide +kernel
theorem dX8_hardware_47 : decode cX8_hardware 47 = .ok (.lreturn, 1) := by decide +kernel
theorem dX8_knows_0 : decode cX8_knows 0 = .ok (.aload_n 0, 1) := by decide +kernel
theorem dX8_knows_1 : decode cX8_knows 1 = .ok (.iconst 0, 1) := by decide +kernel
theorem dX8_knows_2 : decode cX8_knows 2 = .ok (.putfield 70, 3) := by decide +kernel
theorem dX8_knows_5 : decode cX8_knows 5 = .ok (.aload_n 0, 1) := by decide +kernel
theorem dX8_knows_6 : decode cX8_knows 6 = .ok (.iload_n 1, 1) := by decide +kernel
theorem dX8_knows_7 : decode cX8_knows 7 = .ok (.invokevirtual 146, 3) := by decide +kernel
theorem dX8_knows_10 : decode cX8_knows 10 = .ok (.istore_n 2, 1) := by decide +kernel
theorem dX8_knows_11 : decode cX8_knows 11 = .ok (.iload_n 2, 1) := by decide +kernel
theorem dX8_knows_12 : decode cX8_knows 12 = .ok (.iconst (-1), 1) := by decide +kernel
theorem dX8_knows_13 : decode cX8_knows 13 = .ok (.if_icmp .eq 17, 3) := by decide +kernel
theorem dX8_knows_16 : decode cX8_knows 16 = .ok (.aload_n 0, 1) := by decide +kernel
theorem dX8_knows_17 : decode cX8_knows 17 = .ok (.getfield 26, 3) := by decide +kernel
theorem dX8_knows_20 : decode cX8_knows 20 = .ok (.iload_n 2, 1) := by decide +kernel
theorem dX8_knows_21 : decode cX8_knows 21 = .ok (.iaload, 1) := by decide +kernel
theorem dX8_knows_22 : decode cX8_knows 22 = .ok (.iconst 1, 1) := by decide +kernel
theorem dX8_knows_23 : decode cX8_knows 23 = .ok (.if_icmp .eq 7, 3) := by decide +kernel
theorem dX8_knows_26 : decode cX8_knows 26 = .ok (.iconst 1, 1) := by decide +kernel
theorem dX8_knows_27 : decode cX8_knows 27 = .ok (.goto 4, 3) := by decide +kernel
theorem dX8_knows_30 : decode cX8_knows 30 = .ok (.iconst 0, 1) := by decide +kernel
theorem dX8_knows_31 : decode cX8_knows 31 = .ok (.ireturn, 1) := by decide +kernel
theorem dX8_waits_0 : decode cX8_waits 0 = .ok (.aload_n 0, 1) := by decide +kernel
theorem dX8_waits_1 : decode cX8_waits 1 = .ok (.iload_n 1, 1) := by decide +kernel
theorem dX8_waits_2 : decode cX8_waits 2 = .ok (.invokevirtual 146, 3) := by decide +kernel
theorem dX8_waits_5 : decode cX8_waits 5 = .ok (.istore_n 3, 1) := by decide +kernel
theorem dX8_waits_6 : decode cX8_waits 6 = .ok (.aload_n 0, 1) := by decide +kernel
theorem dX8_waits_7 : decode cX8_waits 7 = .ok (.iload_n 3, 1) := by decide +kernel
theorem dX8_waits_8 : decode cX8_waits 8 = .ok (.iconst (-1), 1) := by decide +kernel
theorem dX8_waits_9 : decode cX8_waits 9 = .ok (.if_icmp .ne 7, 3) := by decide +kernel
theorem dX8_waits_12 : decode cX8_waits 12 = .ok (.iconst 1, 1) := by decide +kernel
theorem dX8_waits_13 : decode cX8_waits 13 = .ok (.goto 22, 3) := by decide +kernel
theorem dX8_waits_16 : decode cX8_waits 16 = .ok (.iload_n 2, 1) := by decide +kernel
theorem dX8_waits_17 : decode cX8_waits 17 = .ok (.ifCond .lt 13, 3) := by decide +kernel
theorem dX8_waits_20 : decode cX8_waits 20 = .ok (.iload_n 2, 1) := by decide +kernel
theorem dX8_waits_21 : decode cX8_waits 21 = .ok (.aload_n 0, 1) := by decide +kernel
theorem dX8_waits_22 : decode cX8_waits 22 = .ok (.getfield 39, 3) := by decide +kernel
theorem dX8_waits_25 : decode cX8_waits 25 = .ok (.iload_n 3, 1) := by decide +kernel
theorem dX8_waits_26 : decode cX8_waits 26 = .ok (.iaload, 1) := by decide +kernel
theorem dX8_waits_27 : decode cX8_waits 27 = .ok (.if_icmp .lt 7, 3) := by decide +kernel
theorem dX8_waits_30 : decode cX8_waits 30 = .ok (.iconst 2, 1) := by decide +kernel
theorem dX8_waits_31 : decode cX8_waits 31 = .ok (.goto 4, 3) := by decide +kernel
theorem dX8_waits_34 : decode cX8_waits 34 = .ok (.iconst 0, 1) := by decide +kernel
theorem dX8_waits_35 : decode cX8_waits 35 = .ok (.putfield 70, 3) := by decide +kernel
theorem dX8_waits_38 : decode cX8_waits 38 = .ok (.aload_n 0, 1) := by decide +kernel
theorem dX8_waits_39 : decode cX8_waits 39 = .ok (.getfield 70, 3) := by decide +kernel
theorem dX8_waits_42 : decode cX8_waits 42 = .ok (.ifCond .le 7, 3) := by decide +kernel
theorem dX8_waits_45 : decode cX8_waits 45 = .ok (.iconst 0, 1) := by decide +kernel
theorem dX8_waits_46 : decode cX8_waits 46 = .ok (.goto 13, 3) := by decide +kernel
theorem dX8_waits_49 : decode cX8_waits 49 = .ok (.aload_n 0, 1) := by decide +kernel
theorem dX8_waits_50 : decode cX8_waits 50 = .ok (.getfield 42, 3) := by decide +kernel
theorem dX8_waits_53 : decode cX8_waits 53 = .ok (.iconst 4, 1) := by decide +kernel
theorem dX8_waits_54 : decode cX8_waits 54 = .ok (.iload_n 3, 1) := by decide +kernel
theorem dX8_waits_55 : decode cX8_waits 55 = .ok (.imul, 1) := by decide +kernel
theorem dX8_waits_56 : decode cX8_waits 56 = .ok (.iload_n 2, 1) := by decide +kernel
theorem dX8_waits_57 : decode cX8_waits 57 = .ok (.iadd, 1) := by decide +kernel
theorem dX8_waits_58 : decode cX8_waits 58 = .ok (.iaload, 1) := by decide +kernel
theorem dX8_waits_59 : decode cX8_waits 59 = .ok (.ireturn, 1) := by decide +kernel
theorem dX8_frame_0 : decode cX8_frame 0 = .ok (.aload_n 0, 1) := by decide +kernel
theorem dX8_frame_1 : decode cX8_frame 1 = .ok (.getfield 89, 3) := by decide +kernel
theorem dX8_frame_4 : decode cX8_frame 4 = .ok (.bipush 100, 2) := by decide +kernel
theorem dX8_frame_6 : decode cX8_frame 6 = .ok (.if_icmp .ge 7, 3) := by decide +kernel
theorem dX8_frame_9 : decode cX8_frame 9 = .ok (.iconst 0, 1) := by decide +kernel
theorem dX8_frame_10 : decode cX8_frame 10 = .ok (.goto 10, 3) := by decide +kernel
theorem dX8_frame_13 : decode cX8_frame 13 = .ok (.aload_n 0, 1) := by decide +kernel
theorem dX8_frame_14 : decode cX8_frame 14 = .ok (.getfield 89, 3) := by decide +kernel
theorem dX8_frame_17 : decode cX8_frame 17 = .ok (.bipush 100, 2) := by decide +kernel
theorem dX8_frame_19 : decode cX8_frame 19 = .ok (.isub, 1) := by decide +kernel
theorem dX8_frame_20 : decode cX8_frame 20 = .ok (.istore_n 2, 1) := by decide +kernel
theorem dX8_frame_21 : decode cX8_frame 21 = .ok (.iload_n 1, 1) := by decide +kernel
theorem dX8_frame_22 : decode cX8_frame 22 = .ok (.ifCond .lt 13, 3) := by decide +kernel
theorem dX8_frame_25 : decode cX8_frame 25 = .ok (.iload_n 1, 1) := by decide +kernel
theorem dX8_frame_26 : decode cX8_frame 26 = .ok (.aload_n 0, 1) := by decide +kernel
theorem dX8_frame_27 : decode cX8_frame 27 = .ok (.getfield 89, 3) := by decide +kernel
theorem dX8_frame_30 : decode cX8_frame 30 = .ok (.iload_n 2, 1) := by decide +kernel
theorem dX8_frame_31 : decode cX8_frame 31 = .ok (.isub, 1) := by decide +kernel
theorem dX8_frame_32 : decode cX8_frame 32 = .ok (.if_icmp .lt 7, 3) := by decide +kernel
theorem dX8_frame_35 : decode cX8_frame 35 = .ok (.iconst (-1), 1) := by decide +kernel
theorem dX8_frame_36 : decode cX8_frame 36 = .ok (.goto 9, 3) := by decide +kernel
theorem dX8_frame_39 : decode cX8_frame 39 = .ok (.iload_n 2, 1) := by decide +kernel
theorem dX8_frame_40 : decode cX8_frame 40 = .ok (.iload_n 1, 1) := by decide +kernel
theorem dX8_frame_41 : decode cX8_frame 41 = .ok (.iadd, 1) := by decide +kernel
theorem dX8_frame_42 : decode cX8_frame 42 = .ok (.bipush 100, 2) := by decide +kernel
theorem dX8_frame_44 : decode cX8_frame 44 = .ok (.irem, 1) := by decide +kernel
theorem dX8_frame_45 : decode cX8_frame 45 = .ok (.ireturn, 1) := by decide +kernel
theorem dX8_to_0 : decode cX8_to 0 = .ok (.aload_n 0, 1) := by decide +kernel
theorem dX8_to_1 : decode cX8_to 1 = .ok (.iload_n 1, 1) := by decide +kernel
theorem dX8_to_2 : decode cX8_to 2 = .ok (.invokevirtual 179, 3) := by decide +kernel
theorem dX8_to_5 : decode cX8_to 5 = .ok (.istore_n 2, 1) := by decide +kernel
theorem dX8_to_6 : decode cX8_to 6 = .ok (.aload_n 0, 1) := by decide +kernel
theorem dX8_to_7 : decode cX8_to 7 = .ok (.iload_n 2, 1) := by decide +kernel
theorem dX8_to_8 : decode cX8_to 8 = .ok (.iconst (-1), 1) := by decide +kernel
theorem dX8_to_9 : decode cX8_to 9 = .ok (.if_icmp .ne 7, 3) := by decide +kernel
theorem dX8_to_12 : decode cX8_to 12 = .ok (.iconst 1, 1) := by decide +kernel
theorem dX8_to_13 : decode cX8_to 13 = .ok (.goto 4, 3) := by decide +kernel
theorem dX8_to_16 : decode cX8_to 16 = .ok (.iconst 0, 1) := by decide +kernel
theorem dX8_to_17 : decode cX8_to 17 = .ok (.putfield 70, 3) := by decide +kernel
theorem dX8_to_20 : decode cX8_to 20 = .ok (.aload_n 0, 1) := by decide +kernel
theorem dX8_to_21 : decode cX8_to 21 = .ok (.getfield 70, 3) := by decide +kernel
theorem dX8_to_24 : decode cX8_to 24 = .ok (.ifCond .le 7, 3) := by decide +kernel
theorem dX8_to_27 : decode cX8_to 27 = .ok (.lconst 0, 1) := by decide +kernel
theorem dX8_to_28 : decode cX8_to 28 = .ok (.goto 9, 3) := by decide +kernel
theorem dX8_to_31 : decode cX8_to 31 = .ok (.aload_n 0, 1) := by decide +kernel
theorem dX8_to_32 : decode cX8_to 32 = .ok (.getfield 45, 3) := by decide +kernel
theorem dX8_to_35 : decode cX8_to 35 = .ok (.iload_n 2, 1) := by decide +kernel
theorem dX8_to_36 : decode cX8_to 36 = .ok (.laload, 1) := by decide +kernel
theorem dX8_to_37 : decode cX8_to 37 = .ok (.lreturn, 1) := by decide +kernel
theorem dX8_data_0 : decode cX8_data 0 = .ok (.aload_n 0, 1) := by decide +kernel
theorem dX8_data_1 : decode cX8_data 1 = .ok (.iload_n 1, 1) := by decide +kernel
theorem dX8_data_2 : decode cX8_data 2 = .ok (.invokevirtual 179, 3) := by decide +kernel
theorem dX8_data_5 : decode cX8_data 5 = .ok (.istore_n 2, 1) := by decide +kernel
theorem dX8_data_6 : decode cX8_data 6 = .ok (.aload_n 0, 1) := by decide +kernel
theorem dX8_data_7 : decode cX8_data 7 = .ok (.iload_n 2, 1) := by decide +kernel
theorem dX8_data_8 : decode cX8_data 8 = .ok (.iconst (-1), 1) := by decide +kernel
theorem dX8_data_9 : decode cX8_data 9 = .ok (.if_icmp .ne 7, 3) := by decide +kernel
theorem dX8_data_12 : decode cX8_data 12 = .ok (.iconst 1, 1) := by decide +kernel
theorem dX8_data_13 : decode cX8_data 13 = .ok (.goto 4, 3) := by decide +kernel
theorem dX8_data_16 : decode cX8_data 16 = .ok (.iconst 0, 1) := by decide +kernel
theorem dX8_data_17 : decode cX8_data 17 = .ok (.putfield 70, 3) := by decide +kernel
theorem dX8_data_20 : decode cX8_data 20 = .ok (.aload_n 0, 1) := by decide +kernel
theorem dX8_data_21 : decode cX8_data 21 = .ok (.getfield 70, 3) := by decide +kernel
theorem dX8_data_24 : decode cX8_data 24 = .ok (.ifCond .le 7, 3) := by decide +kernel
theorem dX8_data_27 : decode cX8_data 27 = .ok (.iconst 0, 1) := by decide +kernel
theorem dX8_data_28 : decode cX8_data 28 = .ok (.goto 22, 3) := by decide +kernel
theorem dX8_data_31 : decode cX8_data 31 = .ok (.aload_n 0, 1) := by decide +kernel
theorem dX8_data_32 : decode cX8_data 32 = .ok (.getfield 51, 3) := by decide +kernel
theorem dX8_data_35 : decode cX8_data 35 = .ok (.iload_n 2, 1) := by decide +kernel
theorem dX8_data_36 : decode cX8_data 36 = .ok (.baload, 1) := by decide +kernel
theorem dX8_data_37 : decode cX8_data 37 = .ok (.ifCond .eq 7, 3) := by decide +kernel
theorem dX8_data_40 : decode cX8_data 40 = .ok (.iconst (-1), 1) := by decide +kernel
theorem dX8_data_41 : decode cX8_data 41 = .ok (.goto 9, 3) := by decide +kernel
theorem dX8_data_44 : decode cX8_data 44 = .ok (.aload_n 0, 1) := by decide +kernel
theorem dX8_data_45 : decode cX8_data 45 = .ok (.getfield 48, 3) := by decide +kernel
theorem dX8_data_48 : decode cX8_data 48 = .ok (.iload_n 2, 1) := by decide +kernel
theorem dX8_data_49 : decode cX8_data 49 = .ok (.iaload, 1) := by decide +kernel
theorem dX8_data_50 : decode cX8_data 50 = .ok (.ireturn, 1) := by decide +kernel
theorem dX8_out_0 : decode cX8_out 0 = .ok (.aload_n 0, 1) := by decide +kernel
theorem dX8_out_1 : decode cX8_out 1 = .ok (.iload_n 1, 1) := by decide +kernel
theorem dX8_out_2 : decode cX8_out 2 = .ok (.invokevirtual 179, 3) := by decide +kernel
theorem dX8_out_5 : decode cX8_out 5 = .ok (.istore_n 3, 1) := by decide +kernel
theorem dX8_out_6 : decode cX8_out 6 = .ok (.aload_n 0, 1) := by decide +kernel
theorem dX8_out_7 : decode cX8_out 7 = .ok (.iload_n 3, 1) := by decide +kernel
theorem dX8_out_8 : decode cX8_out 8 = .ok (.iconst (-1), 1) := by decide +kernel
theorem dX8_out_9 : decode cX8_out 9 = .ok (.if_icmp .eq 22, 3) := by decide +kernel
theorem dX8_out_12 : decode cX8_out 12 = .ok (.aload_n 0, 1) := by decide +kernel
theorem dX8_out_13 : decode cX8_out 13 = .ok (.getfield 51, 3) := by decide +kernel
theorem dX8_out_16 : decode cX8_out 16 = .ok (.iload_n 3, 1) := by decide +kernel
theorem dX8_out_17 : decode cX8_out 17 = .ok (.baload, 1) := by decide +kernel
theorem dX8_out_18 : decode cX8_out 18 = .ok (.ifCond .eq 13, 3) := by decide +kernel
theorem dX8_out_21 : decode cX8_out 21 = .ok (.iload_n 2, 1) := by decide +kernel
theorem dX8_out_22 : decode cX8_out 22 = .ok (.ifCond .lt 9, 3) := by decide +kernel
theorem dX8_out_25 : decode cX8_out 25 = .ok (.iload_n 2, 1) := by decide +kernel
theorem dX8_out_26 : decode cX8_out 26 = .ok (.bipush 28, 2) := by decide +kernel
theorem dX8_out_28 : decode cX8_out 28 = .ok (.if_icmp .lt 7, 3) := by decide +kernel
theorem dX8_out_31 : decode cX8_out 31 = .ok (.iconst 1, 1) := by decide +kernel
theorem dX8_out_32 : decode cX8_out 32 = .ok (.goto 4, 3) := by decide +kernel
theorem dX8_out_35 : decode cX8_out 35 = .ok (.iconst 0, 1) := by decide +kernel
theorem dX8_out_36 : decode cX8_out 36 = .ok (.putfield 70, 3) := by decide +kernel
theorem dX8_out_39 : decode cX8_out 39 = .ok (.aload_n 0, 1) := by decide +kernel
theorem dX8_out_40 : decode cX8_out 40 = .ok (.getfield 70, 3) := by decide +kernel
theorem dX8_out_43 : decode cX8_out 43 = .ok (.ifCond .le 7, 3) := by decide +kernel
theorem dX8_out_46 : decode cX8_out 46 = .ok (.iconst 0, 1) := by decide +kernel
theorem dX8_out_47 : decode cX8_out 47 = .ok (.goto 14, 3) := by decide +kernel
theorem dX8_out_50 : decode cX8_out 50 = .ok (.aload_n 0, 1) := by decide +kernel
theorem dX8_out_51 : decode cX8_out 51 = .ok (.getfield 55, 3) := by decide +kernel
theorem dX8_out_54 : decode cX8_out 54 = .ok (.bipush 28, 2) := by decide +kernel
theorem dX8_out_56 : decode cX8_out 56 = .ok (.iload_n 3, 1) := by decide +kernel
theorem dX8_out_57 : decode cX8_out 57 = .ok (.imul, 1) := by decide +kernel
theorem dX8_out_58 : decode cX8_out 58 = .ok (.iload_n 2, 1) := by decide +kernel
theorem dX8_out_59 : decode cX8_out 59 = .ok (.iadd, 1) := by decide +kernel
theorem dX8_out_60 : decode cX8_out 60 = .ok (.iaload, 1) := by decide +kernel
theorem dX8_out_61 : decode cX8_out 61 = .ok (.ireturn, 1) := by decide +kernel
theorem dX8_lost_0 : decode cX8_lost 0 = .ok (.aload_n 0, 1) := by decide +kernel
theorem dX8_lost_1 : decode cX8_lost 1 = .ok (.getfield 101, 3) := by decide +kernel
theorem dX8_lost_4 : decode cX8_lost 4 = .ok (.bipush 100, 2) := by decide +kernel
theorem dX8_lost_6 : decode cX8_lost 6 = .ok (.if_icmp .ge 7, 3) := by decide +kernel
theorem dX8_lost_9 : decode cX8_lost 9 = .ok (.iconst 0, 1) := by decide +kernel
theorem dX8_lost_10 : decode cX8_lost 10 = .ok (.goto 10, 3) := by decide +kernel
theorem dX8_lost_13 : decode cX8_lost 13 = .ok (.aload_n 0, 1) := by decide +kernel
theorem dX8_lost_14 : decode cX8_lost 14 = .ok (.getfield 101, 3) := by decide +kernel
theorem dX8_lost_17 : decode cX8_lost 17 = .ok (.bipush 100, 2) := by decide +kernel
theorem dX8_lost_19 : decode cX8_lost 19 = .ok (.isub, 1) := by decide +kernel
theorem dX8_lost_20 : decode cX8_lost 20 = .ok (.istore_n 2, 1) := by decide +kernel
theorem dX8_lost_21 : decode cX8_lost 21 = .ok (.aload_n 0, 1) := by decide +kernel
theorem dX8_lost_22 : decode cX8_lost 22 = .ok (.iload_n 1, 1) := by decide +kernel
theorem dX8_lost_23 : decode cX8_lost 23 = .ok (.ifCond .lt 13, 3) := by decide +kernel
theorem dX8_lost_26 : decode cX8_lost 26 = .ok (.iload_n 1, 1) := by decide +kernel
theorem dX8_lost_27 : decode cX8_lost 27 = .ok (.aload_n 0, 1) := by decide +kernel
theorem dX8_lost_28 : decode cX8_lost 28 = .ok (.getfield 101, 3) := by decide +kernel
theorem dX8_lost_31 : decode cX8_lost 31 = .ok (.iload_n 2, 1) := by decide +kernel
theorem dX8_lost_32 : decode cX8_lost 32 = .ok (.isub, 1) := by decide +kernel
theorem dX8_lost_33 : decode cX8_lost 33 = .ok (.if_icmp .lt 7, 3) := by decide +kernel
theorem dX8_lost_36 : decode cX8_lost 36 = .ok (.iconst 1, 1) := by decide +kernel
theorem dX8_lost_37 : decode cX8_lost 37 = .ok (.goto 4, 3) := by decide +kernel
theorem dX8_lost_40 : decode cX8_lost 40 = .ok (.iconst 0, 1) := by decide +kernel
theorem dX8_lost_41 : decode cX8_lost 41 = .ok (.putfield 70, 3) := by decide +kernel
theorem dX8_lost_44 : decode cX8_lost 44 = .ok (.aload_n 0, 1) := by decide +kernel
theorem dX8_lost_45 : decode cX8_lost 45 = .ok (.getfield 70, 3) := by decide +kernel
theorem dX8_lost_48 : decode cX8_lost 48 = .ok (.ifCond .le 7, 3) := by decide +kernel
theorem dX8_lost_51 : decode cX8_lost 51 = .ok (.iconst 0, 1) := by decide +kernel
theorem dX8_lost_52 : decode cX8_lost 52 = .ok (.goto 14, 3) := by decide +kernel
theorem dX8_lost_55 : decode cX8_lost 55 = .ok (.aload_n 0, 1) := by decide +kernel
theorem dX8_lost_56 : decode cX8_lost 56 = .ok (.getfield 58, 3) := by decide +kernel
theorem dX8_lost_59 : decode cX8_lost 59 = .ok (.iload_n 2, 1) := by decide +kernel
theorem dX8_lost_60 : decode cX8_lost 60 = .ok (.iload_n 1, 1) := by decide +kernel
theorem dX8_lost_61 : decode cX8_lost 61 = .ok (.iadd, 1) := by decide +kernel
theorem dX8_lost_62 : decode cX8_lost 62 = .ok (.bipush 100, 2) := by decide +kernel
theorem dX8_lost_64 : decode cX8_lost 64 = .ok (.irem, 1) := by decide +kernel
theorem dX8_lost_65 : decode cX8_lost 65 = .ok (.iaload, 1) := by decide +kernel
theorem dX8_lost_66 : decode cX8_lost 66 = .ok (.ireturn, 1) := by decide +kernel
theorem dJ9_floorMod_7cf53_0 : decode cJ9_floorMod_7cf53 0 = .ok (.iload_n 0, 1) := by decide +kernel
theorem dJ9_floorMod_7cf53_1 : decode cJ9_floorMod_7cf53 1 = .ok (.iload_n 1, 1) := by decide +kernel
theorem dJ9_floorMod_7cf53_2 : decode cJ9_floorMod_7cf53 2 = .ok (.irem, 1) := by decide +kernel
theorem dJ9_floorMod_7cf53_3 : decode cJ9_floorMod_7cf53 3 = .ok (.istore_n 2, 1) := by decide +kernel
theorem dJ9_floorMod_7cf53_4 : decode cJ9_floorMod_7cf53 4 = .ok (.iload_n 0, 1) := by decide +kernel
theorem dJ9_floorMod_7cf53_5 : decode cJ9_floorMod_7cf53 5 = .ok (.iload_n 1, 1) := by decide +kernel
theorem dJ9_floorMod_7cf53_6 : decode cJ9_floorMod_7cf53 6 = .ok (.ixor, 1) := by decide +kernel
theorem dJ9_floorMod_7cf53_7 : decode cJ9_floorMod_7cf53 7 = .ok (.ifCond .ge 11, 3) := by decide +kernel
theorem dJ9_floorMod_7cf53_10 : decode cJ9_floorMod_7cf53 10 = .ok (.iload_n 2, 1) := by decide +kernel
theorem dJ9_floorMod_7cf53_11 : decode cJ9_floorMod_7cf53 11 = .ok (.ifCond .eq 7, 3) := by decide +kernel
theorem dJ9_floorMod_7cf53_14 : decode cJ9_floorMod_7cf53 14 = .ok (.iload_n 2, 1) := by decide +kernel
theorem dJ9_floorMod_7cf53_15 : decode cJ9_floorMod_7cf53 15 = .ok (.iload_n 1, 1) := by decide +kernel
theorem dJ9_floorMod_7cf53_16 : decode cJ9_floorMod_7cf53 16 = .ok (.iadd, 1) := by decide +kernel
theorem dJ9_floorMod_7cf53_17 : decode cJ9_floorMod_7cf53 17 = .ok (.ireturn, 1) := by decide +kernel
theorem dJ9_floorMod_7cf53_18 : decode cJ9_floorMod_7cf53 18 = .ok (.iload_n 2, 1) := by decide +kernel
theorem dJ9_floorMod_7cf53_19 : decode cJ9_floorMod_7cf53 19 = .ok (.ireturn, 1) := by decide +kernel
theorem dJ9_max_7cf53_0 : decode cJ9_max_7cf53 0 = .ok (.iload_n 0, 1) := by decide +kernel
theorem dJ9_max_7cf53_1 : decode cJ9_max_7cf53 1 = .ok (.iload_n 1, 1) := by decide +kernel
theorem dJ9_max_7cf53_2 : decode cJ9_max_7cf53 2 = .ok (.if_icmp .lt 7, 3) := by decide +kernel
theorem dJ9_max_7cf53_5 : decode cJ9_max_7cf53 5 = .ok (.iload_n 0, 1) := by decide +kernel
theorem dJ9_max_7cf53_6 : decode cJ9_max_7cf53 6 = .ok (.goto 4, 3) := by decide +kernel
theorem dJ9_max_7cf53_9 : decode cJ9_max_7cf53 9 = .ok (.iload_n 1, 1) := by decide +kernel
theorem dJ9_max_7cf53_10 : decode cJ9_max_7cf53 10 = .ok (.ireturn, 1) := by decide +kernel
theorem dJ9_min_7cf53_0 : decode cJ9_min_7cf53 0 = .ok (.iload_n 0, 1) := by decide +kernel
theorem dJ9_min_7cf53_1 : decode cJ9_min_7cf53 1 = .ok (.iload_n 1, 1) := by decide +kernel
theorem dJ9_min_7cf53_2 : decode cJ9_min_7cf53 2 = .ok (.if_icmp .gt 7, 3) := by decide +kernel
theorem dJ9_min_7cf53_5 : decode cJ9_min_7cf53 5 = .ok (.iload_n 0, 1) := by decide +kernel
theorem dJ9_min_7cf53_6 : decode cJ9_min_7cf53 6 = .ok (.goto 4, 3) := by decide +kernel
theorem dJ9_min_7cf53_9 : decode cJ9_min_7cf53 9 = .ok (.iload_n 1, 1) := by decide +kernel
theorem dJ9_min_7cf53_10 : decode cJ9_min_7cf53 10 = .ok (.ireturn, 1) := by decide +kernel
theorem dL_cell_0 : decode cL_cell 0 = .ok (.iload_n 1, 1) := by decide +kernel
theorem dL_cell_1 : decode cL_cell 1 = .ok (.aload_n 0, 1) := by decide +kernel
theorem dL_cell_2 : decode cL_cell 2 = .ok (.arraylength, 1) := by decide +kernel
theorem dL_cell_3 : decode cL_cell 3 = .ok (.if_icmp .ge 9, 3) := by decide +kernel
theorem dL_cell_6 : decode cL_cell 6 = .ok (.aload_n 0, 1) := by decide +kernel
theorem dL_cell_7 : decode cL_cell 7 = .ok (.iload_n 1, 1) := by decide +kernel
theorem dL_cell_8 : decode cL_cell 8 = .ok (.iaload, 1) := by decide +kernel
theorem dL_cell_9 : decode cL_cell 9 = .ok (.goto 4, 3) := by decide +kernel
theorem dL_cell_12 : decode cL_cell 12 = .ok (.iconst 0, 1) := by decide +kernel
theorem dL_cell_13 : decode cL_cell 13 = .ok (.ireturn, 1) := by decide +kernel
theorem dL_here_0 : decode cL_here 0 = .ok (.aload_n 0, 1) := by decide +kernel
theorem dL_here_1 : decode cL_here 1 = .ok (.lload_n 1, 1) := by decide +kernel
theorem dL_here_2 : decode cL_here 2 = .ok (.invokevirtual 7, 3) := by decide +kernel
theorem dL_here_5 : decode cL_here 5 = .ok (.goto 9, 3) := by decide +kernel
theorem dL_here_8 : decode cL_here 8 = .ok (.astore_n 3, 1) := by decide +kernel
theorem dL_here_9 : decode cL_here 9 = .ok (.iconst 1, 1) := by decide +kernel
theorem dL_here_10 : decode cL_here 10 = .ok (.ireturn, 1) := by decide +kernel
theorem dL_here_11 : decode cL_here 11 = .ok (.astore_n 3, 1) := by decide +kernel
theorem dL_here_12 : decode cL_here 12 = .ok (.iconst 2, 1) := by decide +kernel
theorem dL_here_13 : decode cL_here 13 = .ok (.ireturn, 1) := by decide +kernel
theorem dL_here_14 : decode cL_here 14 = .ok (.iconst 0, 1) := by decide +kernel
theorem dL_here_15 : decode cL_here 15 = .ok (.ireturn, 1) := by decide +kernel
theorem dL_type_0 : decode cL_type 0 = .ok (.aload 4, 2) := by decide +kernel
theorem dL_type_2 : decode cL_type 2 = .ok (.iconst 0, 1) := by decide +kernel
theorem dL_type_3 : decode cL_type 3 = .ok (.aload_n 0, 1) := by decide +kernel
theorem dL_type_4 : decode cL_type 4 = .ok (.lload_n 1, 1) := by decide +kernel
theorem dL_type_5 : decode cL_type 5 = .ok (.iload_n 3, 1) := by decide +kernel
theorem dL_type_6 : decode cL_type 6 = .ok (.invokevirtual 17, 3) := by decide +kernel
theorem dL_type_9 : decode cL_type 9 = .ok (.i2l, 1) := by decide +kernel
theorem dL_type_10 : decode cL_type 10 = .ok (.lastore, 1) := by decide +kernel
theorem dL_type_11 : decode cL_type 11 = .ok (.goto 11, 3) := by decide +kernel
theorem dL_type_14 : decode cL_type 14 = .ok (.astore 5, 2) := by decide +kernel
theorem dL_type_16 : decode cL_type 16 = .ok (.iconst 1, 1) := by decide +kernel
theorem dL_type_17 : decode cL_type 17 = .ok (.ireturn, 1) := by decide +kernel
theorem dL_type_18 : decode cL_type 18 = .ok (.astore 5, 2) := by decide +kernel
theorem dL_type_20 : decode cL_type 20 = .ok (.iconst 2, 1) := by decide +kernel
theorem dL_type_21 : decode cL_type 21 = .ok (.ireturn, 1) := by decide +kernel
theorem dL_type_22 : decode cL_type 22 = .ok (.iconst 0, 1) := by decide +kernel
theorem dL_type_23 : decode cL_type 23 = .ok (.ireturn, 1) := by decide +kernel
theorem dL_claim_0 : decode cL_claim 0 = .ok (.aload_n 0, 1) := by decide +kernel
theorem dL_claim_1 : decode cL_claim 1 = .ok (.iload_n 1, 1) := by decide +kernel
theorem dL_claim_2 : decode cL_claim 2 = .ok (.invokevirtual 21, 3) := by decide +kernel
theorem dL_claim_5 : decode cL_claim 5 = .ok (.goto 9, 3) := by decide +kernel
theorem dL_claim_8 : decode cL_claim 8 = .ok (.astore_n 2, 1) := by decide +kernel
theorem dL_claim_9 : decode cL_claim 9 = .ok (.iconst 1, 1) := by decide +kernel
theorem dL_claim_10 : decode cL_claim 10 = .ok (.ireturn, 1) := by decide +kernel
theorem dL_claim_11 : decode cL_claim 11 = .ok (.astore_n 2, 1) := by decide +kernel
theorem dL_claim_12 : decode cL_claim 12 = .ok (.iconst 2, 1) := by decide +kernel
theorem dL_claim_13 : decode cL_claim 13 = .ok (.ireturn, 1) := by decide +kernel
theorem dL_claim_14 : decode cL_claim 14 = .ok (.iconst 0, 1) := by decide +kernel
theorem dL_claim_15 : decode cL_claim 15 = .ok (.ireturn, 1) := by decide +kernel
theorem dL_send_0 : decode cL_send 0 = .ok (.aload_n 3, 1) := by decide +kernel
theorem dL_send_1 : decode cL_send 1 = .ok (.iconst 0, 1) := by decide +kernel
theorem dL_send_2 : decode cL_send 2 = .ok (.aload_n 0, 1) := by decide +kernel
theorem dL_send_3 : decode cL_send 3 = .ok (.iload_n 1, 1) := by decide +kernel
theorem dL_send_4 : decode cL_send 4 = .ok (.iload_n 2, 1) := by decide +kernel
theorem dL_send_5 : decode cL_send 5 = .ok (.invokevirtual 25, 3) := by decide +kernel
theorem dL_send_8 : decode cL_send 8 = .ok (.i2l, 1) := by decide +kernel
theorem dL_send_9 : decode cL_send 9 = .ok (.lastore, 1) := by decide +kernel
theorem dL_send_10 : decode cL_send 10 = .ok (.goto 11, 3) := by decide +kernel
theorem dL_send_13 : decode cL_send 13 = .ok (.astore 4, 2) := by decide +kernel
theorem dL_send_15 : decode cL_send 15 = .ok (.iconst 1, 1) := by decide +kernel
theorem dL_send_16 : decode cL_send 16 = .ok (.ireturn, 1) := by decide +kernel
theorem dL_send_17 : decode cL_send 17 = .ok (.astore 4, 2) := by decide +kernel
theorem dL_send_19 : decode cL_send 19 = .ok (.iconst 2, 1) := by decide +kernel
theorem dL_send_20 : decode cL_send 20 = .ok (.ireturn, 1) := by decide +kernel
theorem dL_send_21 : decode cL_send 21 = .ok (.iconst 0, 1) := by decide +kernel
theorem dL_send_22 : decode cL_send 22 = .ok (.ireturn, 1) := by decide +kernel
theorem dL_tick_0 : decode cL_tick 0 = .ok (.aload_n 2, 1) := by decide +kernel
theorem dL_tick_1 : decode cL_tick 1 = .ok (.iconst 0, 1) := by decide +kernel
theorem dL_tick_2 : decode cL_tick 2 = .ok (.aload_n 0, 1) := by decide +kernel
theorem dL_tick_3 : decode cL_tick 3 = .ok (.iload_n 1, 1) := by decide +kernel
theorem dL_tick_4 : decode cL_tick 4 = .ok (.invokevirtual 29, 3) := by decide +kernel
theorem dL_tick_7 : decode cL_tick 7 = .ok (.i2l, 1) := by decide +kernel
theorem dL_tick_8 : decode cL_tick 8 = .ok (.lastore, 1) := by decide +kernel
theorem dL_tick_9 : decode cL_tick 9 = .ok (.goto 6, 3) := by decide +kernel
theorem dL_tick_12 : decode cL_tick 12 = .ok (.astore_n 3, 1) := by decide +kernel
theorem dL_tick_13 : decode cL_tick 13 = .ok (.iconst 1, 1) := by decide +kernel
theorem dL_tick_14 : decode cL_tick 14 = .ok (.ireturn, 1) := by decide +kernel
theorem dL_tick_15 : decode cL_tick 15 = .ok (.iconst 0, 1) := by decide +kernel
theorem dL_tick_16 : decode cL_tick 16 = .ok (.ireturn, 1) := by decide +kernel
theorem dL_count_0 : decode cL_count 0 = .ok (.aload_n 2, 1) := by decide +kernel
theorem dL_count_1 : decode cL_count 1 = .ok (.iconst 0, 1) := by decide +kernel
theorem dL_count_2 : decode cL_count 2 = .ok (.aload_n 0, 1) := by decide +kernel
theorem dL_count_3 : decode cL_count 3 = .ok (.iload_n 1, 1) := by decide +kernel
theorem dL_count_4 : decode cL_count 4 = .ok (.invokevirtual 33, 3) := by decide +kernel
theorem dL_count_7 : decode cL_count 7 = .ok (.i2l, 1) := by decide +kernel
theorem dL_count_8 : decode cL_count 8 = .ok (.lastore, 1) := by decide +kernel
theorem dL_count_9 : decode cL_count 9 = .ok (.goto 6, 3) := by decide +kernel
theorem dL_count_12 : decode cL_count 12 = .ok (.astore_n 3, 1) := by decide +kernel
theorem dL_count_13 : decode cL_count 13 = .ok (.iconst 1, 1) := by decide +kernel
theorem dL_count_14 : decode cL_count 14 = .ok (.ireturn, 1) := by decide +kernel
theorem dL_count_15 : decode cL_count 15 = .ok (.iconst 0, 1) := by decide +kernel
theorem dL_count_16 : decode cL_count 16 = .ok (.ireturn, 1) := by decide +kernel
theorem dL_entry_0 : decode cL_entry 0 = .ok (.aload_n 2, 1) := by decide +kernel
theorem dL_entry_1 : decode cL_entry 1 = .ok (.iconst 0, 1) := by decide +kernel
theorem dL_entry_2 : decode cL_entry 2 = .ok (.aload_n 0, 1) := by decide +kernel
theorem dL_entry_3 : decode cL_entry 3 = .ok (.iload_n 1, 1) := by decide +kernel
theorem dL_entry_4 : decode cL_entry 4 = .ok (.invokevirtual 36, 3) := by decide +kernel
theorem dL_entry_7 : decode cL_entry 7 = .ok (.i2l, 1) := by decide +kernel
theorem dL_entry_8 : decode cL_entry 8 = .ok (.lastore, 1) := by decide +kernel
theorem dL_entry_9 : decode cL_entry 9 = .ok (.goto 6, 3) := by decide +kernel
theorem dL_entry_12 : decode cL_entry 12 = .ok (.astore_n 3, 1) := by decide +kernel
theorem dL_entry_13 : decode cL_entry 13 = .ok (.iconst 1, 1) := by decide +kernel
theorem dL_entry_14 : decode cL_entry 14 = .ok (.ireturn, 1) := by decide +kernel
theorem dL_entry_15 : decode cL_entry 15 = .ok (.iconst 0, 1) := by decide +kernel
theorem dL_entry_16 : decode cL_entry 16 = .ok (.ireturn, 1) := by decide +kernel
theorem dL_about_0 : decode cL_about 0 = .ok (.aload_n 3, 1) := by decide +kernel
theorem dL_about_1 : decode cL_about 1 = .ok (.iconst 0, 1) := by decide +kernel
theorem dL_about_2 : decode cL_about 2 = .ok (.aload_n 0, 1) := by decide +kernel
theorem dL_about_3 : decode cL_about 3 = .ok (.iload_n 1, 1) := by decide +kernel
theorem dL_about_4 : decode cL_about 4 = .ok (.iload_n 2, 1) := by decide +kernel
theorem dL_about_5 : decode cL_about 5 = .ok (.invokevirtual 41, 3) := by decide +kernel
theorem dL_about_8 : decode cL_about 8 = .ok (.i2l, 1) := by decide +kernel
theorem dL_about_9 : decode cL_about 9 = .ok (.lastore, 1) := by decide +kernel
theorem dL_about_10 : decode cL_about 10 = .ok (.goto 11, 3) := by decide +kernel
theorem dL_about_13 : decode cL_about 13 = .ok (.astore 4, 2) := by decide +kernel
theorem dL_about_15 : decode cL_about 15 = .ok (.iconst 1, 1) := by decide +kernel
theorem dL_about_16 : decode cL_about 16 = .ok (.ireturn, 1) := by decide +kernel
theorem dL_about_17 : decode cL_about 17 = .ok (.astore 4, 2) := by decide +kernel
theorem dL_about_19 : decode cL_about 19 = .ok (.iconst 2, 1) := by decide +kernel
theorem dL_about_20 : decode cL_about 20 = .ok (.ireturn, 1) := by decide +kernel
theorem dL_about_21 : decode cL_about 21 = .ok (.iconst 0, 1) := by decide +kernel
theorem dL_about_22 : decode cL_about 22 = .ok (.ireturn, 1) := by decide +kernel
theorem dL_hardware_0 : decode cL_hardware 0 = .ok (.aload_n 2, 1) := by decide +kernel
theorem dL_hardware_1 : decode cL_hardware 1 = .ok (.iconst 0, 1) := by decide +kernel
theorem dL_hardware_2 : decode cL_hardware 2 = .ok (.aload_n 0, 1) := by decide +kernel
theorem dL_hardware_3 : decode cL_hardware 3 = .ok (.iload_n 1, 1) := by decide +kernel
theorem dL_hardware_4 : decode cL_hardware 4 = .ok (.invokevirtual 46, 3) := by decide +kernel
theorem dL_hardware_7 : decode cL_hardware 7 = .ok (.lastore, 1) := by decide +kernel
theorem dL_hardware_8 : decode cL_hardware 8 = .ok (.goto 6, 3) := by decide +kernel
theorem dL_hardware_11 : decode cL_hardware 11 = .ok (.astore_n 3, 1) := by decide +kernel
theorem dL_hardware_12 : decode cL_hardware 12 = .ok (.iconst 1, 1) := by decide +kernel
theorem dL_hardware_13 : decode cL_hardware 13 = .ok (.ireturn, 1) := by decide +kernel
theorem dL_hardware_14 : decode cL_hardware 14 = .ok (.iconst 0, 1) := by decide +kernel
theorem dL_hardware_15 : decode cL_hardware 15 = .ok (.ireturn, 1) := by decide +kernel
theorem dL_waits_0 : decode cL_waits 0 = .ok (.aload_n 3, 1) := by decide +kernel
theorem dL_waits_1 : decode cL_waits 1 = .ok (.iconst 0, 1) := by decide +kernel
theorem dL_waits_2 : decode cL_waits 2 = .ok (.aload_n 0, 1) := by decide +kernel
theorem dL_waits_3 : decode cL_waits 3 = .ok (.iload_n 1, 1) := by decide +kernel
theorem dL_waits_4 : decode cL_waits 4 = .ok (.iload_n 2, 1) := by decide +kernel
theorem dL_waits_5 : decode cL_waits 5 = .ok (.invokevirtual 50, 3) := by decide +kernel
theorem dL_waits_8 : decode cL_waits 8 = .ok (.i2l, 1) := by decide +kernel
theorem dL_waits_9 : decode cL_waits 9 = .ok (.lastore, 1) := by decide +kernel
theorem dL_waits_10 : decode cL_waits 10 = .ok (.goto 11, 3) := by decide +kernel
theorem dL_waits_13 : decode cL_waits 13 = .ok (.astore 4, 2) := by decide +kernel
theorem dL_waits_15 : decode cL_waits 15 = .ok (.iconst 1, 1) := by decide +kernel
theorem dL_waits_16 : decode cL_waits 16 = .ok (.ireturn, 1) := by decide +kernel
theorem dL_waits_17 : decode cL_waits 17 = .ok (.astore 4, 2) := by decide +kernel
theorem dL_waits_19 : decode cL_waits 19 = .ok (.iconst 2, 1) := by decide +kernel
theorem dL_waits_20 : decode cL_waits 20 = .ok (.ireturn, 1) := by decide +kernel
theorem dL_waits_21 : decode cL_waits 21 = .ok (.iconst 0, 1) := by decide +kernel
theorem dL_waits_22 : decode cL_waits 22 = .ok (.ireturn, 1) := by decide +kernel
theorem dL_to_0 : decode cL_to 0 = .ok (.aload_n 2, 1) := by decide +kernel
theorem dL_to_1 : decode cL_to 1 = .ok (.iconst 0, 1) := by decide +kernel
theorem dL_to_2 : decode cL_to 2 = .ok (.aload_n 0, 1) := by decide +kernel
theorem dL_to_3 : decode cL_to 3 = .ok (.iload_n 1, 1) := by decide +kernel
theorem dL_to_4 : decode cL_to 4 = .ok (.invokevirtual 53, 3) := by decide +kernel
theorem dL_to_7 : decode cL_to 7 = .ok (.lastore, 1) := by decide +kernel
theorem dL_to_8 : decode cL_to 8 = .ok (.goto 6, 3) := by decide +kernel
theorem dL_to_11 : decode cL_to 11 = .ok (.astore_n 3, 1) := by decide +kernel
theorem dL_to_12 : decode cL_to 12 = .ok (.iconst 1, 1) := by decide +kernel
theorem dL_to_13 : decode cL_to 13 = .ok (.ireturn, 1) := by decide +kernel
theorem dL_to_14 : decode cL_to 14 = .ok (.iconst 0, 1) := by decide +kernel
theorem dL_to_15 : decode cL_to 15 = .ok (.ireturn, 1) := by decide +kernel
theorem dL_data_0 : decode cL_data 0 = .ok (.aload_n 2, 1) := by decide +kernel
theorem dL_data_1 : decode cL_data 1 = .ok (.iconst 0, 1) := by decide +kernel
theorem dL_data_2 : decode cL_data 2 = .ok (.aload_n 0, 1) := by decide +kernel
theorem dL_data_3 : decode cL_data 3 = .ok (.iload_n 1, 1) := by decide +kernel
theorem dL_data_4 : decode cL_data 4 = .ok (.invokevirtual 56, 3) := by decide +kernel
theorem dL_data_7 : decode cL_data 7 = .ok (.i2l, 1) := by decide +kernel
theorem dL_data_8 : decode cL_data 8 = .ok (.lastore, 1) := by decide +kernel
theorem dL_data_9 : decode cL_data 9 = .ok (.goto 6, 3) := by decide +kernel
theorem dL_data_12 : decode cL_data 12 = .ok (.astore_n 3, 1) := by decide +kernel
theorem dL_data_13 : decode cL_data 13 = .ok (.iconst 1, 1) := by decide +kernel
theorem dL_data_14 : decode cL_data 14 = .ok (.ireturn, 1) := by decide +kernel
theorem dL_data_15 : decode cL_data 15 = .ok (.iconst 0, 1) := by decide +kernel
theorem dL_data_16 : decode cL_data 16 = .ok (.ireturn, 1) := by decide +kernel
theorem dL_out_0 : decode cL_out 0 = .ok (.aload_n 3, 1) := by decide +kernel
theorem dL_out_1 : decode cL_out 1 = .ok (.iconst 0, 1) := by decide +kernel
theorem dL_out_2 : decode cL_out 2 = .ok (.aload_n 0, 1) := by decide +kernel
theorem dL_out_3 : decode cL_out 3 = .ok (.iload_n 1, 1) := by decide +kernel
theorem dL_out_4 : decode cL_out 4 = .ok (.iload_n 2, 1) := by decide +kernel
theorem dL_out_5 : decode cL_out 5 = .ok (.invokevirtual 59, 3) := by decide +kernel
theorem dL_out_8 : decode cL_out 8 = .ok (.i2l, 1) := by decide +kernel
theorem dL_out_9 : decode cL_out 9 = .ok (.lastore, 1) := by decide +kernel
theorem dL_out_10 : decode cL_out 10 = .ok (.goto 7, 3) := by decide +kernel
theorem dL_out_13 : decode cL_out 13 = .ok (.astore 4, 2) := by decide +kernel
theorem dL_out_15 : decode cL_out 15 = .ok (.iconst 1, 1) := by decide +kernel
theorem dL_out_16 : decode cL_out 16 = .ok (.ireturn, 1) := by decide +kernel
theorem dL_out_17 : decode cL_out 17 = .ok (.iconst 0, 1) := by decide +kernel
theorem dL_out_18 : decode cL_out 18 = .ok (.ireturn, 1) := by decide +kernel
theorem dL_lost_0 : decode cL_lost 0 = .ok (.aload_n 2, 1) := by decide +kernel
theorem dL_lost_1 : decode cL_lost 1 = .ok (.iconst 0, 1) := by decide +kernel
theorem dL_lost_2 : decode cL_lost 2 = .ok (.aload_n 0, 1) := by decide +kernel
theorem dL_lost_3 : decode cL_lost 3 = .ok (.iload_n 1, 1) := by decide +kernel
theorem dL_lost_4 : decode cL_lost 4 = .ok (.invokevirtual 62, 3) := by decide +kernel
theorem dL_lost_7 : decode cL_lost 7 = .ok (.i2l, 1) := by decide +kernel
theorem dL_lost_8 : decode cL_lost 8 = .ok (.lastore, 1) := by decide +kernel
theorem dL_lost_9 : decode cL_lost 9 = .ok (.goto 6, 3) := by decide +kernel
theorem dL_lost_12 : decode cL_lost 12 = .ok (.astore_n 3, 1) := by decide +kernel
theorem dL_lost_13 : decode cL_lost 13 = .ok (.iconst 1, 1) := by decide +kernel
theorem dL_lost_14 : decode cL_lost 14 = .ok (.ireturn, 1) := by decide +kernel
theorem dL_lost_15 : decode cL_lost 15 = .ok (.iconst 0, 1) := by decide +kernel
theorem dL_lost_16 : decode cL_lost 16 = .ok (.ireturn, 1) := by decide +kernel
theorem dL_law_0 : decode cL_law 0 = .ok (.new 8, 3) := by decide +kernel
theorem dL_law_3 : decode cL_law 3 = .ok (.dup, 1) := by decide +kernel
theorem dL_law_4 : decode cL_law 4 = .ok (.aload_n 0, 1) := by decide +kernel
theorem dL_law_5 : decode cL_law 5 = .ok (.iconst 0, 1) := by decide +kernel
theorem dL_law_6 : decode cL_law 6 = .ok (.invokestatic 65, 3) := by decide +kernel
theorem dL_law_9 : decode cL_law 9 = .ok (.aload_n 0, 1) := by decide +kernel
theorem dL_law_10 : decode cL_law 10 = .ok (.iconst 1, 1) := by decide +kernel
theorem dL_law_11 : decode cL_law 11 = .ok (.invokestatic 65, 3) := by decide +kernel
theorem dL_law_14 : decode cL_law 14 = .ok (.aload_n 0, 1) := by decide +kernel
theorem dL_law_15 : decode cL_law 15 = .ok (.iconst 2, 1) := by decide +kernel
theorem dL_law_16 : decode cL_law 16 = .ok (.invokestatic 65, 3) := by decide +kernel
theorem dL_law_19 : decode cL_law 19 = .ok (.invokespecial 71, 3) := by decide +kernel
theorem dL_law_22 : decode cL_law 22 = .ok (.astore_n 1, 1) := by decide +kernel
theorem dL_law_23 : decode cL_law 23 = .ok (.new 74, 3) := by decide +kernel
theorem dL_law_26 : decode cL_law 26 = .ok (.dup, 1) := by decide +kernel
theorem dL_law_27 : decode cL_law 27 = .ok (.aload_n 0, 1) := by decide +kernel
theorem dL_law_28 : decode cL_law 28 = .ok (.iconst 0, 1) := by decide +kernel
theorem dL_law_29 : decode cL_law 29 = .ok (.invokestatic 65, 3) := by decide +kernel
theorem dL_law_32 : decode cL_law 32 = .ok (.aload_n 0, 1) := by decide +kernel
theorem dL_law_33 : decode cL_law 33 = .ok (.iconst 1, 1) := by decide +kernel
theorem dL_law_34 : decode cL_law 34 = .ok (.invokestatic 65, 3) := by decide +kernel
theorem dL_law_37 : decode cL_law 37 = .ok (.aload_n 0, 1) := by decide +kernel
theorem dL_law_38 : decode cL_law 38 = .ok (.iconst 2, 1) := by decide +kernel
theorem dL_law_39 : decode cL_law 39 = .ok (.invokestatic 65, 3) := by decide +kernel
theorem dL_law_42 : decode cL_law 42 = .ok (.invokespecial 76, 3) := by decide +kernel
theorem dL_law_45 : decode cL_law 45 = .ok (.astore_n 2, 1) := by decide +kernel
theorem dL_law_46 : decode cL_law 46 = .ok (.iconst 1, 1) := by decide +kernel
theorem dL_law_47 : decode cL_law 47 = .ok (.newarray .long, 2) := by decide +kernel
theorem dL_law_49 : decode cL_law 49 = .ok (.astore_n 3, 1) := by decide +kernel
theorem dL_law_50 : decode cL_law 50 = .ok (.iconst 3, 1) := by decide +kernel
theorem dL_law_51 : decode cL_law 51 = .ok (.istore 4, 2) := by decide +kernel
theorem dL_law_53 : decode cL_law 53 = .ok (.iload 4, 2) := by decide +kernel
theorem dL_law_55 : decode cL_law 55 = .ok (.aload_n 0, 1) := by decide +kernel
theorem dL_law_56 : decode cL_law 56 = .ok (.arraylength, 1) := by decide +kernel
theorem dL_law_57 : decode cL_law 57 = .ok (.bipush 8, 2) := by decide +kernel
theorem dL_law_59 : decode cL_law 59 = .ok (.isub, 1) := by decide +kernel
theorem dL_law_60 : decode cL_law 60 = .ok (.if_icmp .gt 1158, 3) := by decide +kernel
theorem dL_law_63 : decode cL_law 63 = .ok (.aload_n 0, 1) := by decide +kernel
theorem dL_law_64 : decode cL_law 64 = .ok (.iload 4, 2) := by decide +kernel
theorem dL_law_66 : decode cL_law 66 = .ok (.iaload, 1) := by decide +kernel
theorem dL_law_67 : decode cL_law 67 = .ok (.bipush 31, 2) := by decide +kernel
theorem dL_law_69 : decode cL_law 69 = .ok (.iand, 1) := by decide +kernel
theorem dL_law_70 : decode cL_law 70 = .ok (.tableswitch 1142 0 17 #[86, 154, 254, 393, 406, 442, 455, 523, 579, 635, 691, 759, 814, 839, 907, 962, 1018, 1086], 86) := by decide +kernel
theorem dL_law_156 : decode cL_law 156 = .ok (.aload_n 1, 1) := by decide +kernel
theorem dL_law_157 : decode cL_law 157 = .ok (.aload_n 0, 1) := by decide +kernel
theorem dL_law_158 : decode cL_law 158 = .ok (.iload 4, 2) := by decide +kernel
theorem dL_law_160 : decode cL_law 160 = .ok (.iconst 1, 1) := by decide +kernel
theorem dL_law_161 : decode cL_law 161 = .ok (.iadd, 1) := by decide +kernel
theorem dL_law_162 : decode cL_law 162 = .ok (.iaload, 1) := by decide +kernel
theorem dL_law_163 : decode cL_law 163 = .ok (.i2l, 1) := by decide +kernel
theorem dL_law_164 : decode cL_law 164 = .ok (.bipush 32, 2) := by decide +kernel
theorem dL_law_166 : decode cL_law 166 = .ok (.lshl, 1) := by decide +kernel
theorem dL_law_167 : decode cL_law 167 = .ok (.aload_n 0, 1) := by decide +kernel
theorem dL_law_168 : decode cL_law 168 = .ok (.iload 4, 2) := by decide +kernel
theorem dL_law_170 : decode cL_law 170 = .ok (.iconst 2, 1) := by decide +kernel
theorem dL_law_171 : decode cL_law 171 = .ok (.iadd, 1) := by decide +kernel
theorem dL_law_172 : decode cL_law 172 = .ok (.iaload, 1) := by decide +kernel
theorem dL_law_173 : decode cL_law 173 = .ok (.i2l, 1) := by decide +kernel
theorem dL_law_174 : decode cL_law 174 = .ok (.ldc2_w 77, 3) := by decide +kernel
theorem dL_law_177 : decode cL_law 177 = .ok (.land, 1) := by decide +kernel
theorem dL_law_178 : decode cL_law 178 = .ok (.lor, 1) := by decide +kernel
theorem dL_law_179 : decode cL_law 179 = .ok (.invokestatic 79, 3) := by decide +kernel
theorem dL_law_182 : decode cL_law 182 = .ok (.istore 5, 2) := by decide +kernel
theorem dL_law_184 : decode cL_law 184 = .ok (.aload_n 2, 1) := by decide +kernel
theorem dL_law_185 : decode cL_law 185 = .ok (.aload_n 0, 1) := by decide +kernel
theorem dL_law_186 : decode cL_law 186 = .ok (.iload 4, 2) := by decide +kernel
theorem dL_law_188 : decode cL_law 188 = .ok (.iconst 1, 1) := by decide +kernel
theorem dL_law_189 : decode cL_law 189 = .ok (.iadd, 1) := by decide +kernel
theorem dL_law_190 : decode cL_law 190 = .ok (.iaload, 1) := by decide +kernel
theorem dL_law_191 : decode cL_law 191 = .ok (.i2l, 1) := by decide +kernel
theorem dL_law_192 : decode cL_law 192 = .ok (.bipush 32, 2) := by decide +kernel
theorem dL_law_194 : decode cL_law 194 = .ok (.lshl, 1) := by decide +kernel
theorem dL_law_195 : decode cL_law 195 = .ok (.aload_n 0, 1) := by decide +kernel
theorem dL_law_196 : decode cL_law 196 = .ok (.iload 4, 2) := by decide +kernel
theorem dL_law_198 : decode cL_law 198 = .ok (.iconst 2, 1) := by decide +kernel
theorem dL_law_199 : decode cL_law 199 = .ok (.iadd, 1) := by decide +kernel
theorem dL_law_200 : decode cL_law 200 = .ok (.iaload, 1) := by decide +kernel
theorem dL_law_201 : decode cL_law 201 = .ok (.i2l, 1) := by decide +kernel
theorem dL_law_202 : decode cL_law 202 = .ok (.ldc2_w 77, 3) := by decide +kernel
theorem dL_law_205 : decode cL_law 205 = .ok (.land, 1) := by decide +kernel
theorem dL_law_206 : decode cL_law 206 = .ok (.lor, 1) := by decide +kernel
theorem dL_law_207 : decode cL_law 207 = .ok (.invokevirtual 82, 3) := by decide +kernel
theorem dL_law_210 : decode cL_law 210 = .ok (.aload_n 2, 1) := by decide +kernel
theorem dL_law_211 : decode cL_law 211 = .ok (.invokevirtual 83, 3) := by decide +kernel
theorem dL_law_214 : decode cL_law 214 = .ok (.iload 5, 2) := by decide +kernel
theorem dL_law_216 : decode cL_law 216 = .ok (.if_icmp .eq 5, 3) := by decide +kernel
theorem dL_law_219 : decode cL_law 219 = .ok (.iconst 0, 1) := by decide +kernel
theorem dL_law_220 : decode cL_law 220 = .ok (.ireturn, 1) := by decide +kernel
theorem dL_law_221 : decode cL_law 221 = .ok (.goto 991, 3) := by decide +kernel
theorem dL_law_224 : decode cL_law 224 = .ok (.aload_n 1, 1) := by decide +kernel
theorem dL_law_225 : decode cL_law 225 = .ok (.aload_n 0, 1) := by decide +kernel
theorem dL_law_226 : decode cL_law 226 = .ok (.iload 4, 2) := by decide +kernel
theorem dL_law_228 : decode cL_law 228 = .ok (.iconst 1, 1) := by decide +kernel
theorem dL_law_229 : decode cL_law 229 = .ok (.iadd, 1) := by decide +kernel
theorem dL_law_230 : decode cL_law 230 = .ok (.iaload, 1) := by decide +kernel
theorem dL_law_231 : decode cL_law 231 = .ok (.i2l, 1) := by decide +kernel
theorem dL_law_232 : decode cL_law 232 = .ok (.bipush 32, 2) := by decide +kernel
theorem dL_law_234 : decode cL_law 234 = .ok (.lshl, 1) := by decide +kernel
theorem dL_law_235 : decode cL_law 235 = .ok (.aload_n 0, 1) := by decide +kernel
theorem dL_law_236 : decode cL_law 236 = .ok (.iload 4, 2) := by decide +kernel
theorem dL_law_238 : decode cL_law 238 = .ok (.iconst 2, 1) := by decide +kernel
theorem dL_law_239 : decode cL_law 239 = .ok (.iadd, 1) := by decide +kernel
theorem dL_law_240 : decode cL_law 240 = .ok (.iaload, 1) := by decide +kernel
theorem dL_law_241 : decode cL_law 241 = .ok (.i2l, 1) := by decide +kernel
theorem dL_law_242 : decode cL_law 242 = .ok (.ldc2_w 77, 3) := by decide +kernel
theorem dL_law_245 : decode cL_law 245 = .ok (.land, 1) := by decide +kernel
theorem dL_law_246 : decode cL_law 246 = .ok (.lor, 1) := by decide +kernel
theorem dL_law_247 : decode cL_law 247 = .ok (.aload_n 0, 1) := by decide +kernel
theorem dL_law_248 : decode cL_law 248 = .ok (.iload 4, 2) := by decide +kernel
theorem dL_law_250 : decode cL_law 250 = .ok (.iconst 3, 1) := by decide +kernel
theorem dL_law_251 : decode cL_law 251 = .ok (.iadd, 1) := by decide +kernel
theorem dL_law_252 : decode cL_law 252 = .ok (.iaload, 1) := by decide +kernel
theorem dL_law_253 : decode cL_law 253 = .ok (.aload_n 3, 1) := by decide +kernel
theorem dL_law_254 : decode cL_law 254 = .ok (.invokestatic 87, 3) := by decide +kernel
theorem dL_law_257 : decode cL_law 257 = .ok (.istore 5, 2) := by decide +kernel
theorem dL_law_259 : decode cL_law 259 = .ok (.aload_n 2, 1) := by decide +kernel
theorem dL_law_260 : decode cL_law 260 = .ok (.aload_n 0, 1) := by decide +kernel
theorem dL_law_261 : decode cL_law 261 = .ok (.iload 4, 2) := by decide +kernel
theorem dL_law_263 : decode cL_law 263 = .ok (.iconst 1, 1) := by decide +kernel
theorem dL_law_264 : decode cL_law 264 = .ok (.iadd, 1) := by decide +kernel
theorem dL_law_265 : decode cL_law 265 = .ok (.iaload, 1) := by decide +kernel
theorem dL_law_266 : decode cL_law 266 = .ok (.i2l, 1) := by decide +kernel
theorem dL_law_267 : decode cL_law 267 = .ok (.bipush 32, 2) := by decide +kernel
theorem dL_law_269 : decode cL_law 269 = .ok (.lshl, 1) := by decide +kernel
theorem dL_law_270 : decode cL_law 270 = .ok (.aload_n 0, 1) := by decide +kernel
theorem dL_law_271 : decode cL_law 271 = .ok (.iload 4, 2) := by decide +kernel
theorem dL_law_273 : decode cL_law 273 = .ok (.iconst 2, 1) := by decide +kernel
theorem dL_law_274 : decode cL_law 274 = .ok (.iadd, 1) := by decide +kernel
theorem dL_law_275 : decode cL_law 275 = .ok (.iaload, 1) := by decide +kernel
theorem dL_law_276 : decode cL_law 276 = .ok (.i2l, 1) := by decide +kernel
theorem dL_law_277 : decode cL_law 277 = .ok (.ldc2_w 77, 3) := by decide +kernel
theorem dL_law_280 : decode cL_law 280 = .ok (.land, 1) := by decide +kernel
theorem dL_law_281 : decode cL_law 281 = .ok (.lor, 1) := by decide +kernel
theorem dL_law_282 : decode cL_law 282 = .ok (.aload_n 0, 1) := by decide +kernel
theorem dL_law_283 : decode cL_law 283 = .ok (.iload 4, 2) := by decide +kernel
theorem dL_law_285 : decode cL_law 285 = .ok (.iconst 3, 1) := by decide +kernel
theorem dL_law_286 : decode cL_law 286 = .ok (.iadd, 1) := by decide +kernel
theorem dL_law_287 : decode cL_law 287 = .ok (.iaload, 1) := by decide +kernel
theorem dL_law_288 : decode cL_law 288 = .ok (.invokevirtual 90, 3) := by decide +kernel
theorem dL_law_291 : decode cL_law 291 = .ok (.istore 6, 2) := by decide +kernel
theorem dL_law_293 : decode cL_law 293 = .ok (.aload_n 2, 1) := by decide +kernel
theorem dL_law_294 : decode cL_law 294 = .ok (.invokevirtual 83, 3) := by decide +kernel
theorem dL_law_297 : decode cL_law 297 = .ok (.iload 5, 2) := by decide +kernel
theorem dL_law_299 : decode cL_law 299 = .ok (.if_icmp .eq 5, 3) := by decide +kernel
theorem dL_law_302 : decode cL_law 302 = .ok (.iconst 0, 1) := by decide +kernel
theorem dL_law_303 : decode cL_law 303 = .ok (.ireturn, 1) := by decide +kernel
theorem dL_law_304 : decode cL_law 304 = .ok (.iload 5, 2) := by decide +kernel
theorem dL_law_306 : decode cL_law 306 = .ok (.ifCond .ne 15, 3) := by decide +kernel
theorem dL_law_309 : decode cL_law 309 = .ok (.aload_n 3, 1) := by decide +kernel
theorem dL_law_310 : decode cL_law 310 = .ok (.iconst 0, 1) := by decide +kernel
theorem dL_law_311 : decode cL_law 311 = .ok (.laload, 1) := by decide +kernel
theorem dL_law_312 : decode cL_law 312 = .ok (.iload 6, 2) := by decide +kernel
theorem dL_law_314 : decode cL_law 314 = .ok (.i2l, 1) := by decide +kernel
theorem dL_law_315 : decode cL_law 315 = .ok (.lcmp, 1) := by decide +kernel
theorem dL_law_316 : decode cL_law 316 = .ok (.ifCond .eq 5, 3) := by decide +kernel
theorem dL_law_319 : decode cL_law 319 = .ok (.iconst 0, 1) := by decide +kernel
theorem dL_law_320 : decode cL_law 320 = .ok (.ireturn, 1) := by decide +kernel
theorem dL_law_321 : decode cL_law 321 = .ok (.goto 891, 3) := by decide +kernel
theorem dL_law_324 : decode cL_law 324 = .ok (.aload_n 1, 1) := by decide +kernel
theorem dL_law_325 : decode cL_law 325 = .ok (.aload_n 0, 1) := by decide +kernel
theorem dL_law_326 : decode cL_law 326 = .ok (.iload 4, 2) := by decide +kernel
theorem dL_law_328 : decode cL_law 328 = .ok (.iconst 1, 1) := by decide +kernel
theorem dL_law_329 : decode cL_law 329 = .ok (.iadd, 1) := by decide +kernel
theorem dL_law_330 : decode cL_law 330 = .ok (.iaload, 1) := by decide +kernel
theorem dL_law_331 : decode cL_law 331 = .ok (.aload_n 0, 1) := by decide +kernel
theorem dL_law_332 : decode cL_law 332 = .ok (.iload 4, 2) := by decide +kernel
theorem dL_law_334 : decode cL_law 334 = .ok (.iconst 2, 1) := by decide +kernel
theorem dL_law_335 : decode cL_law 335 = .ok (.iadd, 1) := by decide +kernel
theorem dL_law_336 : decode cL_law 336 = .ok (.iaload, 1) := by decide +kernel
theorem dL_law_337 : decode cL_law 337 = .ok (.i2l, 1) := by decide +kernel
theorem dL_law_338 : decode cL_law 338 = .ok (.bipush 32, 2) := by decide +kernel
theorem dL_law_340 : decode cL_law 340 = .ok (.lshl, 1) := by decide +kernel
theorem dL_law_341 : decode cL_law 341 = .ok (.aload_n 0, 1) := by decide +kernel
theorem dL_law_342 : decode cL_law 342 = .ok (.iload 4, 2) := by decide +kernel
theorem dL_law_344 : decode cL_law 344 = .ok (.iconst 3, 1) := by decide +kernel
theorem dL_law_345 : decode cL_law 345 = .ok (.iadd, 1) := by decide +kernel
theorem dL_law_346 : decode cL_law 346 = .ok (.iaload, 1) := by decide +kernel
theorem dL_law_347 : decode cL_law 347 = .ok (.i2l, 1) := by decide +kernel
theorem dL_law_348 : decode cL_law 348 = .ok (.ldc2_w 77, 3) := by decide +kernel
theorem dL_law_351 : decode cL_law 351 = .ok (.land, 1) := by decide +kernel
theorem dL_law_352 : decode cL_law 352 = .ok (.lor, 1) := by decide +kernel
theorem dL_law_353 : decode cL_law 353 = .ok (.aload_n 0, 1) := by decide +kernel
theorem dL_law_354 : decode cL_law 354 = .ok (.iload 4, 2) := by decide +kernel
theorem dL_law_356 : decode cL_law 356 = .ok (.iconst 4, 1) := by decide +kernel
theorem dL_law_357 : decode cL_law 357 = .ok (.iadd, 1) := by decide +kernel
theorem dL_law_358 : decode cL_law 358 = .ok (.iaload, 1) := by decide +kernel
theorem dL_law_359 : decode cL_law 359 = .ok (.aload_n 0, 1) := by decide +kernel
theorem dL_law_360 : decode cL_law 360 = .ok (.iload 4, 2) := by decide +kernel
theorem dL_law_362 : decode cL_law 362 = .ok (.iconst 5, 1) := by decide +kernel
theorem dL_law_363 : decode cL_law 363 = .ok (.iadd, 1) := by decide +kernel
theorem dL_law_364 : decode cL_law 364 = .ok (.iaload, 1) := by decide +kernel
theorem dL_law_365 : decode cL_law 365 = .ok (.i2l, 1) := by decide +kernel
theorem dL_law_366 : decode cL_law 366 = .ok (.bipush 32, 2) := by decide +kernel
theorem dL_law_368 : decode cL_law 368 = .ok (.lshl, 1) := by decide +kernel
theorem dL_law_369 : decode cL_law 369 = .ok (.aload_n 0, 1) := by decide +kernel
theorem dL_law_370 : decode cL_law 370 = .ok (.iload 4, 2) := by decide +kernel
theorem dL_law_372 : decode cL_law 372 = .ok (.bipush 6, 2) := by decide +kernel
theorem dL_law_374 : decode cL_law 374 = .ok (.iadd, 1) := by decide +kernel
theorem dL_law_375 : decode cL_law 375 = .ok (.iaload, 1) := by decide +kernel
theorem dL_law_376 : decode cL_law 376 = .ok (.i2l, 1) := by decide +kernel
theorem dL_law_377 : decode cL_law 377 = .ok (.ldc2_w 77, 3) := by decide +kernel
theorem dL_law_380 : decode cL_law 380 = .ok (.land, 1) := by decide +kernel
theorem dL_law_381 : decode cL_law 381 = .ok (.lor, 1) := by decide +kernel
theorem dL_law_382 : decode cL_law 382 = .ok (.aload_n 0, 1) := by decide +kernel
theorem dL_law_383 : decode cL_law 383 = .ok (.iload 4, 2) := by decide +kernel
theorem dL_law_385 : decode cL_law 385 = .ok (.bipush 7, 2) := by decide +kernel
theorem dL_law_387 : decode cL_law 387 = .ok (.iadd, 1) := by decide +kernel
theorem dL_law_388 : decode cL_law 388 = .ok (.iaload, 1) := by decide +kernel
theorem dL_law_389 : decode cL_law 389 = .ok (.invokevirtual 91, 3) := by decide +kernel
theorem dL_law_392 : decode cL_law 392 = .ok (.aload_n 2, 1) := by decide +kernel
theorem dL_law_393 : decode cL_law 393 = .ok (.aload_n 0, 1) := by decide +kernel
theorem dL_law_394 : decode cL_law 394 = .ok (.iload 4, 2) := by decide +kernel
theorem dL_law_396 : decode cL_law 396 = .ok (.iconst 1, 1) := by decide +kernel
theorem dL_law_397 : decode cL_law 397 = .ok (.iadd, 1) := by decide +kernel
theorem dL_law_398 : decode cL_law 398 = .ok (.iaload, 1) := by decide +kernel
theorem dL_law_399 : decode cL_law 399 = .ok (.aload_n 0, 1) := by decide +kernel
theorem dL_law_400 : decode cL_law 400 = .ok (.iload 4, 2) := by decide +kernel
theorem dL_law_402 : decode cL_law 402 = .ok (.iconst 2, 1) := by decide +kernel
theorem dL_law_403 : decode cL_law 403 = .ok (.iadd, 1) := by decide +kernel
theorem dL_law_404 : decode cL_law 404 = .ok (.iaload, 1) := by decide +kernel
theorem dL_law_405 : decode cL_law 405 = .ok (.i2l, 1) := by decide +kernel
theorem dL_law_406 : decode cL_law 406 = .ok (.bipush 32, 2) := by decide +kernel
theorem dL_law_408 : decode cL_law 408 = .ok (.lshl, 1) := by decide +kernel
theorem dL_law_409 : decode cL_law 409 = .ok (.aload_n 0, 1) := by decide +kernel
theorem dL_law_410 : decode cL_law 410 = .ok (.iload 4, 2) := by decide +kernel
theorem dL_law_412 : decode cL_law 412 = .ok (.iconst 3, 1) := by decide +kernel
theorem dL_law_413 : decode cL_law 413 = .ok (.iadd, 1) := by decide +kernel
theorem dL_law_414 : decode cL_law 414 = .ok (.iaload, 1) := by decide +kernel
theorem dL_law_415 : decode cL_law 415 = .ok (.i2l, 1) := by decide +kernel
theorem dL_law_416 : decode cL_law 416 = .ok (.ldc2_w 77, 3) := by decide +kernel
theorem dL_law_419 : decode cL_law 419 = .ok (.land, 1) := by decide +kernel
theorem dL_law_420 : decode cL_law 420 = .ok (.lor, 1) := by decide +kernel
theorem dL_law_421 : decode cL_law 421 = .ok (.aload_n 0, 1) := by decide +kernel
theorem dL_law_422 : decode cL_law 422 = .ok (.iload 4, 2) := by decide +kernel
theorem dL_law_424 : decode cL_law 424 = .ok (.iconst 4, 1) := by decide +kernel
theorem dL_law_425 : decode cL_law 425 = .ok (.iadd, 1) := by decide +kernel
theorem dL_law_426 : decode cL_law 426 = .ok (.iaload, 1) := by decide +kernel
theorem dL_law_427 : decode cL_law 427 = .ok (.aload_n 0, 1) := by decide +kernel
theorem dL_law_428 : decode cL_law 428 = .ok (.iload 4, 2) := by decide +kernel
theorem dL_law_430 : decode cL_law 430 = .ok (.iconst 5, 1) := by decide +kernel
theorem dL_law_431 : decode cL_law 431 = .ok (.iadd, 1) := by decide +kernel
theorem dL_law_432 : decode cL_law 432 = .ok (.iaload, 1) := by decide +kernel
theorem dL_law_433 : decode cL_law 433 = .ok (.i2l, 1) := by decide +kernel
theorem dL_law_434 : decode cL_law 434 = .ok (.bipush 32, 2) := by decide +kernel
theorem dL_law_436 : decode cL_law 436 = .ok (.lshl, 1) := by decide +kernel
theorem dL_law_437 : decode cL_law 437 = .ok (.aload_n 0, 1) := by decide +kernel
theorem dL_law_438 : decode cL_law 438 = .ok (.iload 4, 2) := by decide +kernel
theorem dL_law_440 : decode cL_law 440 = .ok (.bipush 6, 2) := by decide +kernel
theorem dL_law_442 : decode cL_law 442 = .ok (.iadd, 1) := by decide +kernel
theorem dL_law_443 : decode cL_law 443 = .ok (.iaload, 1) := by decide +kernel
theorem dL_law_444 : decode cL_law 444 = .ok (.i2l, 1) := by decide +kernel
theorem dL_law_445 : decode cL_law 445 = .ok (.ldc2_w 77, 3) := by decide +kernel
theorem dL_law_448 : decode cL_law 448 = .ok (.land, 1) := by decide +kernel
theorem dL_law_449 : decode cL_law 449 = .ok (.lor, 1) := by decide +kernel
theorem dL_law_450 : decode cL_law 450 = .ok (.aload_n 0, 1) := by decide +kernel
theorem dL_law_451 : decode cL_law 451 = .ok (.iload 4, 2) := by decide +kernel
theorem dL_law_453 : decode cL_law 453 = .ok (.bipush 7, 2) := by decide +kernel
theorem dL_law_455 : decode cL_law 455 = .ok (.iadd, 1) := by decide +kernel
theorem dL_law_456 : decode cL_law 456 = .ok (.iaload, 1) := by decide +kernel
theorem dL_law_457 : decode cL_law 457 = .ok (.invokevirtual 95, 3) := by decide +kernel
theorem dL_law_460 : decode cL_law 460 = .ok (.goto 752, 3) := by decide +kernel
theorem dL_law_463 : decode cL_law 463 = .ok (.aload_n 1, 1) := by decide +kernel
theorem dL_law_464 : decode cL_law 464 = .ok (.invokevirtual 96, 3) := by decide +kernel
theorem dL_law_467 : decode cL_law 467 = .ok (.aload_n 2, 1) := by decide +kernel
theorem dL_law_468 : decode cL_law 468 = .ok (.invokevirtual 99, 3) := by decide +kernel
theorem dL_law_471 : decode cL_law 471 = .ok (.if_icmp .eq 741, 3) := by decide +kernel
theorem dL_law_474 : decode cL_law 474 = .ok (.iconst 0, 1) := by decide +kernel
theorem dL_law_475 : decode cL_law 475 = .ok (.ireturn, 1) := by decide +kernel
theorem dL_law_476 : decode cL_law 476 = .ok (.aload_n 1, 1) := by decide +kernel
theorem dL_law_477 : decode cL_law 477 = .ok (.aload_n 0, 1) := by decide +kernel
theorem dL_law_478 : decode cL_law 478 = .ok (.iload 4, 2) := by decide +kernel
theorem dL_law_480 : decode cL_law 480 = .ok (.iconst 1, 1) := by decide +kernel
theorem dL_law_481 : decode cL_law 481 = .ok (.iadd, 1) := by decide +kernel
theorem dL_law_482 : decode cL_law 482 = .ok (.iaload, 1) := by decide +kernel
theorem dL_law_483 : decode cL_law 483 = .ok (.invokestatic 100, 3) := by decide +kernel
theorem dL_law_486 : decode cL_law 486 = .ok (.istore 5, 2) := by decide +kernel
theorem dL_law_488 : decode cL_law 488 = .ok (.aload_n 2, 1) := by decide +kernel
theorem dL_law_489 : decode cL_law 489 = .ok (.aload_n 0, 1) := by decide +kernel
theorem dL_law_490 : decode cL_law 490 = .ok (.iload 4, 2) := by decide +kernel
theorem dL_law_492 : decode cL_law 492 = .ok (.iconst 1, 1) := by decide +kernel
theorem dL_law_493 : decode cL_law 493 = .ok (.iadd, 1) := by decide +kernel
theorem dL_law_494 : decode cL_law 494 = .ok (.iaload, 1) := by decide +kernel
theorem dL_law_495 : decode cL_law 495 = .ok (.invokevirtual 103, 3) := by decide +kernel
theorem dL_law_498 : decode cL_law 498 = .ok (.aload_n 2, 1) := by decide +kernel
theorem dL_law_499 : decode cL_law 499 = .ok (.invokevirtual 83, 3) := by decide +kernel
theorem dL_law_502 : decode cL_law 502 = .ok (.iload 5, 2) := by decide +kernel
theorem dL_law_504 : decode cL_law 504 = .ok (.if_icmp .eq 5, 3) := by decide +kernel
theorem dL_law_507 : decode cL_law 507 = .ok (.iconst 0, 1) := by decide +kernel
theorem dL_law_508 : decode cL_law 508 = .ok (.ireturn, 1) := by decide +kernel
theorem dL_law_509 : decode cL_law 509 = .ok (.goto 703, 3) := by decide +kernel
theorem dL_law_512 : decode cL_law 512 = .ok (.aload_n 1, 1) := by decide +kernel
theorem dL_law_513 : decode cL_law 513 = .ok (.invokevirtual 104, 3) := by decide +kernel
theorem dL_law_516 : decode cL_law 516 = .ok (.aload_n 2, 1) := by decide +kernel
theorem dL_law_517 : decode cL_law 517 = .ok (.invokevirtual 108, 3) := by decide +kernel
theorem dL_law_520 : decode cL_law 520 = .ok (.if_icmp .eq 692, 3) := by decide +kernel
theorem dL_law_523 : decode cL_law 523 = .ok (.iconst 0, 1) := by decide +kernel
theorem dL_law_524 : decode cL_law 524 = .ok (.ireturn, 1) := by decide +kernel
theorem dL_law_525 : decode cL_law 525 = .ok (.aload_n 1, 1) := by decide +kernel
theorem dL_law_526 : decode cL_law 526 = .ok (.aload_n 0, 1) := by decide +kernel
theorem dL_law_527 : decode cL_law 527 = .ok (.iload 4, 2) := by decide +kernel
theorem dL_law_529 : decode cL_law 529 = .ok (.iconst 1, 1) := by decide +kernel
theorem dL_law_530 : decode cL_law 530 = .ok (.iadd, 1) := by decide +kernel
theorem dL_law_531 : decode cL_law 531 = .ok (.iaload, 1) := by decide +kernel
theorem dL_law_532 : decode cL_law 532 = .ok (.aload_n 0, 1) := by decide +kernel
theorem dL_law_533 : decode cL_law 533 = .ok (.iload 4, 2) := by decide +kernel
theorem dL_law_535 : decode cL_law 535 = .ok (.iconst 2, 1) := by decide +kernel
theorem dL_law_536 : decode cL_law 536 = .ok (.iadd, 1) := by decide +kernel
theorem dL_law_537 : decode cL_law 537 = .ok (.iaload, 1) := by decide +kernel
theorem dL_law_538 : decode cL_law 538 = .ok (.aload_n 3, 1) := by decide +kernel
theorem dL_law_539 : decode cL_law 539 = .ok (.invokestatic 109, 3) := by decide +kernel
theorem dL_law_542 : decode cL_law 542 = .ok (.istore 5, 2) := by decide +kernel
theorem dL_law_544 : decode cL_law 544 = .ok (.aload_n 2, 1) := by decide +kernel
theorem dL_law_545 : decode cL_law 545 = .ok (.aload_n 0, 1) := by decide +kernel
theorem dL_law_546 : decode cL_law 546 = .ok (.iload 4, 2) := by decide +kernel
theorem dL_law_548 : decode cL_law 548 = .ok (.iconst 1, 1) := by decide +kernel
theorem dL_law_549 : decode cL_law 549 = .ok (.iadd, 1) := by decide +kernel
theorem dL_law_550 : decode cL_law 550 = .ok (.iaload, 1) := by decide +kernel
theorem dL_law_551 : decode cL_law 551 = .ok (.aload_n 0, 1) := by decide +kernel
theorem dL_law_552 : decode cL_law 552 = .ok (.iload 4, 2) := by decide +kernel
theorem dL_law_554 : decode cL_law 554 = .ok (.iconst 2, 1) := by decide +kernel
theorem dL_law_555 : decode cL_law 555 = .ok (.iadd, 1) := by decide +kernel
theorem dL_law_556 : decode cL_law 556 = .ok (.iaload, 1) := by decide +kernel
theorem dL_law_557 : decode cL_law 557 = .ok (.invokevirtual 112, 3) := by decide +kernel
theorem dL_law_560 : decode cL_law 560 = .ok (.istore 6, 2) := by decide +kernel
theorem dL_law_562 : decode cL_law 562 = .ok (.aload_n 2, 1) := by decide +kernel
theorem dL_law_563 : decode cL_law 563 = .ok (.invokevirtual 83, 3) := by decide +kernel
theorem dL_law_566 : decode cL_law 566 = .ok (.iload 5, 2) := by decide +kernel
theorem dL_law_568 : decode cL_law 568 = .ok (.if_icmp .eq 5, 3) := by decide +kernel
theorem dL_law_571 : decode cL_law 571 = .ok (.iconst 0, 1) := by decide +kernel
theorem dL_law_572 : decode cL_law 572 = .ok (.ireturn, 1) := by decide +kernel
theorem dL_law_573 : decode cL_law 573 = .ok (.iload 5, 2) := by decide +kernel
theorem dL_law_575 : decode cL_law 575 = .ok (.ifCond .ne 15, 3) := by decide +kernel
theorem dL_law_578 : decode cL_law 578 = .ok (.aload_n 3, 1) := by decide +kernel
theorem dL_law_579 : decode cL_law 579 = .ok (.iconst 0, 1) := by decide +kernel
theorem dL_law_580 : decode cL_law 580 = .ok (.laload, 1) := by decide +kernel
theorem dL_law_581 : decode cL_law 581 = .ok (.iload 6, 2) := by decide +kernel
theorem dL_law_583 : decode cL_law 583 = .ok (.i2l, 1) := by decide +kernel
theorem dL_law_584 : decode cL_law 584 = .ok (.lcmp, 1) := by decide +kernel
theorem dL_law_585 : decode cL_law 585 = .ok (.ifCond .eq 5, 3) := by decide +kernel
theorem dL_law_588 : decode cL_law 588 = .ok (.iconst 0, 1) := by decide +kernel
theorem dL_law_589 : decode cL_law 589 = .ok (.ireturn, 1) := by decide +kernel
theorem dL_law_590 : decode cL_law 590 = .ok (.goto 622, 3) := by decide +kernel
theorem dL_law_593 : decode cL_law 593 = .ok (.aload_n 1, 1) := by decide +kernel
theorem dL_law_594 : decode cL_law 594 = .ok (.aload_n 0, 1) := by decide +kernel
theorem dL_law_595 : decode cL_law 595 = .ok (.iload 4, 2) := by decide +kernel
theorem dL_law_597 : decode cL_law 597 = .ok (.iconst 1, 1) := by decide +kernel
theorem dL_law_598 : decode cL_law 598 = .ok (.iadd, 1) := by decide +kernel
theorem dL_law_599 : decode cL_law 599 = .ok (.iaload, 1) := by decide +kernel
theorem dL_law_600 : decode cL_law 600 = .ok (.aload_n 3, 1) := by decide +kernel
theorem dL_law_601 : decode cL_law 601 = .ok (.invokestatic 113, 3) := by decide +kernel
theorem dL_law_604 : decode cL_law 604 = .ok (.istore 5, 2) := by decide +kernel
theorem dL_law_606 : decode cL_law 606 = .ok (.aload_n 2, 1) := by decide +kernel
theorem dL_law_607 : decode cL_law 607 = .ok (.aload_n 0, 1) := by decide +kernel
theorem dL_law_608 : decode cL_law 608 = .ok (.iload 4, 2) := by decide +kernel
theorem dL_law_610 : decode cL_law 610 = .ok (.iconst 1, 1) := by decide +kernel
theorem dL_law_611 : decode cL_law 611 = .ok (.iadd, 1) := by decide +kernel
theorem dL_law_612 : decode cL_law 612 = .ok (.iaload, 1) := by decide +kernel
theorem dL_law_613 : decode cL_law 613 = .ok (.invokevirtual 116, 3) := by decide +kernel
theorem dL_law_616 : decode cL_law 616 = .ok (.istore 6, 2) := by decide +kernel
theorem dL_law_618 : decode cL_law 618 = .ok (.aload_n 2, 1) := by decide +kernel
theorem dL_law_619 : decode cL_law 619 = .ok (.invokevirtual 83, 3) := by decide +kernel
theorem dL_law_622 : decode cL_law 622 = .ok (.iload 5, 2) := by decide +kernel
theorem dL_law_624 : decode cL_law 624 = .ok (.if_icmp .eq 5, 3) := by decide +kernel
theorem dL_law_627 : decode cL_law 627 = .ok (.iconst 0, 1) := by decide +kernel
theorem dL_law_628 : decode cL_law 628 = .ok (.ireturn, 1) := by decide +kernel
theorem dL_law_629 : decode cL_law 629 = .ok (.iload 5, 2) := by decide +kernel
theorem dL_law_631 : decode cL_law 631 = .ok (.ifCond .ne 15, 3) := by decide +kernel
theorem dL_law_634 : decode cL_law 634 = .ok (.aload_n 3, 1) := by decide +kernel
theorem dL_law_635 : decode cL_law 635 = .ok (.iconst 0, 1) := by decide +kernel
theorem dL_law_636 : decode cL_law 636 = .ok (.laload, 1) := by decide +kernel
theorem dL_law_637 : decode cL_law 637 = .ok (.iload 6, 2) := by decide +kernel
theorem dL_law_639 : decode cL_law 639 = .ok (.i2l, 1) := by decide +kernel
theorem dL_law_640 : decode cL_law 640 = .ok (.lcmp, 1) := by decide +kernel
theorem dL_law_641 : decode cL_law 641 = .ok (.ifCond .eq 5, 3) := by decide +kernel
theorem dL_law_644 : decode cL_law 644 = .ok (.iconst 0, 1) := by decide +kernel
theorem dL_law_645 : decode cL_law 645 = .ok (.ireturn, 1) := by decide +kernel
theorem dL_law_646 : decode cL_law 646 = .ok (.goto 566, 3) := by decide +kernel
theorem dL_law_649 : decode cL_law 649 = .ok (.aload_n 1, 1) := by decide +kernel
theorem dL_law_650 : decode cL_law 650 = .ok (.aload_n 0, 1) := by decide +kernel
theorem dL_law_651 : decode cL_law 651 = .ok (.iload 4, 2) := by decide +kernel
theorem dL_law_653 : decode cL_law 653 = .ok (.iconst 1, 1) := by decide +kernel
theorem dL_law_654 : decode cL_law 654 = .ok (.iadd, 1) := by decide +kernel
theorem dL_law_655 : decode cL_law 655 = .ok (.iaload, 1) := by decide +kernel
theorem dL_law_656 : decode cL_law 656 = .ok (.aload_n 3, 1) := by decide +kernel
theorem dL_law_657 : decode cL_law 657 = .ok (.invokestatic 117, 3) := by decide +kernel
theorem dL_law_660 : decode cL_law 660 = .ok (.istore 5, 2) := by decide +kernel
theorem dL_law_662 : decode cL_law 662 = .ok (.aload_n 2, 1) := by decide +kernel
theorem dL_law_663 : decode cL_law 663 = .ok (.aload_n 0, 1) := by decide +kernel
theorem dL_law_664 : decode cL_law 664 = .ok (.iload 4, 2) := by decide +kernel
theorem dL_law_666 : decode cL_law 666 = .ok (.iconst 1, 1) := by decide +kernel
theorem dL_law_667 : decode cL_law 667 = .ok (.iadd, 1) := by decide +kernel
theorem dL_law_668 : decode cL_law 668 = .ok (.iaload, 1) := by decide +kernel
theorem dL_law_669 : decode cL_law 669 = .ok (.invokevirtual 119, 3) := by decide +kernel
theorem dL_law_672 : decode cL_law 672 = .ok (.istore 6, 2) := by decide +kernel
theorem dL_law_674 : decode cL_law 674 = .ok (.aload_n 2, 1) := by decide +kernel
theorem dL_law_675 : decode cL_law 675 = .ok (.invokevirtual 83, 3) := by decide +kernel
theorem dL_law_678 : decode cL_law 678 = .ok (.iload 5, 2) := by decide +kernel
theorem dL_law_680 : decode cL_law 680 = .ok (.if_icmp .eq 5, 3) := by decide +kernel
theorem dL_law_683 : decode cL_law 683 = .ok (.iconst 0, 1) := by decide +kernel
theorem dL_law_684 : decode cL_law 684 = .ok (.ireturn, 1) := by decide +kernel
theorem dL_law_685 : decode cL_law 685 = .ok (.iload 5, 2) := by decide +kernel
theorem dL_law_687 : decode cL_law 687 = .ok (.ifCond .ne 15, 3) := by decide +kernel
theorem dL_law_690 : decode cL_law 690 = .ok (.aload_n 3, 1) := by decide +kernel
theorem dL_law_691 : decode cL_law 691 = .ok (.iconst 0, 1) := by decide +kernel
theorem dL_law_692 : decode cL_law 692 = .ok (.laload, 1) := by decide +kernel
theorem dL_law_693 : decode cL_law 693 = .ok (.iload 6, 2) := by decide +kernel
theorem dL_law_695 : decode cL_law 695 = .ok (.i2l, 1) := by decide +kernel
theorem dL_law_696 : decode cL_law 696 = .ok (.lcmp, 1) := by decide +kernel
theorem dL_law_697 : decode cL_law 697 = .ok (.ifCond .eq 5, 3) := by decide +kernel
theorem dL_law_700 : decode cL_law 700 = .ok (.iconst 0, 1) := by decide +kernel
theorem dL_law_701 : decode cL_law 701 = .ok (.ireturn, 1) := by decide +kernel
theorem dL_law_702 : decode cL_law 702 = .ok (.goto 510, 3) := by decide +kernel
theorem dL_law_705 : decode cL_law 705 = .ok (.aload_n 1, 1) := by decide +kernel
theorem dL_law_706 : decode cL_law 706 = .ok (.aload_n 0, 1) := by decide +kernel
theorem dL_law_707 : decode cL_law 707 = .ok (.iload 4, 2) := by decide +kernel
theorem dL_law_709 : decode cL_law 709 = .ok (.iconst 1, 1) := by decide +kernel
theorem dL_law_710 : decode cL_law 710 = .ok (.iadd, 1) := by decide +kernel
theorem dL_law_711 : decode cL_law 711 = .ok (.iaload, 1) := by decide +kernel
theorem dL_law_712 : decode cL_law 712 = .ok (.aload_n 3, 1) := by decide +kernel
theorem dL_law_713 : decode cL_law 713 = .ok (.invokestatic 120, 3) := by decide +kernel
theorem dL_law_716 : decode cL_law 716 = .ok (.istore 5, 2) := by decide +kernel
theorem dL_law_718 : decode cL_law 718 = .ok (.aload_n 2, 1) := by decide +kernel
theorem dL_law_719 : decode cL_law 719 = .ok (.aload_n 0, 1) := by decide +kernel
theorem dL_law_720 : decode cL_law 720 = .ok (.iload 4, 2) := by decide +kernel
theorem dL_law_722 : decode cL_law 722 = .ok (.iconst 1, 1) := by decide +kernel
theorem dL_law_723 : decode cL_law 723 = .ok (.iadd, 1) := by decide +kernel
theorem dL_law_724 : decode cL_law 724 = .ok (.iaload, 1) := by decide +kernel
theorem dL_law_725 : decode cL_law 725 = .ok (.invokevirtual 122, 3) := by decide +kernel
theorem dL_law_728 : decode cL_law 728 = .ok (.istore 6, 2) := by decide +kernel
theorem dL_law_730 : decode cL_law 730 = .ok (.aload_n 2, 1) := by decide +kernel
theorem dL_law_731 : decode cL_law 731 = .ok (.invokevirtual 83, 3) := by decide +kernel
theorem dL_law_734 : decode cL_law 734 = .ok (.iload 5, 2) := by decide +kernel
theorem dL_law_736 : decode cL_law 736 = .ok (.if_icmp .eq 5, 3) := by decide +kernel
theorem dL_law_739 : decode cL_law 739 = .ok (.iconst 0, 1) := by decide +kernel
theorem dL_law_740 : decode cL_law 740 = .ok (.ireturn, 1) := by decide +kernel
theorem dL_law_741 : decode cL_law 741 = .ok (.iload 5, 2) := by decide +kernel
theorem dL_law_743 : decode cL_law 743 = .ok (.ifCond .ne 15, 3) := by decide +kernel
theorem dL_law_746 : decode cL_law 746 = .ok (.aload_n 3, 1) := by decide +kernel
theorem dL_law_747 : decode cL_law 747 = .ok (.iconst 0, 1) := by decide +kernel
theorem dL_law_748 : decode cL_law 748 = .ok (.laload, 1) := by decide +kernel
theorem dL_law_749 : decode cL_law 749 = .ok (.iload 6, 2) := by decide +kernel
theorem dL_law_751 : decode cL_law 751 = .ok (.i2l, 1) := by decide +kernel
theorem dL_law_752 : decode cL_law 752 = .ok (.lcmp, 1) := by decide +kernel
theorem dL_law_753 : decode cL_law 753 = .ok (.ifCond .eq 5, 3) := by decide +kernel
theorem dL_law_756 : decode cL_law 756 = .ok (.iconst 0, 1) := by decide +kernel
theorem dL_law_757 : decode cL_law 757 = .ok (.ireturn, 1) := by decide +kernel
theorem dL_law_758 : decode cL_law 758 = .ok (.goto 454, 3) := by decide +kernel
theorem dL_law_761 : decode cL_law 761 = .ok (.aload_n 1, 1) := by decide +kernel
theorem dL_law_762 : decode cL_law 762 = .ok (.aload_n 0, 1) := by decide +kernel
theorem dL_law_763 : decode cL_law 763 = .ok (.iload 4, 2) := by decide +kernel
theorem dL_law_765 : decode cL_law 765 = .ok (.iconst 1, 1) := by decide +kernel
theorem dL_law_766 : decode cL_law 766 = .ok (.iadd, 1) := by decide +kernel
theorem dL_law_767 : decode cL_law 767 = .ok (.iaload, 1) := by decide +kernel
theorem dL_law_768 : decode cL_law 768 = .ok (.aload_n 0, 1) := by decide +kernel
theorem dL_law_769 : decode cL_law 769 = .ok (.iload 4, 2) := by decide +kernel
theorem dL_law_771 : decode cL_law 771 = .ok (.iconst 2, 1) := by decide +kernel
theorem dL_law_772 : decode cL_law 772 = .ok (.iadd, 1) := by decide +kernel
theorem dL_law_773 : decode cL_law 773 = .ok (.iaload, 1) := by decide +kernel
theorem dL_law_774 : decode cL_law 774 = .ok (.aload_n 3, 1) := by decide +kernel
theorem dL_law_775 : decode cL_law 775 = .ok (.invokestatic 123, 3) := by decide +kernel
theorem dL_law_778 : decode cL_law 778 = .ok (.istore 5, 2) := by decide +kernel
theorem dL_law_780 : decode cL_law 780 = .ok (.aload_n 2, 1) := by decide +kernel
theorem dL_law_781 : decode cL_law 781 = .ok (.aload_n 0, 1) := by decide +kernel
theorem dL_law_782 : decode cL_law 782 = .ok (.iload 4, 2) := by decide +kernel
theorem dL_law_784 : decode cL_law 784 = .ok (.iconst 1, 1) := by decide +kernel
theorem dL_law_785 : decode cL_law 785 = .ok (.iadd, 1) := by decide +kernel
theorem dL_law_786 : decode cL_law 786 = .ok (.iaload, 1) := by decide +kernel
theorem dL_law_787 : decode cL_law 787 = .ok (.aload_n 0, 1) := by decide +kernel
theorem dL_law_788 : decode cL_law 788 = .ok (.iload 4, 2) := by decide +kernel
theorem dL_law_790 : decode cL_law 790 = .ok (.iconst 2, 1) := by decide +kernel
theorem dL_law_791 : decode cL_law 791 = .ok (.iadd, 1) := by decide +kernel
theorem dL_law_792 : decode cL_law 792 = .ok (.iaload, 1) := by decide +kernel
theorem dL_law_793 : decode cL_law 793 = .ok (.invokevirtual 125, 3) := by decide +kernel
theorem dL_law_796 : decode cL_law 796 = .ok (.istore 6, 2) := by decide +kernel
theorem dL_law_798 : decode cL_law 798 = .ok (.aload_n 2, 1) := by decide +kernel
theorem dL_law_799 : decode cL_law 799 = .ok (.invokevirtual 83, 3) := by decide +kernel
theorem dL_law_802 : decode cL_law 802 = .ok (.iload 5, 2) := by decide +kernel
theorem dL_law_804 : decode cL_law 804 = .ok (.if_icmp .eq 5, 3) := by decide +kernel
theorem dL_law_807 : decode cL_law 807 = .ok (.iconst 0, 1) := by decide +kernel
theorem dL_law_808 : decode cL_law 808 = .ok (.ireturn, 1) := by decide +kernel
theorem dL_law_809 : decode cL_law 809 = .ok (.iload 5, 2) := by decide +kernel
theorem dL_law_811 : decode cL_law 811 = .ok (.ifCond .ne 15, 3) := by decide +kernel
theorem dL_law_814 : decode cL_law 814 = .ok (.aload_n 3, 1) := by decide +kernel
theorem dL_law_815 : decode cL_law 815 = .ok (.iconst 0, 1) := by decide +kernel
theorem dL_law_816 : decode cL_law 816 = .ok (.laload, 1) := by decide +kernel
theorem dL_law_817 : decode cL_law 817 = .ok (.iload 6, 2) := by decide +kernel
theorem dL_law_819 : decode cL_law 819 = .ok (.i2l, 1) := by decide +kernel
theorem dL_law_820 : decode cL_law 820 = .ok (.lcmp, 1) := by decide +kernel
theorem dL_law_821 : decode cL_law 821 = .ok (.ifCond .eq 5, 3) := by decide +kernel
theorem dL_law_824 : decode cL_law 824 = .ok (.iconst 0, 1) := by decide +kernel
theorem dL_law_825 : decode cL_law 825 = .ok (.ireturn, 1) := by decide +kernel
theorem dL_law_826 : decode cL_law 826 = .ok (.goto 386, 3) := by decide +kernel
theorem dL_law_829 : decode cL_law 829 = .ok (.aload_n 1, 1) := by decide +kernel
theorem dL_law_830 : decode cL_law 830 = .ok (.aload_n 0, 1) := by decide +kernel
theorem dL_law_831 : decode cL_law 831 = .ok (.iload 4, 2) := by decide +kernel
theorem dL_law_833 : decode cL_law 833 = .ok (.iconst 1, 1) := by decide +kernel
theorem dL_law_834 : decode cL_law 834 = .ok (.iadd, 1) := by decide +kernel
theorem dL_law_835 : decode cL_law 835 = .ok (.iaload, 1) := by decide +kernel
theorem dL_law_836 : decode cL_law 836 = .ok (.aload_n 3, 1) := by decide +kernel
theorem dL_law_837 : decode cL_law 837 = .ok (.invokestatic 126, 3) := by decide +kernel
theorem dL_law_840 : decode cL_law 840 = .ok (.istore 5, 2) := by decide +kernel
theorem dL_law_842 : decode cL_law 842 = .ok (.aload_n 2, 1) := by decide +kernel
theorem dL_law_843 : decode cL_law 843 = .ok (.aload_n 0, 1) := by decide +kernel
theorem dL_law_844 : decode cL_law 844 = .ok (.iload 4, 2) := by decide +kernel
theorem dL_law_846 : decode cL_law 846 = .ok (.iconst 1, 1) := by decide +kernel
theorem dL_law_847 : decode cL_law 847 = .ok (.iadd, 1) := by decide +kernel
theorem dL_law_848 : decode cL_law 848 = .ok (.iaload, 1) := by decide +kernel
theorem dL_law_849 : decode cL_law 849 = .ok (.invokevirtual 128, 3) := by decide +kernel
theorem dL_law_852 : decode cL_law 852 = .ok (.lstore 6, 2) := by decide +kernel
theorem dL_law_854 : decode cL_law 854 = .ok (.aload_n 2, 1) := by decide +kernel
theorem dL_law_855 : decode cL_law 855 = .ok (.invokevirtual 83, 3) := by decide +kernel
theorem dL_law_858 : decode cL_law 858 = .ok (.iload 5, 2) := by decide +kernel
theorem dL_law_860 : decode cL_law 860 = .ok (.if_icmp .eq 5, 3) := by decide +kernel
theorem dL_law_863 : decode cL_law 863 = .ok (.iconst 0, 1) := by decide +kernel
theorem dL_law_864 : decode cL_law 864 = .ok (.ireturn, 1) := by decide +kernel
theorem dL_law_865 : decode cL_law 865 = .ok (.iload 5, 2) := by decide +kernel
theorem dL_law_867 : decode cL_law 867 = .ok (.ifCond .ne 14, 3) := by decide +kernel
theorem dL_law_870 : decode cL_law 870 = .ok (.aload_n 3, 1) := by decide +kernel
theorem dL_law_871 : decode cL_law 871 = .ok (.iconst 0, 1) := by decide +kernel
theorem dL_law_872 : decode cL_law 872 = .ok (.laload, 1) := by decide +kernel
theorem dL_law_873 : decode cL_law 873 = .ok (.lload 6, 2) := by decide +kernel
theorem dL_law_875 : decode cL_law 875 = .ok (.lcmp, 1) := by decide +kernel
theorem dL_law_876 : decode cL_law 876 = .ok (.ifCond .eq 5, 3) := by decide +kernel
theorem dL_law_879 : decode cL_law 879 = .ok (.iconst 0, 1) := by decide +kernel
theorem dL_law_880 : decode cL_law 880 = .ok (.ireturn, 1) := by decide +kernel
theorem dL_law_881 : decode cL_law 881 = .ok (.goto 331, 3) := by decide +kernel
theorem dL_law_884 : decode cL_law 884 = .ok (.aload_n 1, 1) := by decide +kernel
theorem dL_law_885 : decode cL_law 885 = .ok (.aload_n 0, 1) := by decide +kernel
theorem dL_law_886 : decode cL_law 886 = .ok (.iload 4, 2) := by decide +kernel
theorem dL_law_888 : decode cL_law 888 = .ok (.iconst 1, 1) := by decide +kernel
theorem dL_law_889 : decode cL_law 889 = .ok (.iadd, 1) := by decide +kernel
theorem dL_law_890 : decode cL_law 890 = .ok (.iaload, 1) := by decide +kernel
theorem dL_law_891 : decode cL_law 891 = .ok (.invokevirtual 129, 3) := by decide +kernel
theorem dL_law_894 : decode cL_law 894 = .ok (.aload_n 2, 1) := by decide +kernel
theorem dL_law_895 : decode cL_law 895 = .ok (.aload_n 0, 1) := by decide +kernel
theorem dL_law_896 : decode cL_law 896 = .ok (.iload 4, 2) := by decide +kernel
theorem dL_law_898 : decode cL_law 898 = .ok (.iconst 1, 1) := by decide +kernel
theorem dL_law_899 : decode cL_law 899 = .ok (.iadd, 1) := by decide +kernel
theorem dL_law_900 : decode cL_law 900 = .ok (.iaload, 1) := by decide +kernel
theorem dL_law_901 : decode cL_law 901 = .ok (.invokevirtual 133, 3) := by decide +kernel
theorem dL_law_904 : decode cL_law 904 = .ok (.if_icmp .eq 308, 3) := by decide +kernel
theorem dL_law_907 : decode cL_law 907 = .ok (.iconst 0, 1) := by decide +kernel
theorem dL_law_908 : decode cL_law 908 = .ok (.ireturn, 1) := by decide +kernel
theorem dL_law_909 : decode cL_law 909 = .ok (.aload_n 1, 1) := by decide +kernel
theorem dL_law_910 : decode cL_law 910 = .ok (.aload_n 0, 1) := by decide +kernel
theorem dL_law_911 : decode cL_law 911 = .ok (.iload 4, 2) := by decide +kernel
theorem dL_law_913 : decode cL_law 913 = .ok (.iconst 1, 1) := by decide +kernel
theorem dL_law_914 : decode cL_law 914 = .ok (.iadd, 1) := by decide +kernel
theorem dL_law_915 : decode cL_law 915 = .ok (.iaload, 1) := by decide +kernel
theorem dL_law_916 : decode cL_law 916 = .ok (.aload_n 0, 1) := by decide +kernel
theorem dL_law_917 : decode cL_law 917 = .ok (.iload 4, 2) := by decide +kernel
theorem dL_law_919 : decode cL_law 919 = .ok (.iconst 2, 1) := by decide +kernel
theorem dL_law_920 : decode cL_law 920 = .ok (.iadd, 1) := by decide +kernel
theorem dL_law_921 : decode cL_law 921 = .ok (.iaload, 1) := by decide +kernel
theorem dL_law_922 : decode cL_law 922 = .ok (.aload_n 3, 1) := by decide +kernel
theorem dL_law_923 : decode cL_law 923 = .ok (.invokestatic 134, 3) := by decide +kernel
theorem dL_law_926 : decode cL_law 926 = .ok (.istore 5, 2) := by decide +kernel
theorem dL_law_928 : decode cL_law 928 = .ok (.aload_n 2, 1) := by decide +kernel
theorem dL_law_929 : decode cL_law 929 = .ok (.aload_n 0, 1) := by decide +kernel
theorem dL_law_930 : decode cL_law 930 = .ok (.iload 4, 2) := by decide +kernel
theorem dL_law_932 : decode cL_law 932 = .ok (.iconst 1, 1) := by decide +kernel
theorem dL_law_933 : decode cL_law 933 = .ok (.iadd, 1) := by decide +kernel
theorem dL_law_934 : decode cL_law 934 = .ok (.iaload, 1) := by decide +kernel
theorem dL_law_935 : decode cL_law 935 = .ok (.aload_n 0, 1) := by decide +kernel
theorem dL_law_936 : decode cL_law 936 = .ok (.iload 4, 2) := by decide +kernel
theorem dL_law_938 : decode cL_law 938 = .ok (.iconst 2, 1) := by decide +kernel
theorem dL_law_939 : decode cL_law 939 = .ok (.iadd, 1) := by decide +kernel
theorem dL_law_940 : decode cL_law 940 = .ok (.iaload, 1) := by decide +kernel
theorem dL_law_941 : decode cL_law 941 = .ok (.invokevirtual 136, 3) := by decide +kernel
theorem dL_law_944 : decode cL_law 944 = .ok (.istore 6, 2) := by decide +kernel
theorem dL_law_946 : decode cL_law 946 = .ok (.aload_n 2, 1) := by decide +kernel
theorem dL_law_947 : decode cL_law 947 = .ok (.invokevirtual 83, 3) := by decide +kernel
theorem dL_law_950 : decode cL_law 950 = .ok (.iload 5, 2) := by decide +kernel
theorem dL_law_952 : decode cL_law 952 = .ok (.if_icmp .eq 5, 3) := by decide +kernel
theorem dL_law_955 : decode cL_law 955 = .ok (.iconst 0, 1) := by decide +kernel
theorem dL_law_956 : decode cL_law 956 = .ok (.ireturn, 1) := by decide +kernel
theorem dL_law_957 : decode cL_law 957 = .ok (.iload 5, 2) := by decide +kernel
theorem dL_law_959 : decode cL_law 959 = .ok (.ifCond .ne 15, 3) := by decide +kernel
theorem dL_law_962 : decode cL_law 962 = .ok (.aload_n 3, 1) := by decide +kernel
theorem dL_law_963 : decode cL_law 963 = .ok (.iconst 0, 1) := by decide +kernel
theorem dL_law_964 : decode cL_law 964 = .ok (.laload, 1) := by decide +kernel
theorem dL_law_965 : decode cL_law 965 = .ok (.iload 6, 2) := by decide +kernel
theorem dL_law_967 : decode cL_law 967 = .ok (.i2l, 1) := by decide +kernel
theorem dL_law_968 : decode cL_law 968 = .ok (.lcmp, 1) := by decide +kernel
theorem dL_law_969 : decode cL_law 969 = .ok (.ifCond .eq 5, 3) := by decide +kernel
theorem dL_law_972 : decode cL_law 972 = .ok (.iconst 0, 1) := by decide +kernel
theorem dL_law_973 : decode cL_law 973 = .ok (.ireturn, 1) := by decide +kernel
theorem dL_law_974 : decode cL_law 974 = .ok (.goto 238, 3) := by decide +kernel
theorem dL_law_977 : decode cL_law 977 = .ok (.aload_n 1, 1) := by decide +kernel
theorem dL_law_978 : decode cL_law 978 = .ok (.aload_n 0, 1) := by decide +kernel
theorem dL_law_979 : decode cL_law 979 = .ok (.iload 4, 2) := by decide +kernel
theorem dL_law_981 : decode cL_law 981 = .ok (.iconst 1, 1) := by decide +kernel
theorem dL_law_982 : decode cL_law 982 = .ok (.iadd, 1) := by decide +kernel
theorem dL_law_983 : decode cL_law 983 = .ok (.iaload, 1) := by decide +kernel
theorem dL_law_984 : decode cL_law 984 = .ok (.aload_n 3, 1) := by decide +kernel
theorem dL_law_985 : decode cL_law 985 = .ok (.invokestatic 137, 3) := by decide +kernel
theorem dL_law_988 : decode cL_law 988 = .ok (.istore 5, 2) := by decide +kernel
theorem dL_law_990 : decode cL_law 990 = .ok (.aload_n 2, 1) := by decide +kernel
theorem dL_law_991 : decode cL_law 991 = .ok (.aload_n 0, 1) := by decide +kernel
theorem dL_law_992 : decode cL_law 992 = .ok (.iload 4, 2) := by decide +kernel
theorem dL_law_994 : decode cL_law 994 = .ok (.iconst 1, 1) := by decide +kernel
theorem dL_law_995 : decode cL_law 995 = .ok (.iadd, 1) := by decide +kernel
theorem dL_law_996 : decode cL_law 996 = .ok (.iaload, 1) := by decide +kernel
theorem dL_law_997 : decode cL_law 997 = .ok (.invokevirtual 139, 3) := by decide +kernel
theorem dL_law_1000 : decode cL_law 1000 = .ok (.lstore 6, 2) := by decide +kernel
theorem dL_law_1002 : decode cL_law 1002 = .ok (.aload_n 2, 1) := by decide +kernel
theorem dL_law_1003 : decode cL_law 1003 = .ok (.invokevirtual 83, 3) := by decide +kernel
theorem dL_law_1006 : decode cL_law 1006 = .ok (.iload 5, 2) := by decide +kernel
theorem dL_law_1008 : decode cL_law 1008 = .ok (.if_icmp .eq 5, 3) := by decide +kernel
theorem dL_law_1011 : decode cL_law 1011 = .ok (.iconst 0, 1) := by decide +kernel
theorem dL_law_1012 : decode cL_law 1012 = .ok (.ireturn, 1) := by decide +kernel
theorem dL_law_1013 : decode cL_law 1013 = .ok (.iload 5, 2) := by decide +kernel
theorem dL_law_1015 : decode cL_law 1015 = .ok (.ifCond .ne 14, 3) := by decide +kernel
theorem dL_law_1018 : decode cL_law 1018 = .ok (.aload_n 3, 1) := by decide +kernel
theorem dL_law_1019 : decode cL_law 1019 = .ok (.iconst 0, 1) := by decide +kernel
theorem dL_law_1020 : decode cL_law 1020 = .ok (.laload, 1) := by decide +kernel
theorem dL_law_1021 : decode cL_law 1021 = .ok (.lload 6, 2) := by decide +kernel
theorem dL_law_1023 : decode cL_law 1023 = .ok (.lcmp, 1) := by decide +kernel
theorem dL_law_1024 : decode cL_law 1024 = .ok (.ifCond .eq 5, 3) := by decide +kernel
theorem dL_law_1027 : decode cL_law 1027 = .ok (.iconst 0, 1) := by decide +kernel
theorem dL_law_1028 : decode cL_law 1028 = .ok (.ireturn, 1) := by decide +kernel
theorem dL_law_1029 : decode cL_law 1029 = .ok (.goto 183, 3) := by decide +kernel
theorem dL_law_1032 : decode cL_law 1032 = .ok (.aload_n 1, 1) := by decide +kernel
theorem dL_law_1033 : decode cL_law 1033 = .ok (.aload_n 0, 1) := by decide +kernel
theorem dL_law_1034 : decode cL_law 1034 = .ok (.iload 4, 2) := by decide +kernel
theorem dL_law_1036 : decode cL_law 1036 = .ok (.iconst 1, 1) := by decide +kernel
theorem dL_law_1037 : decode cL_law 1037 = .ok (.iadd, 1) := by decide +kernel
theorem dL_law_1038 : decode cL_law 1038 = .ok (.iaload, 1) := by decide +kernel
theorem dL_law_1039 : decode cL_law 1039 = .ok (.aload_n 3, 1) := by decide +kernel
theorem dL_law_1040 : decode cL_law 1040 = .ok (.invokestatic 140, 3) := by decide +kernel
theorem dL_law_1043 : decode cL_law 1043 = .ok (.istore 5, 2) := by decide +kernel
theorem dL_law_1045 : decode cL_law 1045 = .ok (.aload_n 2, 1) := by decide +kernel
theorem dL_law_1046 : decode cL_law 1046 = .ok (.aload_n 0, 1) := by decide +kernel
theorem dL_law_1047 : decode cL_law 1047 = .ok (.iload 4, 2) := by decide +kernel
theorem dL_law_1049 : decode cL_law 1049 = .ok (.iconst 1, 1) := by decide +kernel
theorem dL_law_1050 : decode cL_law 1050 = .ok (.iadd, 1) := by decide +kernel
theorem dL_law_1051 : decode cL_law 1051 = .ok (.iaload, 1) := by decide +kernel
theorem dL_law_1052 : decode cL_law 1052 = .ok (.invokevirtual 142, 3) := by decide +kernel
theorem dL_law_1055 : decode cL_law 1055 = .ok (.istore 6, 2) := by decide +kernel
theorem dL_law_1057 : decode cL_law 1057 = .ok (.aload_n 2, 1) := by decide +kernel
theorem dL_law_1058 : decode cL_law 1058 = .ok (.invokevirtual 83, 3) := by decide +kernel
theorem dL_law_1061 : decode cL_law 1061 = .ok (.iload 5, 2) := by decide +kernel
theorem dL_law_1063 : decode cL_law 1063 = .ok (.if_icmp .eq 5, 3) := by decide +kernel
theorem dL_law_1066 : decode cL_law 1066 = .ok (.iconst 0, 1) := by decide +kernel
theorem dL_law_1067 : decode cL_law 1067 = .ok (.ireturn, 1) := by decide +kernel
theorem dL_law_1068 : decode cL_law 1068 = .ok (.iload 5, 2) := by decide +kernel
theorem dL_law_1070 : decode cL_law 1070 = .ok (.ifCond .ne 15, 3) := by decide +kernel
theorem dL_law_1073 : decode cL_law 1073 = .ok (.aload_n 3, 1) := by decide +kernel
theorem dL_law_1074 : decode cL_law 1074 = .ok (.iconst 0, 1) := by decide +kernel
theorem dL_law_1075 : decode cL_law 1075 = .ok (.laload, 1) := by decide +kernel
theorem dL_law_1076 : decode cL_law 1076 = .ok (.iload 6, 2) := by decide +kernel
theorem dL_law_1078 : decode cL_law 1078 = .ok (.i2l, 1) := by decide +kernel
theorem dL_law_1079 : decode cL_law 1079 = .ok (.lcmp, 1) := by decide +kernel
theorem dL_law_1080 : decode cL_law 1080 = .ok (.ifCond .eq 5, 3) := by decide +kernel
theorem dL_law_1083 : decode cL_law 1083 = .ok (.iconst 0, 1) := by decide +kernel
theorem dL_law_1084 : decode cL_law 1084 = .ok (.ireturn, 1) := by decide +kernel
theorem dL_law_1085 : decode cL_law 1085 = .ok (.goto 127, 3) := by decide +kernel
theorem dL_law_1088 : decode cL_law 1088 = .ok (.aload_n 1, 1) := by decide +kernel
theorem dL_law_1089 : decode cL_law 1089 = .ok (.aload_n 0, 1) := by decide +kernel
theorem dL_law_1090 : decode cL_law 1090 = .ok (.iload 4, 2) := by decide +kernel
theorem dL_law_1092 : decode cL_law 1092 = .ok (.iconst 1, 1) := by decide +kernel
theorem dL_law_1093 : decode cL_law 1093 = .ok (.iadd, 1) := by decide +kernel
theorem dL_law_1094 : decode cL_law 1094 = .ok (.iaload, 1) := by decide +kernel
theorem dL_law_1095 : decode cL_law 1095 = .ok (.aload_n 0, 1) := by decide +kernel
theorem dL_law_1096 : decode cL_law 1096 = .ok (.iload 4, 2) := by decide +kernel
theorem dL_law_1098 : decode cL_law 1098 = .ok (.iconst 2, 1) := by decide +kernel
theorem dL_law_1099 : decode cL_law 1099 = .ok (.iadd, 1) := by decide +kernel
theorem dL_law_1100 : decode cL_law 1100 = .ok (.iaload, 1) := by decide +kernel
theorem dL_law_1101 : decode cL_law 1101 = .ok (.aload_n 3, 1) := by decide +kernel
theorem dL_law_1102 : decode cL_law 1102 = .ok (.invokestatic 143, 3) := by decide +kernel
theorem dL_law_1105 : decode cL_law 1105 = .ok (.istore 5, 2) := by decide +kernel
theorem dL_law_1107 : decode cL_law 1107 = .ok (.aload_n 2, 1) := by decide +kernel
theorem dL_law_1108 : decode cL_law 1108 = .ok (.aload_n 0, 1) := by decide +kernel
theorem dL_law_1109 : decode cL_law 1109 = .ok (.iload 4, 2) := by decide +kernel
theorem dL_law_1111 : decode cL_law 1111 = .ok (.iconst 1, 1) := by decide +kernel
theorem dL_law_1112 : decode cL_law 1112 = .ok (.iadd, 1) := by decide +kernel
theorem dL_law_1113 : decode cL_law 1113 = .ok (.iaload, 1) := by decide +kernel
theorem dL_law_1114 : decode cL_law 1114 = .ok (.aload_n 0, 1) := by decide +kernel
theorem dL_law_1115 : decode cL_law 1115 = .ok (.iload 4, 2) := by decide +kernel
theorem dL_law_1117 : decode cL_law 1117 = .ok (.iconst 2, 1) := by decide +kernel
theorem dL_law_1118 : decode cL_law 1118 = .ok (.iadd, 1) := by decide +kernel
theorem dL_law_1119 : decode cL_law 1119 = .ok (.iaload, 1) := by decide +kernel
theorem dL_law_1120 : decode cL_law 1120 = .ok (.invokevirtual 145, 3) := by decide +kernel
theorem dL_law_1123 : decode cL_law 1123 = .ok (.istore 6, 2) := by decide +kernel
theorem dL_law_1125 : decode cL_law 1125 = .ok (.aload_n 2, 1) := by decide +kernel
theorem dL_law_1126 : decode cL_law 1126 = .ok (.invokevirtual 83, 3) := by decide +kernel
theorem dL_law_1129 : decode cL_law 1129 = .ok (.iload 5, 2) := by decide +kernel
theorem dL_law_1131 : decode cL_law 1131 = .ok (.if_icmp .eq 5, 3) := by decide +kernel
theorem dL_law_1134 : decode cL_law 1134 = .ok (.iconst 0, 1) := by decide +kernel
theorem dL_law_1135 : decode cL_law 1135 = .ok (.ireturn, 1) := by decide +kernel
theorem dL_law_1136 : decode cL_law 1136 = .ok (.iload 5, 2) := by decide +kernel
theorem dL_law_1138 : decode cL_law 1138 = .ok (.ifCond .ne 15, 3) := by decide +kernel
theorem dL_law_1141 : decode cL_law 1141 = .ok (.aload_n 3, 1) := by decide +kernel
theorem dL_law_1142 : decode cL_law 1142 = .ok (.iconst 0, 1) := by decide +kernel
theorem dL_law_1143 : decode cL_law 1143 = .ok (.laload, 1) := by decide +kernel
theorem dL_law_1144 : decode cL_law 1144 = .ok (.iload 6, 2) := by decide +kernel
theorem dL_law_1146 : decode cL_law 1146 = .ok (.i2l, 1) := by decide +kernel
theorem dL_law_1147 : decode cL_law 1147 = .ok (.lcmp, 1) := by decide +kernel
theorem dL_law_1148 : decode cL_law 1148 = .ok (.ifCond .eq 5, 3) := by decide +kernel
theorem dL_law_1151 : decode cL_law 1151 = .ok (.iconst 0, 1) := by decide +kernel
theorem dL_law_1152 : decode cL_law 1152 = .ok (.ireturn, 1) := by decide +kernel
theorem dL_law_1153 : decode cL_law 1153 = .ok (.goto 59, 3) := by decide +kernel
theorem dL_law_1156 : decode cL_law 1156 = .ok (.aload_n 1, 1) := by decide +kernel
theorem dL_law_1157 : decode cL_law 1157 = .ok (.aload_n 0, 1) := by decide +kernel
theorem dL_law_1158 : decode cL_law 1158 = .ok (.iload 4, 2) := by decide +kernel
theorem dL_law_1160 : decode cL_law 1160 = .ok (.iconst 1, 1) := by decide +kernel
theorem dL_law_1161 : decode cL_law 1161 = .ok (.iadd, 1) := by decide +kernel
theorem dL_law_1162 : decode cL_law 1162 = .ok (.iaload, 1) := by decide +kernel
theorem dL_law_1163 : decode cL_law 1163 = .ok (.aload_n 3, 1) := by decide +kernel
theorem dL_law_1164 : decode cL_law 1164 = .ok (.invokestatic 146, 3) := by decide +kernel
theorem dL_law_1167 : decode cL_law 1167 = .ok (.istore 5, 2) := by decide +kernel
theorem dL_law_1169 : decode cL_law 1169 = .ok (.aload_n 2, 1) := by decide +kernel
theorem dL_law_1170 : decode cL_law 1170 = .ok (.aload_n 0, 1) := by decide +kernel
theorem dL_law_1171 : decode cL_law 1171 = .ok (.iload 4, 2) := by decide +kernel
theorem dL_law_1173 : decode cL_law 1173 = .ok (.iconst 1, 1) := by decide +kernel
theorem dL_law_1174 : decode cL_law 1174 = .ok (.iadd, 1) := by decide +kernel
theorem dL_law_1175 : decode cL_law 1175 = .ok (.iaload, 1) := by decide +kernel
theorem dL_law_1176 : decode cL_law 1176 = .ok (.invokevirtual 148, 3) := by decide +kernel
theorem dL_law_1179 : decode cL_law 1179 = .ok (.istore 6, 2) := by decide +kernel
theorem dL_law_1181 : decode cL_law 1181 = .ok (.aload_n 2, 1) := by decide +kernel
theorem dL_law_1182 : decode cL_law 1182 = .ok (.invokevirtual 83, 3) := by decide +kernel
theorem dL_law_1185 : decode cL_law 1185 = .ok (.iload 5, 2) := by decide +kernel
theorem dL_law_1187 : decode cL_law 1187 = .ok (.if_icmp .eq 5, 3) := by decide +kernel
theorem dL_law_1190 : decode cL_law 1190 = .ok (.iconst 0, 1) := by decide +kernel
theorem dL_law_1191 : decode cL_law 1191 = .ok (.ireturn, 1) := by decide +kernel
theorem dL_law_1192 : decode cL_law 1192 = .ok (.iload 5, 2) := by decide +kernel
theorem dL_law_1194 : decode cL_law 1194 = .ok (.ifCond .ne 15, 3) := by decide +kernel
theorem dL_law_1197 : decode cL_law 1197 = .ok (.aload_n 3, 1) := by decide +kernel
theorem dL_law_1198 : decode cL_law 1198 = .ok (.iconst 0, 1) := by decide +kernel
theorem dL_law_1199 : decode cL_law 1199 = .ok (.laload, 1) := by decide +kernel
theorem dL_law_1200 : decode cL_law 1200 = .ok (.iload 6, 2) := by decide +kernel
theorem dL_law_1202 : decode cL_law 1202 = .ok (.i2l, 1) := by decide +kernel
theorem dL_law_1203 : decode cL_law 1203 = .ok (.lcmp, 1) := by decide +kernel
theorem dL_law_1204 : decode cL_law 1204 = .ok (.ifCond .eq 5, 3) := by decide +kernel
theorem dL_law_1207 : decode cL_law 1207 = .ok (.iconst 0, 1) := by decide +kernel
theorem dL_law_1208 : decode cL_law 1208 = .ok (.ireturn, 1) := by decide +kernel
theorem dL_law_1209 : decode cL_law 1209 = .ok (.goto 3, 3) := by decide +kernel
theorem dL_law_1212 : decode cL_law 1212 = .ok (.iinc 4 8, 3) := by decide +kernel
theorem dL_law_1215 : decode cL_law 1215 = .ok (.goto (-1162), 3) := by decide +kernel
theorem dL_law_1218 : decode cL_law 1218 = .ok (.iconst 1, 1) := by decide +kernel
theorem dL_law_1219 : decode cL_law 1219 = .ok (.ireturn, 1) := by decide +kernel
end
section
/-! the words of the tables, each by its place -/
theorem i_0 : (Jvm.Cond.initialized "NeighbourDeskLaw") ∈ lw_tbl := List.mem_append_right _ (List.mem_of_getElem? (i := 0) (by decide +kernel))
theorem i_1 : (Jvm.Cond.initialized "NeighbourDesk") ∈ lw_tbl := List.mem_append_right _ (List.mem_of_getElem? (i := 1) (by decide +kernel))
theorem i_2 : (Jvm.Cond.initialized "NeighbourDesk$Tape") ∈ lw_tbl := List.mem_append_right _ (List.mem_of_getElem? (i := 2) (by decide +kernel))
theorem i_3 : (Jvm.Cond.initialized "NeighbourDesk$Frames") ∈ lw_tbl := List.mem_append_right _ (List.mem_of_getElem? (i := 3) (by decide +kernel))
theorem i_4 : (Jvm.Cond.initialized "NeighbourDesk$Ring") ∈ lw_tbl := List.mem_append_right _ (List.mem_of_getElem? (i := 4) (by decide +kernel))
theorem i_5 : (Jvm.Cond.initialized "NeighbourDesk$Losses") ∈ lw_tbl := List.mem_append_right _ (List.mem_of_getElem? (i := 5) (by decide +kernel))
theorem i_6 : (Jvm.Cond.initialized "NeighbourDesk$Cache") ∈ lw_tbl := List.mem_append_right _ (List.mem_of_getElem? (i := 6) (by decide +kernel))
theorem i_7 : (Jvm.Cond.initialized "java/lang/Math") ∈ lw_tbl := List.mem_append_right _ (List.mem_of_getElem? (i := 7) (by decide +kernel))
theorem i_8 : (Jvm.Cond.initialized "NeighbourDesk$Entry") ∈ lw_tbl := List.mem_append_right _ (List.mem_of_getElem? (i := 8) (by decide +kernel))
theorem i_9 : (Jvm.Cond.initialized "NeighbourDeskModel") ∈ lw_tbl := List.mem_append_right _ (List.mem_of_getElem? (i := 9) (by decide +kernel))
theorem i_10 : (Jvm.Cond.initialized "java/lang/Throwable") ∈ lw_tbl := List.mem_append_right _ (List.mem_of_getElem? (i := 10) (by decide +kernel))
theorem i_11 : (Jvm.Cond.initialized "java/lang/Exception") ∈ lw_tbl := List.mem_append_right _ (List.mem_of_getElem? (i := 11) (by decide +kernel))
theorem i_12 : (Jvm.Cond.initialized "java/lang/RuntimeException") ∈ lw_tbl := List.mem_append_right _ (List.mem_of_getElem? (i := 12) (by decide +kernel))
theorem i_13 : (Jvm.Cond.initialized "java/lang/IllegalArgumentException") ∈ lw_tbl := List.mem_append_right _ (List.mem_of_getElem? (i := 13) (by decide +kernel))
theorem i_14 : (Jvm.Cond.initialized "java/lang/IllegalStateException") ∈ lw_tbl := List.mem_append_right _ (List.mem_of_getElem? (i := 14) (by decide +kernel))
theorem i_15 : (Jvm.Cond.initialized "NeighbourDesk$Wire") ∈ lw_tbl := List.mem_append_right _ (List.mem_of_getElem? (i := 15) (by decide +kernel))
theorem i_16 : (Jvm.Cond.initialized "java/lang/IndexOutOfBoundsException") ∈ lw_tbl := List.mem_append_right _ (List.mem_of_getElem? (i := 16) (by decide +kernel))
theorem i_17 : (Jvm.Cond.initialized "java/util/NoSuchElementException") ∈ lw_tbl := List.mem_append_right _ (List.mem_of_getElem? (i := 17) (by decide +kernel))
theorem i_18 : (Jvm.Cond.classLink "NeighbourDeskLaw" (8 : Nat) "NeighbourDesk") ∈ lw_tbl := List.mem_append_right _ (List.mem_of_getElem? (i := 18) (by decide +kernel))
theorem i_19 : (Jvm.Cond.instantiable "NeighbourDesk" (12 : Nat)) ∈ lw_tbl := List.mem_append_right _ (List.mem_of_getElem? (i := 19) (by decide +kernel))
theorem i_20 : (Jvm.Cond.methodLink "NeighbourDeskLaw" (71 : Nat) ({ cls := "NeighbourDesk", name := "<init>", desc := "(III)V" } : Jvm.MethodName)) ∈ lw_tbl := List.mem_append_right _ (List.mem_of_getElem? (i := 20) (by decide +kernel))
theorem i_21 : (Jvm.Cond.instanceMethod ({ cls := "NeighbourDesk", name := "<init>", desc := "(III)V" } : Jvm.MethodName)) ∈ lw_tbl := List.mem_append_right _ (List.mem_of_getElem? (i := 21) (by decide +kernel))
theorem i_22 : (Jvm.Cond.code ({ cls := "NeighbourDesk", name := "<init>", desc := "(III)V" } : Jvm.MethodName) prog_1_method_1_code (4 : Nat) (Option.none : Option Jvm.ClassFile.FieldType)) ∈ lw_tbl := List.mem_append_right _ (List.mem_of_getElem? (i := 22) (by decide +kernel))
theorem i_23 : (Jvm.Cond.methodLink "NeighbourDesk" (1 : Nat) ({ cls := "java/lang/Object", name := "<init>", desc := "()V" } : Jvm.MethodName)) ∈ lw_tbl := List.mem_append_right _ (List.mem_of_getElem? (i := 23) (by decide +kernel))
theorem i_24 : (Jvm.Cond.instanceMethod ({ cls := "java/lang/Object", name := "<init>", desc := "()V" } : Jvm.MethodName)) ∈ lw_tbl := List.mem_append_right _ (List.mem_of_getElem? (i := 24) (by decide +kernel))
theorem i_25 : (Jvm.Cond.code ({ cls := "java/lang/Object", name := "<init>", desc := "()V" } : Jvm.MethodName) object_method_1_code (1 : Nat) (Option.none : Option Jvm.ClassFile.FieldType)) ∈ lw_tbl := List.mem_append_right _ (List.mem_of_getElem? (i := 25) (by decide +kernel))
theorem i_26 : (Jvm.Cond.classLink "NeighbourDesk" (7 : Nat) "NeighbourDesk$Tape") ∈ lw_tbl := List.mem_append_right _ (List.mem_of_getElem? (i := 26) (by decide +kernel))
theorem i_27 : (Jvm.Cond.instantiable "NeighbourDesk$Tape" (2 : Nat)) ∈ lw_tbl := List.mem_append_right _ (List.mem_of_getElem? (i := 27) (by decide +kernel))
theorem i_28 : (Jvm.Cond.methodLinkNest "NeighbourDesk" (9 : Nat) ({ cls := "NeighbourDesk$Tape", name := "<init>", desc := "()V" } : Jvm.MethodName) "NeighbourDesk") ∈ lw_tbl := List.mem_append_right _ (List.mem_of_getElem? (i := 28) (by decide +kernel))
theorem i_29 : (Jvm.Cond.instanceMethod ({ cls := "NeighbourDesk$Tape", name := "<init>", desc := "()V" } : Jvm.MethodName)) ∈ lw_tbl := List.mem_append_right _ (List.mem_of_getElem? (i := 29) (by decide +kernel))
theorem i_30 : (Jvm.Cond.code ({ cls := "NeighbourDesk$Tape", name := "<init>", desc := "()V" } : Jvm.MethodName) prog_7_method_1_code (1 : Nat) (Option.none : Option Jvm.ClassFile.FieldType)) ∈ lw_tbl := List.mem_append_right _ (List.mem_of_getElem? (i := 30) (by decide +kernel))
theorem i_31 : (Jvm.Cond.methodLink "NeighbourDesk$Tape" (1 : Nat) ({ cls := "java/lang/Object", name := "<init>", desc := "()V" } : Jvm.MethodName)) ∈ lw_tbl := List.mem_append_right _ (List.mem_of_getElem? (i := 31) (by decide +kernel))
theorem i_32 : (Jvm.Cond.fieldLink "NeighbourDesk$Tape" (9 : Nat) "NeighbourDesk$Tape" "bytes" "[B") ∈ lw_tbl := List.mem_append_right _ (List.mem_of_getElem? (i := 32) (by decide +kernel))
theorem i_33 : (Jvm.Cond.fieldLink "NeighbourDesk" (95 : Nat) "NeighbourDesk$Tape" "bytes" "[B") ∈ lw_tbl := List.mem_append_right _ (List.mem_of_getElem? (i := 33) (by decide +kernel))
theorem i_34 : (Jvm.Cond.fieldLink "NeighbourDesk$Tape" (13 : Nat) "NeighbourDesk$Tape" "length" "I") ∈ lw_tbl := List.mem_append_right _ (List.mem_of_getElem? (i := 34) (by decide +kernel))
theorem i_35 : (Jvm.Cond.fieldLink "NeighbourDesk" (92 : Nat) "NeighbourDesk$Tape" "length" "I") ∈ lw_tbl := List.mem_append_right _ (List.mem_of_getElem? (i := 35) (by decide +kernel))
theorem i_40 : (Jvm.Cond.superclass "NeighbourDesk$Tape" "java/lang/Object") ∈ lw_tbl := List.mem_append_right _ (List.mem_of_getElem? (i := 40) (by decide +kernel))
theorem i_41 : (Jvm.Cond.arrayClass Jvm.ClassFile.FieldType.byte) ∈ lw_tbl := List.mem_append_right _ (List.mem_of_getElem? (i := 41) (by decide +kernel))
theorem i_42 : (Jvm.Cond.classLink "NeighbourDesk" (16 : Nat) "NeighbourDesk$Frames") ∈ lw_tbl := List.mem_append_right _ (List.mem_of_getElem? (i := 42) (by decide +kernel))
theorem i_43 : (Jvm.Cond.instantiable "NeighbourDesk$Frames" (5 : Nat)) ∈ lw_tbl := List.mem_append_right _ (List.mem_of_getElem? (i := 43) (by decide +kernel))
theorem i_44 : (Jvm.Cond.methodLinkNest "NeighbourDesk" (18 : Nat) ({ cls := "NeighbourDesk$Frames", name := "<init>", desc := "()V" } : Jvm.MethodName) "NeighbourDesk") ∈ lw_tbl := List.mem_append_right _ (List.mem_of_getElem? (i := 44) (by decide +kernel))
theorem i_45 : (Jvm.Cond.instanceMethod ({ cls := "NeighbourDesk$Frames", name := "<init>", desc := "()V" } : Jvm.MethodName)) ∈ lw_tbl := List.mem_append_right _ (List.mem_of_getElem? (i := 45) (by decide +kernel))
theorem i_46 : (Jvm.Cond.code ({ cls := "NeighbourDesk$Frames", name := "<init>", desc := "()V" } : Jvm.MethodName) prog_4_method_1_code (1 : Nat) (Option.none : Option Jvm.ClassFile.FieldType)) ∈ lw_tbl := List.mem_append_right _ (List.mem_of_getElem? (i := 46) (by decide +kernel))
theorem i_47 : (Jvm.Cond.methodLink "NeighbourDesk$Frames" (3 : Nat) ({ cls := "java/lang/Object", name := "<init>", desc := "()V" } : Jvm.MethodName)) ∈ lw_tbl := List.mem_append_right _ (List.mem_of_getElem? (i := 47) (by decide +kernel))
theorem i_48 : (Jvm.Cond.classLink "NeighbourDesk$Frames" (9 : Nat) "NeighbourDesk$Ring") ∈ lw_tbl := List.mem_append_right _ (List.mem_of_getElem? (i := 48) (by decide +kernel))
theorem i_49 : (Jvm.Cond.instantiable "NeighbourDesk$Ring" (1 : Nat)) ∈ lw_tbl := List.mem_append_right _ (List.mem_of_getElem? (i := 49) (by decide +kernel))
theorem i_50 : (Jvm.Cond.methodLinkNest "NeighbourDesk$Frames" (11 : Nat) ({ cls := "NeighbourDesk$Ring", name := "<init>", desc := "()V" } : Jvm.MethodName) "NeighbourDesk") ∈ lw_tbl := List.mem_append_right _ (List.mem_of_getElem? (i := 50) (by decide +kernel))
theorem i_51 : (Jvm.Cond.instanceMethod ({ cls := "NeighbourDesk$Ring", name := "<init>", desc := "()V" } : Jvm.MethodName)) ∈ lw_tbl := List.mem_append_right _ (List.mem_of_getElem? (i := 51) (by decide +kernel))
theorem i_52 : (Jvm.Cond.code ({ cls := "NeighbourDesk$Ring", name := "<init>", desc := "()V" } : Jvm.MethodName) prog_6_method_1_code (1 : Nat) (Option.none : Option Jvm.ClassFile.FieldType)) ∈ lw_tbl := List.mem_append_right _ (List.mem_of_getElem? (i := 52) (by decide +kernel))
theorem i_53 : (Jvm.Cond.methodLink "NeighbourDesk$Ring" (1 : Nat) ({ cls := "java/lang/Object", name := "<init>", desc := "()V" } : Jvm.MethodName)) ∈ lw_tbl := List.mem_append_right _ (List.mem_of_getElem? (i := 53) (by decide +kernel))
theorem i_54 : (Jvm.Cond.fieldLink "NeighbourDesk$Ring" (7 : Nat) "NeighbourDesk$Ring" "total" "I") ∈ lw_tbl := List.mem_append_right _ (List.mem_of_getElem? (i := 54) (by decide +kernel))
theorem i_55 : (Jvm.Cond.fieldLink "NeighbourDesk" (147 : Nat) "NeighbourDesk$Ring" "total" "I") ∈ lw_tbl := List.mem_append_right _ (List.mem_of_getElem? (i := 55) (by decide +kernel))
theorem i_58 : (Jvm.Cond.superclass "NeighbourDesk$Ring" "java/lang/Object") ∈ lw_tbl := List.mem_append_right _ (List.mem_of_getElem? (i := 58) (by decide +kernel))
theorem i_59 : (Jvm.Cond.fieldLink "NeighbourDesk$Frames" (12 : Nat) "NeighbourDesk$Frames" "ring" "LNeighbourDesk$Ring;") ∈ lw_tbl := List.mem_append_right _ (List.mem_of_getElem? (i := 59) (by decide +kernel))
theorem i_60 : (Jvm.Cond.fieldLink "NeighbourDesk" (143 : Nat) "NeighbourDesk$Frames" "ring" "LNeighbourDesk$Ring;") ∈ lw_tbl := List.mem_append_right _ (List.mem_of_getElem? (i := 60) (by decide +kernel))
theorem i_61 : (Jvm.Cond.fieldLink "NeighbourDesk$Frames" (18 : Nat) "NeighbourDesk$Frames" "goals" "[J") ∈ lw_tbl := List.mem_append_right _ (List.mem_of_getElem? (i := 61) (by decide +kernel))
theorem i_62 : (Jvm.Cond.fieldLink "NeighbourDesk" (193 : Nat) "NeighbourDesk$Frames" "goals" "[J") ∈ lw_tbl := List.mem_append_right _ (List.mem_of_getElem? (i := 62) (by decide +kernel))
theorem i_63 : (Jvm.Cond.fieldLink "NeighbourDesk$Frames" (22 : Nat) "NeighbourDesk$Frames" "numbers" "[I") ∈ lw_tbl := List.mem_append_right _ (List.mem_of_getElem? (i := 63) (by decide +kernel))
theorem i_64 : (Jvm.Cond.fieldLink "NeighbourDesk" (200 : Nat) "NeighbourDesk$Frames" "numbers" "[I") ∈ lw_tbl := List.mem_append_right _ (List.mem_of_getElem? (i := 64) (by decide +kernel))
theorem i_65 : (Jvm.Cond.fieldLink "NeighbourDesk$Frames" (26 : Nat) "NeighbourDesk$Frames" "packets" "[Z") ∈ lw_tbl := List.mem_append_right _ (List.mem_of_getElem? (i := 65) (by decide +kernel))
theorem i_66 : (Jvm.Cond.fieldLink "NeighbourDesk$Frames" (32 : Nat) "NeighbourDesk$Frames" "bytes" "[B") ∈ lw_tbl := List.mem_append_right _ (List.mem_of_getElem? (i := 66) (by decide +kernel))
theorem i_77 : (Jvm.Cond.superclass "NeighbourDesk$Frames" "java/lang/Object") ∈ lw_tbl := List.mem_append_right _ (List.mem_of_getElem? (i := 77) (by decide +kernel))
theorem i_78 : (Jvm.Cond.arrayClass Jvm.ClassFile.FieldType.long) ∈ lw_tbl := List.mem_append_right _ (List.mem_of_getElem? (i := 78) (by decide +kernel))
theorem i_79 : (Jvm.Cond.arrayClass Jvm.ClassFile.FieldType.int) ∈ lw_tbl := List.mem_append_right _ (List.mem_of_getElem? (i := 79) (by decide +kernel))
theorem i_80 : (Jvm.Cond.arrayClass Jvm.ClassFile.FieldType.boolean) ∈ lw_tbl := List.mem_append_right _ (List.mem_of_getElem? (i := 80) (by decide +kernel))
theorem i_81 : (Jvm.Cond.classLink "NeighbourDesk" (23 : Nat) "NeighbourDesk$Losses") ∈ lw_tbl := List.mem_append_right _ (List.mem_of_getElem? (i := 81) (by decide +kernel))
theorem i_82 : (Jvm.Cond.instantiable "NeighbourDesk$Losses" (2 : Nat)) ∈ lw_tbl := List.mem_append_right _ (List.mem_of_getElem? (i := 82) (by decide +kernel))
theorem i_83 : (Jvm.Cond.methodLinkNest "NeighbourDesk" (25 : Nat) ({ cls := "NeighbourDesk$Losses", name := "<init>", desc := "()V" } : Jvm.MethodName) "NeighbourDesk") ∈ lw_tbl := List.mem_append_right _ (List.mem_of_getElem? (i := 83) (by decide +kernel))
theorem i_84 : (Jvm.Cond.instanceMethod ({ cls := "NeighbourDesk$Losses", name := "<init>", desc := "()V" } : Jvm.MethodName)) ∈ lw_tbl := List.mem_append_right _ (List.mem_of_getElem? (i := 84) (by decide +kernel))
theorem i_85 : (Jvm.Cond.code ({ cls := "NeighbourDesk$Losses", name := "<init>", desc := "()V" } : Jvm.MethodName) prog_5_method_1_code (1 : Nat) (Option.none : Option Jvm.ClassFile.FieldType)) ∈ lw_tbl := List.mem_append_right _ (List.mem_of_getElem? (i := 85) (by decide +kernel))
theorem i_86 : (Jvm.Cond.methodLink "NeighbourDesk$Losses" (1 : Nat) ({ cls := "java/lang/Object", name := "<init>", desc := "()V" } : Jvm.MethodName)) ∈ lw_tbl := List.mem_append_right _ (List.mem_of_getElem? (i := 86) (by decide +kernel))
theorem i_87 : (Jvm.Cond.classLink "NeighbourDesk$Losses" (7 : Nat) "NeighbourDesk$Ring") ∈ lw_tbl := List.mem_append_right _ (List.mem_of_getElem? (i := 87) (by decide +kernel))
theorem i_88 : (Jvm.Cond.methodLinkNest "NeighbourDesk$Losses" (9 : Nat) ({ cls := "NeighbourDesk$Ring", name := "<init>", desc := "()V" } : Jvm.MethodName) "NeighbourDesk") ∈ lw_tbl := List.mem_append_right _ (List.mem_of_getElem? (i := 88) (by decide +kernel))
theorem i_89 : (Jvm.Cond.fieldLink "NeighbourDesk$Losses" (10 : Nat) "NeighbourDesk$Losses" "ring" "LNeighbourDesk$Ring;") ∈ lw_tbl := List.mem_append_right _ (List.mem_of_getElem? (i := 89) (by decide +kernel))
theorem i_90 : (Jvm.Cond.fieldLink "NeighbourDesk" (152 : Nat) "NeighbourDesk$Losses" "ring" "LNeighbourDesk$Ring;") ∈ lw_tbl := List.mem_append_right _ (List.mem_of_getElem? (i := 90) (by decide +kernel))
theorem i_91 : (Jvm.Cond.fieldLink "NeighbourDesk$Losses" (16 : Nat) "NeighbourDesk$Losses" "numbers" "[I") ∈ lw_tbl := List.mem_append_right _ (List.mem_of_getElem? (i := 91) (by decide +kernel))
theorem i_92 : (Jvm.Cond.fieldLink "NeighbourDesk" (209 : Nat) "NeighbourDesk$Losses" "numbers" "[I") ∈ lw_tbl := List.mem_append_right _ (List.mem_of_getElem? (i := 92) (by decide +kernel))
theorem i_97 : (Jvm.Cond.superclass "NeighbourDesk$Losses" "java/lang/Object") ∈ lw_tbl := List.mem_append_right _ (List.mem_of_getElem? (i := 97) (by decide +kernel))
theorem i_98 : (Jvm.Cond.constantLong "NeighbourDesk" (30 : Nat) (2 : Int64)) ∈ lw_tbl := List.mem_append_right _ (List.mem_of_getElem? (i := 98) (by decide +kernel))
theorem i_99 : (Jvm.Cond.classLink "NeighbourDesk" (52 : Nat) "NeighbourDesk$Cache") ∈ lw_tbl := List.mem_append_right _ (List.mem_of_getElem? (i := 99) (by decide +kernel))
theorem i_100 : (Jvm.Cond.instantiable "NeighbourDesk$Cache" (2 : Nat)) ∈ lw_tbl := List.mem_append_right _ (List.mem_of_getElem? (i := 100) (by decide +kernel))
theorem i_101 : (Jvm.Cond.methodLink "NeighbourDesk" (54 : Nat) ({ cls := "java/lang/Math", name := "min", desc := "(II)I" } : Jvm.MethodName)) ∈ lw_tbl := List.mem_append_right _ (List.mem_of_getElem? (i := 101) (by decide +kernel))
theorem i_102 : (Jvm.Cond.static ({ cls := "java/lang/Math", name := "min", desc := "(II)I" } : Jvm.MethodName)) ∈ lw_tbl := List.mem_append_right _ (List.mem_of_getElem? (i := 102) (by decide +kernel))
theorem i_103 : (Jvm.Cond.code ({ cls := "java/lang/Math", name := "min", desc := "(II)I" } : Jvm.MethodName) prog_16_method_69_code (2 : Nat) (Option.some Jvm.ClassFile.FieldType.int)) ∈ lw_tbl := List.mem_append_right _ (List.mem_of_getElem? (i := 103) (by decide +kernel))
theorem i_104 : (Jvm.Cond.methodLink "NeighbourDesk" (60 : Nat) ({ cls := "java/lang/Math", name := "max", desc := "(II)I" } : Jvm.MethodName)) ∈ lw_tbl := List.mem_append_right _ (List.mem_of_getElem? (i := 104) (by decide +kernel))
theorem i_105 : (Jvm.Cond.static ({ cls := "java/lang/Math", name := "max", desc := "(II)I" } : Jvm.MethodName)) ∈ lw_tbl := List.mem_append_right _ (List.mem_of_getElem? (i := 105) (by decide +kernel))
theorem i_106 : (Jvm.Cond.code ({ cls := "java/lang/Math", name := "max", desc := "(II)I" } : Jvm.MethodName) prog_16_method_65_code (2 : Nat) (Option.some Jvm.ClassFile.FieldType.int)) ∈ lw_tbl := List.mem_append_right _ (List.mem_of_getElem? (i := 106) (by decide +kernel))
theorem i_107 : (Jvm.Cond.methodLink "NeighbourDesk" (63 : Nat) ({ cls := "NeighbourDesk$Cache", name := "<init>", desc := "(I)V" } : Jvm.MethodName)) ∈ lw_tbl := List.mem_append_right _ (List.mem_of_getElem? (i := 107) (by decide +kernel))
theorem i_108 : (Jvm.Cond.instanceMethod ({ cls := "NeighbourDesk$Cache", name := "<init>", desc := "(I)V" } : Jvm.MethodName)) ∈ lw_tbl := List.mem_append_right _ (List.mem_of_getElem? (i := 108) (by decide +kernel))
theorem i_109 : (Jvm.Cond.code ({ cls := "NeighbourDesk$Cache", name := "<init>", desc := "(I)V" } : Jvm.MethodName) prog_2_method_1_code (3 : Nat) (Option.none : Option Jvm.ClassFile.FieldType)) ∈ lw_tbl := List.mem_append_right _ (List.mem_of_getElem? (i := 109) (by decide +kernel))
theorem i_110 : (Jvm.Cond.methodLink "NeighbourDesk$Cache" (3 : Nat) ({ cls := "java/lang/Object", name := "<init>", desc := "()V" } : Jvm.MethodName)) ∈ lw_tbl := List.mem_append_right _ (List.mem_of_getElem? (i := 110) (by decide +kernel))
theorem i_111 : (Jvm.Cond.classLink "NeighbourDesk$Cache" (15 : Nat) "NeighbourDesk$Entry") ∈ lw_tbl := List.mem_append_right _ (List.mem_of_getElem? (i := 111) (by decide +kernel))
theorem i_112 : (Jvm.Cond.arrayOver (Jvm.ClassFile.FieldType.object "NeighbourDesk$Entry")) ∈ lw_tbl := List.mem_append_right _ (List.mem_of_getElem? (i := 112) (by decide +kernel))
theorem i_113 : (Jvm.Cond.instantiable "NeighbourDesk$Entry" (7 : Nat)) ∈ lw_tbl := List.mem_append_right _ (List.mem_of_getElem? (i := 113) (by decide +kernel))
theorem i_114 : (Jvm.Cond.methodLinkNest "NeighbourDesk$Cache" (21 : Nat) ({ cls := "NeighbourDesk$Entry", name := "<init>", desc := "()V" } : Jvm.MethodName) "NeighbourDesk") ∈ lw_tbl := List.mem_append_right _ (List.mem_of_getElem? (i := 114) (by decide +kernel))
theorem i_115 : (Jvm.Cond.instanceMethod ({ cls := "NeighbourDesk$Entry", name := "<init>", desc := "()V" } : Jvm.MethodName)) ∈ lw_tbl := List.mem_append_right _ (List.mem_of_getElem? (i := 115) (by decide +kernel))
theorem i_116 : (Jvm.Cond.code ({ cls := "NeighbourDesk$Entry", name := "<init>", desc := "()V" } : Jvm.MethodName) prog_3_method_1_code (1 : Nat) (Option.none : Option Jvm.ClassFile.FieldType)) ∈ lw_tbl := List.mem_append_right _ (List.mem_of_getElem? (i := 116) (by decide +kernel))
theorem i_117 : (Jvm.Cond.methodLink "NeighbourDesk$Entry" (3 : Nat) ({ cls := "java/lang/Object", name := "<init>", desc := "()V" } : Jvm.MethodName)) ∈ lw_tbl := List.mem_append_right _ (List.mem_of_getElem? (i := 117) (by decide +kernel))
theorem i_118 : (Jvm.Cond.fieldLink "NeighbourDesk$Entry" (11 : Nat) "NeighbourDesk$Entry" "queue" "[I") ∈ lw_tbl := List.mem_append_right _ (List.mem_of_getElem? (i := 118) (by decide +kernel))
theorem i_119 : (Jvm.Cond.fieldLink "NeighbourDesk" (186 : Nat) "NeighbourDesk$Entry" "queue" "[I") ∈ lw_tbl := List.mem_append_right _ (List.mem_of_getElem? (i := 119) (by decide +kernel))
theorem i_120 : (Jvm.Cond.fieldLink "NeighbourDesk$Entry" (15 : Nat) "NeighbourDesk$Entry" "waiting" "I") ∈ lw_tbl := List.mem_append_right _ (List.mem_of_getElem? (i := 120) (by decide +kernel))
theorem i_121 : (Jvm.Cond.fieldLink "NeighbourDesk$Cache" (25 : Nat) "NeighbourDesk$Entry" "waiting" "I") ∈ lw_tbl := List.mem_append_right _ (List.mem_of_getElem? (i := 121) (by decide +kernel))
theorem i_122 : (Jvm.Cond.fieldLink "NeighbourDesk" (174 : Nat) "NeighbourDesk$Entry" "waiting" "I") ∈ lw_tbl := List.mem_append_right _ (List.mem_of_getElem? (i := 122) (by decide +kernel))
theorem i_123 : (Jvm.Cond.fieldLink "NeighbourDesk$Entry" (19 : Nat) "NeighbourDesk$Entry" "address" "I") ∈ lw_tbl := List.mem_append_right _ (List.mem_of_getElem? (i := 123) (by decide +kernel))
theorem i_124 : (Jvm.Cond.fieldLink "NeighbourDesk$Cache" (22 : Nat) "NeighbourDesk$Entry" "address" "I") ∈ lw_tbl := List.mem_append_right _ (List.mem_of_getElem? (i := 124) (by decide +kernel))
theorem i_125 : (Jvm.Cond.fieldLink "NeighbourDesk" (163 : Nat) "NeighbourDesk$Entry" "address" "I") ∈ lw_tbl := List.mem_append_right _ (List.mem_of_getElem? (i := 125) (by decide +kernel))
theorem i_126 : (Jvm.Cond.fieldLink "NeighbourDesk$Entry" (22 : Nat) "NeighbourDesk$Entry" "number" "J") ∈ lw_tbl := List.mem_append_right _ (List.mem_of_getElem? (i := 126) (by decide +kernel))
theorem i_127 : (Jvm.Cond.fieldLink "NeighbourDesk$Cache" (35 : Nat) "NeighbourDesk$Entry" "number" "J") ∈ lw_tbl := List.mem_append_right _ (List.mem_of_getElem? (i := 127) (by decide +kernel))
theorem i_128 : (Jvm.Cond.fieldLink "NeighbourDesk" (183 : Nat) "NeighbourDesk$Entry" "number" "J") ∈ lw_tbl := List.mem_append_right _ (List.mem_of_getElem? (i := 128) (by decide +kernel))
theorem i_129 : (Jvm.Cond.fieldLink "NeighbourDesk$Entry" (26 : Nat) "NeighbourDesk$Entry" "kind" "I") ∈ lw_tbl := List.mem_append_right _ (List.mem_of_getElem? (i := 129) (by decide +kernel))
theorem i_130 : (Jvm.Cond.fieldLink "NeighbourDesk$Cache" (28 : Nat) "NeighbourDesk$Entry" "kind" "I") ∈ lw_tbl := List.mem_append_right _ (List.mem_of_getElem? (i := 130) (by decide +kernel))
theorem i_131 : (Jvm.Cond.fieldLink "NeighbourDesk" (171 : Nat) "NeighbourDesk$Entry" "kind" "I") ∈ lw_tbl := List.mem_append_right _ (List.mem_of_getElem? (i := 131) (by decide +kernel))
theorem i_132 : (Jvm.Cond.fieldLink "NeighbourDesk$Entry" (29 : Nat) "NeighbourDesk$Entry" "since" "I") ∈ lw_tbl := List.mem_append_right _ (List.mem_of_getElem? (i := 132) (by decide +kernel))
theorem i_133 : (Jvm.Cond.fieldLink "NeighbourDesk" (177 : Nat) "NeighbourDesk$Entry" "since" "I") ∈ lw_tbl := List.mem_append_right _ (List.mem_of_getElem? (i := 133) (by decide +kernel))
theorem i_134 : (Jvm.Cond.fieldLink "NeighbourDesk$Entry" (32 : Nat) "NeighbourDesk$Entry" "used" "I") ∈ lw_tbl := List.mem_append_right _ (List.mem_of_getElem? (i := 134) (by decide +kernel))
theorem i_135 : (Jvm.Cond.fieldLink "NeighbourDesk$Cache" (39 : Nat) "NeighbourDesk$Entry" "used" "I") ∈ lw_tbl := List.mem_append_right _ (List.mem_of_getElem? (i := 135) (by decide +kernel))
theorem i_136 : (Jvm.Cond.fieldLink "NeighbourDesk" (180 : Nat) "NeighbourDesk$Entry" "used" "I") ∈ lw_tbl := List.mem_append_right _ (List.mem_of_getElem? (i := 136) (by decide +kernel))
theorem i_151 : (Jvm.Cond.superclass "NeighbourDesk$Entry" "java/lang/Object") ∈ lw_tbl := List.mem_append_right _ (List.mem_of_getElem? (i := 151) (by decide +kernel))
theorem i_152 : (Jvm.Cond.fieldLink "NeighbourDesk$Cache" (17 : Nat) "NeighbourDesk$Cache" "row" "[LNeighbourDesk$Entry;") ∈ lw_tbl := List.mem_append_right _ (List.mem_of_getElem? (i := 152) (by decide +kernel))
theorem i_153 : (Jvm.Cond.fieldLink "NeighbourDesk" (159 : Nat) "NeighbourDesk$Cache" "row" "[LNeighbourDesk$Entry;") ∈ lw_tbl := List.mem_append_right _ (List.mem_of_getElem? (i := 153) (by decide +kernel))
theorem i_154 : (Jvm.Cond.fieldLink "NeighbourDesk$Cache" (9 : Nat) "NeighbourDesk$Cache" "size" "I") ∈ lw_tbl := List.mem_append_right _ (List.mem_of_getElem? (i := 154) (by decide +kernel))
theorem i_155 : (Jvm.Cond.fieldLink "NeighbourDesk" (140 : Nat) "NeighbourDesk$Cache" "size" "I") ∈ lw_tbl := List.mem_append_right _ (List.mem_of_getElem? (i := 155) (by decide +kernel))
theorem i_160 : (Jvm.Cond.superclass "NeighbourDesk$Cache" "java/lang/Object") ∈ lw_tbl := List.mem_append_right _ (List.mem_of_getElem? (i := 160) (by decide +kernel))
theorem i_161 : (Jvm.Cond.fieldLink "NeighbourDesk" (70 : Nat) "NeighbourDesk" "reach" "I") ∈ lw_tbl := List.mem_append_right _ (List.mem_of_getElem? (i := 161) (by decide +kernel))
theorem i_162 : (Jvm.Cond.fieldLink "NeighbourDesk" (73 : Nat) "NeighbourDesk" "age" "I") ∈ lw_tbl := List.mem_append_right _ (List.mem_of_getElem? (i := 162) (by decide +kernel))
theorem i_163 : (Jvm.Cond.fieldLink "NeighbourDesk" (66 : Nat) "NeighbourDesk" "cache" "LNeighbourDesk$Cache;") ∈ lw_tbl := List.mem_append_right _ (List.mem_of_getElem? (i := 163) (by decide +kernel))
theorem i_164 : (Jvm.Cond.fieldLink "NeighbourDesk" (10 : Nat) "NeighbourDesk" "tape" "LNeighbourDesk$Tape;") ∈ lw_tbl := List.mem_append_right _ (List.mem_of_getElem? (i := 164) (by decide +kernel))
theorem i_165 : (Jvm.Cond.fieldLink "NeighbourDesk" (19 : Nat) "NeighbourDesk" "frames" "LNeighbourDesk$Frames;") ∈ lw_tbl := List.mem_append_right _ (List.mem_of_getElem? (i := 165) (by decide +kernel))
theorem i_166 : (Jvm.Cond.fieldLink "NeighbourDesk" (26 : Nat) "NeighbourDesk" "losses" "LNeighbourDesk$Losses;") ∈ lw_tbl := List.mem_append_right _ (List.mem_of_getElem? (i := 166) (by decide +kernel))
theorem i_167 : (Jvm.Cond.fieldLink "NeighbourDesk" (32 : Nat) "NeighbourDesk" "hereNumber" "J") ∈ lw_tbl := List.mem_append_right _ (List.mem_of_getElem? (i := 167) (by decide +kernel))
theorem i_168 : (Jvm.Cond.fieldLink "NeighbourDesk" (36 : Nat) "NeighbourDesk" "time" "I") ∈ lw_tbl := List.mem_append_right _ (List.mem_of_getElem? (i := 168) (by decide +kernel))
theorem i_169 : (Jvm.Cond.fieldLink "NeighbourDesk" (40 : Nat) "NeighbourDesk" "phase" "I") ∈ lw_tbl := List.mem_append_right _ (List.mem_of_getElem? (i := 169) (by decide +kernel))
theorem i_170 : (Jvm.Cond.fieldLink "NeighbourDesk" (43 : Nat) "NeighbourDesk" "own" "I") ∈ lw_tbl := List.mem_append_right _ (List.mem_of_getElem? (i := 170) (by decide +kernel))
theorem i_171 : (Jvm.Cond.fieldLink "NeighbourDesk" (46 : Nat) "NeighbourDesk" "claimedAt" "I") ∈ lw_tbl := List.mem_append_right _ (List.mem_of_getElem? (i := 171) (by decide +kernel))
theorem i_172 : (Jvm.Cond.fieldLink "NeighbourDesk" (49 : Nat) "NeighbourDesk" "defendedAt" "I") ∈ lw_tbl := List.mem_append_right _ (List.mem_of_getElem? (i := 172) (by decide +kernel))
theorem i_197 : (Jvm.Cond.superclass "NeighbourDesk" "java/lang/Object") ∈ lw_tbl := List.mem_append_right _ (List.mem_of_getElem? (i := 197) (by decide +kernel))
theorem i_198 : (Jvm.Cond.methodLink "NeighbourDeskLaw" (91 : Nat) ({ cls := "NeighbourDesk", name := "pack", desc := "(IJIJI)V" } : Jvm.MethodName)) ∈ lw_tbl := List.mem_append_right _ (List.mem_of_getElem? (i := 198) (by decide +kernel))
theorem i_199 : (Jvm.Cond.instanceMethod ({ cls := "NeighbourDesk", name := "pack", desc := "(IJIJI)V" } : Jvm.MethodName)) ∈ lw_tbl := List.mem_append_right _ (List.mem_of_getElem? (i := 199) (by decide +kernel))
theorem i_200 : (Jvm.Cond.selects "NeighbourDesk" ({ cls := "NeighbourDesk", name := "pack", desc := "(IJIJI)V" } : Jvm.MethodName) ({ cls := "NeighbourDesk", name := "pack", desc := "(IJIJI)V" } : Jvm.MethodName)) ∈ lw_tbl := List.mem_append_right _ (List.mem_of_getElem? (i := 200) (by decide +kernel))
theorem i_201 : (Jvm.Cond.code ({ cls := "NeighbourDesk", name := "pack", desc := "(IJIJI)V" } : Jvm.MethodName) prog_1_method_4_code (8 : Nat) (Option.none : Option Jvm.ClassFile.FieldType)) ∈ lw_tbl := List.mem_append_right _ (List.mem_of_getElem? (i := 201) (by decide +kernel))
theorem i_202 : (Jvm.Cond.methodLink "NeighbourDesk" (99 : Nat) ({ cls := "NeighbourDesk$Wire", name := "writePacket", desc := "([BIIJIJI)V" } : Jvm.MethodName)) ∈ lw_tbl := List.mem_append_right _ (List.mem_of_getElem? (i := 202) (by decide +kernel))
theorem i_203 : (Jvm.Cond.static ({ cls := "NeighbourDesk$Wire", name := "writePacket", desc := "([BIIJIJI)V" } : Jvm.MethodName)) ∈ lw_tbl := List.mem_append_right _ (List.mem_of_getElem? (i := 203) (by decide +kernel))
theorem i_204 : (Jvm.Cond.code ({ cls := "NeighbourDesk$Wire", name := "writePacket", desc := "([BIIJIJI)V" } : Jvm.MethodName) prog_8_method_2_code (9 : Nat) (Option.none : Option Jvm.ClassFile.FieldType)) ∈ lw_tbl := List.mem_append_right _ (List.mem_of_getElem? (i := 204) (by decide +kernel))
theorem i_205 : (Jvm.Cond.constantLong "NeighbourDesk$Wire" (9 : Nat) (4429186564 : Int64)) ∈ lw_tbl := List.mem_append_right _ (List.mem_of_getElem? (i := 205) (by decide +kernel))
theorem i_206 : (Jvm.Cond.methodLink "NeighbourDesk$Wire" (11 : Nat) ({ cls := "NeighbourDesk$Wire", name := "write", desc := "([BIIJ)V" } : Jvm.MethodName)) ∈ lw_tbl := List.mem_append_right _ (List.mem_of_getElem? (i := 206) (by decide +kernel))
theorem i_207 : (Jvm.Cond.static ({ cls := "NeighbourDesk$Wire", name := "write", desc := "([BIIJ)V" } : Jvm.MethodName)) ∈ lw_tbl := List.mem_append_right _ (List.mem_of_getElem? (i := 207) (by decide +kernel))
theorem i_208 : (Jvm.Cond.code ({ cls := "NeighbourDesk$Wire", name := "write", desc := "([BIIJ)V" } : Jvm.MethodName) prog_8_method_3_code (8 : Nat) (Option.none : Option Jvm.ClassFile.FieldType)) ∈ lw_tbl := List.mem_append_right _ (List.mem_of_getElem? (i := 208) (by decide +kernel))
theorem i_209 : (Jvm.Cond.methodLink "NeighbourDeskLaw" (96 : Nat) ({ cls := "NeighbourDesk", name := "hear", desc := "()I" } : Jvm.MethodName)) ∈ lw_tbl := List.mem_append_right _ (List.mem_of_getElem? (i := 209) (by decide +kernel))
theorem i_210 : (Jvm.Cond.instanceMethod ({ cls := "NeighbourDesk", name := "hear", desc := "()I" } : Jvm.MethodName)) ∈ lw_tbl := List.mem_append_right _ (List.mem_of_getElem? (i := 210) (by decide +kernel))
theorem i_211 : (Jvm.Cond.selects "NeighbourDesk" ({ cls := "NeighbourDesk", name := "hear", desc := "()I" } : Jvm.MethodName) ({ cls := "NeighbourDesk", name := "hear", desc := "()I" } : Jvm.MethodName)) ∈ lw_tbl := List.mem_append_right _ (List.mem_of_getElem? (i := 211) (by decide +kernel))
theorem i_212 : (Jvm.Cond.code ({ cls := "NeighbourDesk", name := "hear", desc := "()I" } : Jvm.MethodName) prog_1_method_5_code (2 : Nat) (Option.some Jvm.ClassFile.FieldType.int)) ∈ lw_tbl := List.mem_append_right _ (List.mem_of_getElem? (i := 212) (by decide +kernel))
theorem i_213 : (Jvm.Cond.methodLink "NeighbourDesk" (105 : Nat) ({ cls := "NeighbourDesk", name := "isBad", desc := "()Z" } : Jvm.MethodName)) ∈ lw_tbl := List.mem_append_right _ (List.mem_of_getElem? (i := 213) (by decide +kernel))
theorem i_214 : (Jvm.Cond.privateMethod ({ cls := "NeighbourDesk", name := "isBad", desc := "()Z" } : Jvm.MethodName)) ∈ lw_tbl := List.mem_append_right _ (List.mem_of_getElem? (i := 214) (by decide +kernel))
theorem i_215 : (Jvm.Cond.instanceMethod ({ cls := "NeighbourDesk", name := "isBad", desc := "()Z" } : Jvm.MethodName)) ∈ lw_tbl := List.mem_append_right _ (List.mem_of_getElem? (i := 215) (by decide +kernel))
theorem i_216 : (Jvm.Cond.code ({ cls := "NeighbourDesk", name := "isBad", desc := "()Z" } : Jvm.MethodName) prog_1_method_20_code (4 : Nat) (Option.some Jvm.ClassFile.FieldType.boolean)) ∈ lw_tbl := List.mem_append_right _ (List.mem_of_getElem? (i := 216) (by decide +kernel))
theorem i_217 : (Jvm.Cond.methodLink "NeighbourDesk" (210 : Nat) ({ cls := "NeighbourDesk$Tape", name := "head", desc := "()J" } : Jvm.MethodName)) ∈ lw_tbl := List.mem_append_right _ (List.mem_of_getElem? (i := 217) (by decide +kernel))
theorem i_218 : (Jvm.Cond.instanceMethod ({ cls := "NeighbourDesk$Tape", name := "head", desc := "()J" } : Jvm.MethodName)) ∈ lw_tbl := List.mem_append_right _ (List.mem_of_getElem? (i := 218) (by decide +kernel))
theorem i_219 : (Jvm.Cond.selects "NeighbourDesk$Tape" ({ cls := "NeighbourDesk$Tape", name := "head", desc := "()J" } : Jvm.MethodName) ({ cls := "NeighbourDesk$Tape", name := "head", desc := "()J" } : Jvm.MethodName)) ∈ lw_tbl := List.mem_append_right _ (List.mem_of_getElem? (i := 219) (by decide +kernel))
theorem i_220 : (Jvm.Cond.code ({ cls := "NeighbourDesk$Tape", name := "head", desc := "()J" } : Jvm.MethodName) prog_7_method_4_code (1 : Nat) (Option.some Jvm.ClassFile.FieldType.long)) ∈ lw_tbl := List.mem_append_right _ (List.mem_of_getElem? (i := 220) (by decide +kernel))
theorem i_221 : (Jvm.Cond.methodLink "NeighbourDesk$Tape" (19 : Nat) ({ cls := "NeighbourDesk$Wire", name := "read", desc := "([BII)J" } : Jvm.MethodName)) ∈ lw_tbl := List.mem_append_right _ (List.mem_of_getElem? (i := 221) (by decide +kernel))
theorem i_222 : (Jvm.Cond.static ({ cls := "NeighbourDesk$Wire", name := "read", desc := "([BII)J" } : Jvm.MethodName)) ∈ lw_tbl := List.mem_append_right _ (List.mem_of_getElem? (i := 222) (by decide +kernel))
theorem i_223 : (Jvm.Cond.code ({ cls := "NeighbourDesk$Wire", name := "read", desc := "([BII)J" } : Jvm.MethodName) prog_8_method_4_code (6 : Nat) (Option.some Jvm.ClassFile.FieldType.long)) ∈ lw_tbl := List.mem_append_right _ (List.mem_of_getElem? (i := 223) (by decide +kernel))
theorem i_224 : (Jvm.Cond.constantLong "NeighbourDesk" (214 : Nat) (4429186564 : Int64)) ∈ lw_tbl := List.mem_append_right _ (List.mem_of_getElem? (i := 224) (by decide +kernel))
theorem i_225 : (Jvm.Cond.methodLink "NeighbourDesk" (216 : Nat) ({ cls := "NeighbourDesk$Tape", name := "operation", desc := "()I" } : Jvm.MethodName)) ∈ lw_tbl := List.mem_append_right _ (List.mem_of_getElem? (i := 225) (by decide +kernel))
theorem i_226 : (Jvm.Cond.instanceMethod ({ cls := "NeighbourDesk$Tape", name := "operation", desc := "()I" } : Jvm.MethodName)) ∈ lw_tbl := List.mem_append_right _ (List.mem_of_getElem? (i := 226) (by decide +kernel))
theorem i_227 : (Jvm.Cond.selects "NeighbourDesk$Tape" ({ cls := "NeighbourDesk$Tape", name := "operation", desc := "()I" } : Jvm.MethodName) ({ cls := "NeighbourDesk$Tape", name := "operation", desc := "()I" } : Jvm.MethodName)) ∈ lw_tbl := List.mem_append_right _ (List.mem_of_getElem? (i := 227) (by decide +kernel))
theorem i_228 : (Jvm.Cond.code ({ cls := "NeighbourDesk$Tape", name := "operation", desc := "()I" } : Jvm.MethodName) prog_7_method_5_code (1 : Nat) (Option.some Jvm.ClassFile.FieldType.int)) ∈ lw_tbl := List.mem_append_right _ (List.mem_of_getElem? (i := 228) (by decide +kernel))
theorem i_229 : (Jvm.Cond.methodLink "NeighbourDesk" (219 : Nat) ({ cls := "NeighbourDesk$Tape", name := "sender", desc := "()J" } : Jvm.MethodName)) ∈ lw_tbl := List.mem_append_right _ (List.mem_of_getElem? (i := 229) (by decide +kernel))
theorem i_230 : (Jvm.Cond.instanceMethod ({ cls := "NeighbourDesk$Tape", name := "sender", desc := "()J" } : Jvm.MethodName)) ∈ lw_tbl := List.mem_append_right _ (List.mem_of_getElem? (i := 230) (by decide +kernel))
theorem i_231 : (Jvm.Cond.selects "NeighbourDesk$Tape" ({ cls := "NeighbourDesk$Tape", name := "sender", desc := "()J" } : Jvm.MethodName) ({ cls := "NeighbourDesk$Tape", name := "sender", desc := "()J" } : Jvm.MethodName)) ∈ lw_tbl := List.mem_append_right _ (List.mem_of_getElem? (i := 231) (by decide +kernel))
theorem i_232 : (Jvm.Cond.code ({ cls := "NeighbourDesk$Tape", name := "sender", desc := "()J" } : Jvm.MethodName) prog_7_method_6_code (1 : Nat) (Option.some Jvm.ClassFile.FieldType.long)) ∈ lw_tbl := List.mem_append_right _ (List.mem_of_getElem? (i := 232) (by decide +kernel))
theorem i_233 : (Jvm.Cond.constantLong "NeighbourDesk" (76 : Nat) (281474976710655 : Int64)) ∈ lw_tbl := List.mem_append_right _ (List.mem_of_getElem? (i := 233) (by decide +kernel))
theorem i_234 : (Jvm.Cond.methodLink "NeighbourDesk" (109 : Nat) ({ cls := "NeighbourDesk", name := "takeIn", desc := "()I" } : Jvm.MethodName)) ∈ lw_tbl := List.mem_append_right _ (List.mem_of_getElem? (i := 234) (by decide +kernel))
theorem i_235 : (Jvm.Cond.privateMethod ({ cls := "NeighbourDesk", name := "takeIn", desc := "()I" } : Jvm.MethodName)) ∈ lw_tbl := List.mem_append_right _ (List.mem_of_getElem? (i := 235) (by decide +kernel))
theorem i_236 : (Jvm.Cond.instanceMethod ({ cls := "NeighbourDesk", name := "takeIn", desc := "()I" } : Jvm.MethodName)) ∈ lw_tbl := List.mem_append_right _ (List.mem_of_getElem? (i := 236) (by decide +kernel))
theorem i_237 : (Jvm.Cond.code ({ cls := "NeighbourDesk", name := "takeIn", desc := "()I" } : Jvm.MethodName) prog_1_method_21_code (2 : Nat) (Option.some Jvm.ClassFile.FieldType.int)) ∈ lw_tbl := List.mem_append_right _ (List.mem_of_getElem? (i := 237) (by decide +kernel))
theorem i_238 : (Jvm.Cond.methodLink "NeighbourDesk" (222 : Nat) ({ cls := "NeighbourDesk", name := "isConflict", desc := "()Z" } : Jvm.MethodName)) ∈ lw_tbl := List.mem_append_right _ (List.mem_of_getElem? (i := 238) (by decide +kernel))
theorem i_239 : (Jvm.Cond.privateMethod ({ cls := "NeighbourDesk", name := "isConflict", desc := "()Z" } : Jvm.MethodName)) ∈ lw_tbl := List.mem_append_right _ (List.mem_of_getElem? (i := 239) (by decide +kernel))
theorem i_240 : (Jvm.Cond.instanceMethod ({ cls := "NeighbourDesk", name := "isConflict", desc := "()Z" } : Jvm.MethodName)) ∈ lw_tbl := List.mem_append_right _ (List.mem_of_getElem? (i := 240) (by decide +kernel))
theorem i_241 : (Jvm.Cond.code ({ cls := "NeighbourDesk", name := "isConflict", desc := "()Z" } : Jvm.MethodName) prog_1_method_22_code (3 : Nat) (Option.some Jvm.ClassFile.FieldType.boolean)) ∈ lw_tbl := List.mem_append_right _ (List.mem_of_getElem? (i := 241) (by decide +kernel))
theorem i_242 : (Jvm.Cond.methodLink "NeighbourDesk" (228 : Nat) ({ cls := "NeighbourDesk$Tape", name := "senderAddress", desc := "()I" } : Jvm.MethodName)) ∈ lw_tbl := List.mem_append_right _ (List.mem_of_getElem? (i := 242) (by decide +kernel))
theorem i_243 : (Jvm.Cond.instanceMethod ({ cls := "NeighbourDesk$Tape", name := "senderAddress", desc := "()I" } : Jvm.MethodName)) ∈ lw_tbl := List.mem_append_right _ (List.mem_of_getElem? (i := 243) (by decide +kernel))
theorem i_244 : (Jvm.Cond.selects "NeighbourDesk$Tape" ({ cls := "NeighbourDesk$Tape", name := "senderAddress", desc := "()I" } : Jvm.MethodName) ({ cls := "NeighbourDesk$Tape", name := "senderAddress", desc := "()I" } : Jvm.MethodName)) ∈ lw_tbl := List.mem_append_right _ (List.mem_of_getElem? (i := 244) (by decide +kernel))
theorem i_245 : (Jvm.Cond.code ({ cls := "NeighbourDesk$Tape", name := "senderAddress", desc := "()I" } : Jvm.MethodName) prog_7_method_7_code (1 : Nat) (Option.some Jvm.ClassFile.FieldType.int)) ∈ lw_tbl := List.mem_append_right _ (List.mem_of_getElem? (i := 245) (by decide +kernel))
theorem i_246 : (Jvm.Cond.methodLink "NeighbourDesk" (235 : Nat) ({ cls := "NeighbourDesk$Tape", name := "targetAddress", desc := "()I" } : Jvm.MethodName)) ∈ lw_tbl := List.mem_append_right _ (List.mem_of_getElem? (i := 246) (by decide +kernel))
theorem i_247 : (Jvm.Cond.instanceMethod ({ cls := "NeighbourDesk$Tape", name := "targetAddress", desc := "()I" } : Jvm.MethodName)) ∈ lw_tbl := List.mem_append_right _ (List.mem_of_getElem? (i := 247) (by decide +kernel))
theorem i_248 : (Jvm.Cond.selects "NeighbourDesk$Tape" ({ cls := "NeighbourDesk$Tape", name := "targetAddress", desc := "()I" } : Jvm.MethodName) ({ cls := "NeighbourDesk$Tape", name := "targetAddress", desc := "()I" } : Jvm.MethodName)) ∈ lw_tbl := List.mem_append_right _ (List.mem_of_getElem? (i := 248) (by decide +kernel))
theorem i_249 : (Jvm.Cond.code ({ cls := "NeighbourDesk$Tape", name := "targetAddress", desc := "()I" } : Jvm.MethodName) prog_7_method_8_code (1 : Nat) (Option.some Jvm.ClassFile.FieldType.int)) ∈ lw_tbl := List.mem_append_right _ (List.mem_of_getElem? (i := 249) (by decide +kernel))
theorem i_250 : (Jvm.Cond.methodLink "NeighbourDesk" (225 : Nat) ({ cls := "NeighbourDesk", name := "meetConflict", desc := "()V" } : Jvm.MethodName)) ∈ lw_tbl := List.mem_append_right _ (List.mem_of_getElem? (i := 250) (by decide +kernel))
theorem i_251 : (Jvm.Cond.privateMethod ({ cls := "NeighbourDesk", name := "meetConflict", desc := "()V" } : Jvm.MethodName)) ∈ lw_tbl := List.mem_append_right _ (List.mem_of_getElem? (i := 251) (by decide +kernel))
theorem i_252 : (Jvm.Cond.instanceMethod ({ cls := "NeighbourDesk", name := "meetConflict", desc := "()V" } : Jvm.MethodName)) ∈ lw_tbl := List.mem_append_right _ (List.mem_of_getElem? (i := 252) (by decide +kernel))
theorem i_253 : (Jvm.Cond.code ({ cls := "NeighbourDesk", name := "meetConflict", desc := "()V" } : Jvm.MethodName) prog_1_method_23_code (2 : Nat) (Option.none : Option Jvm.ClassFile.FieldType)) ∈ lw_tbl := List.mem_append_right _ (List.mem_of_getElem? (i := 253) (by decide +kernel))
theorem i_254 : (Jvm.Cond.methodLink "NeighbourDesk" (116 : Nat) ({ cls := "NeighbourDesk", name := "giveUp", desc := "()V" } : Jvm.MethodName)) ∈ lw_tbl := List.mem_append_right _ (List.mem_of_getElem? (i := 254) (by decide +kernel))
theorem i_255 : (Jvm.Cond.privateMethod ({ cls := "NeighbourDesk", name := "giveUp", desc := "()V" } : Jvm.MethodName)) ∈ lw_tbl := List.mem_append_right _ (List.mem_of_getElem? (i := 255) (by decide +kernel))
theorem i_256 : (Jvm.Cond.instanceMethod ({ cls := "NeighbourDesk", name := "giveUp", desc := "()V" } : Jvm.MethodName)) ∈ lw_tbl := List.mem_append_right _ (List.mem_of_getElem? (i := 256) (by decide +kernel))
theorem i_257 : (Jvm.Cond.code ({ cls := "NeighbourDesk", name := "giveUp", desc := "()V" } : Jvm.MethodName) prog_1_method_36_code (2 : Nat) (Option.none : Option Jvm.ClassFile.FieldType)) ∈ lw_tbl := List.mem_append_right _ (List.mem_of_getElem? (i := 257) (by decide +kernel))
theorem i_258 : (Jvm.Cond.methodLink "NeighbourDesk" (275 : Nat) ({ cls := "NeighbourDesk", name := "loseWaiting", desc := "(LNeighbourDesk$Entry;)V" } : Jvm.MethodName)) ∈ lw_tbl := List.mem_append_right _ (List.mem_of_getElem? (i := 258) (by decide +kernel))
theorem i_259 : (Jvm.Cond.privateMethod ({ cls := "NeighbourDesk", name := "loseWaiting", desc := "(LNeighbourDesk$Entry;)V" } : Jvm.MethodName)) ∈ lw_tbl := List.mem_append_right _ (List.mem_of_getElem? (i := 259) (by decide +kernel))
theorem i_260 : (Jvm.Cond.instanceMethod ({ cls := "NeighbourDesk", name := "loseWaiting", desc := "(LNeighbourDesk$Entry;)V" } : Jvm.MethodName)) ∈ lw_tbl := List.mem_append_right _ (List.mem_of_getElem? (i := 260) (by decide +kernel))
theorem i_261 : (Jvm.Cond.code ({ cls := "NeighbourDesk", name := "loseWaiting", desc := "(LNeighbourDesk$Entry;)V" } : Jvm.MethodName) prog_1_method_37_code (3 : Nat) (Option.none : Option Jvm.ClassFile.FieldType)) ∈ lw_tbl := List.mem_append_right _ (List.mem_of_getElem? (i := 261) (by decide +kernel))
theorem i_262 : (Jvm.Cond.methodLink "NeighbourDesk" (269 : Nat) ({ cls := "NeighbourDesk$Losses", name := "add", desc := "(I)V" } : Jvm.MethodName)) ∈ lw_tbl := List.mem_append_right _ (List.mem_of_getElem? (i := 262) (by decide +kernel))
theorem i_263 : (Jvm.Cond.instanceMethod ({ cls := "NeighbourDesk$Losses", name := "add", desc := "(I)V" } : Jvm.MethodName)) ∈ lw_tbl := List.mem_append_right _ (List.mem_of_getElem? (i := 263) (by decide +kernel))
theorem i_264 : (Jvm.Cond.selects "NeighbourDesk$Losses" ({ cls := "NeighbourDesk$Losses", name := "add", desc := "(I)V" } : Jvm.MethodName) ({ cls := "NeighbourDesk$Losses", name := "add", desc := "(I)V" } : Jvm.MethodName)) ∈ lw_tbl := List.mem_append_right _ (List.mem_of_getElem? (i := 264) (by decide +kernel))
theorem i_265 : (Jvm.Cond.code ({ cls := "NeighbourDesk$Losses", name := "add", desc := "(I)V" } : Jvm.MethodName) prog_5_method_2_code (2 : Nat) (Option.none : Option Jvm.ClassFile.FieldType)) ∈ lw_tbl := List.mem_append_right _ (List.mem_of_getElem? (i := 265) (by decide +kernel))
theorem i_266 : (Jvm.Cond.methodLink "NeighbourDesk$Losses" (20 : Nat) ({ cls := "NeighbourDesk$Ring", name := "nextSlot", desc := "()I" } : Jvm.MethodName)) ∈ lw_tbl := List.mem_append_right _ (List.mem_of_getElem? (i := 266) (by decide +kernel))
theorem i_267 : (Jvm.Cond.instanceMethod ({ cls := "NeighbourDesk$Ring", name := "nextSlot", desc := "()I" } : Jvm.MethodName)) ∈ lw_tbl := List.mem_append_right _ (List.mem_of_getElem? (i := 267) (by decide +kernel))
theorem i_268 : (Jvm.Cond.selects "NeighbourDesk$Ring" ({ cls := "NeighbourDesk$Ring", name := "nextSlot", desc := "()I" } : Jvm.MethodName) ({ cls := "NeighbourDesk$Ring", name := "nextSlot", desc := "()I" } : Jvm.MethodName)) ∈ lw_tbl := List.mem_append_right _ (List.mem_of_getElem? (i := 268) (by decide +kernel))
theorem i_269 : (Jvm.Cond.code ({ cls := "NeighbourDesk$Ring", name := "nextSlot", desc := "()I" } : Jvm.MethodName) prog_6_method_2_code (2 : Nat) (Option.some Jvm.ClassFile.FieldType.int)) ∈ lw_tbl := List.mem_append_right _ (List.mem_of_getElem? (i := 269) (by decide +kernel))
theorem i_270 : (Jvm.Cond.methodLink "NeighbourDesk$Ring" (13 : Nat) ({ cls := "java/lang/Math", name := "floorMod", desc := "(II)I" } : Jvm.MethodName)) ∈ lw_tbl := List.mem_append_right _ (List.mem_of_getElem? (i := 270) (by decide +kernel))
theorem i_271 : (Jvm.Cond.static ({ cls := "java/lang/Math", name := "floorMod", desc := "(II)I" } : Jvm.MethodName)) ∈ lw_tbl := List.mem_append_right _ (List.mem_of_getElem? (i := 271) (by decide +kernel))
theorem i_272 : (Jvm.Cond.code ({ cls := "java/lang/Math", name := "floorMod", desc := "(II)I" } : Jvm.MethodName) prog_16_method_50_code (3 : Nat) (Option.some Jvm.ClassFile.FieldType.int)) ∈ lw_tbl := List.mem_append_right _ (List.mem_of_getElem? (i := 272) (by decide +kernel))
theorem i_273 : (Jvm.Cond.methodLink "NeighbourDesk" (241 : Nat) ({ cls := "NeighbourDesk", name := "announce", desc := "()V" } : Jvm.MethodName)) ∈ lw_tbl := List.mem_append_right _ (List.mem_of_getElem? (i := 273) (by decide +kernel))
theorem i_274 : (Jvm.Cond.privateMethod ({ cls := "NeighbourDesk", name := "announce", desc := "()V" } : Jvm.MethodName)) ∈ lw_tbl := List.mem_append_right _ (List.mem_of_getElem? (i := 274) (by decide +kernel))
theorem i_275 : (Jvm.Cond.instanceMethod ({ cls := "NeighbourDesk", name := "announce", desc := "()V" } : Jvm.MethodName)) ∈ lw_tbl := List.mem_append_right _ (List.mem_of_getElem? (i := 275) (by decide +kernel))
theorem i_276 : (Jvm.Cond.code ({ cls := "NeighbourDesk", name := "announce", desc := "()V" } : Jvm.MethodName) prog_1_method_31_code (1 : Nat) (Option.none : Option Jvm.ClassFile.FieldType)) ∈ lw_tbl := List.mem_append_right _ (List.mem_of_getElem? (i := 276) (by decide +kernel))
theorem i_277 : (Jvm.Cond.methodLink "NeighbourDesk" (265 : Nat) ({ cls := "NeighbourDesk", name := "request", desc := "(JII)V" } : Jvm.MethodName)) ∈ lw_tbl := List.mem_append_right _ (List.mem_of_getElem? (i := 277) (by decide +kernel))
theorem i_278 : (Jvm.Cond.privateMethod ({ cls := "NeighbourDesk", name := "request", desc := "(JII)V" } : Jvm.MethodName)) ∈ lw_tbl := List.mem_append_right _ (List.mem_of_getElem? (i := 278) (by decide +kernel))
theorem i_279 : (Jvm.Cond.instanceMethod ({ cls := "NeighbourDesk", name := "request", desc := "(JII)V" } : Jvm.MethodName)) ∈ lw_tbl := List.mem_append_right _ (List.mem_of_getElem? (i := 279) (by decide +kernel))
theorem i_280 : (Jvm.Cond.code ({ cls := "NeighbourDesk", name := "request", desc := "(JII)V" } : Jvm.MethodName) prog_1_method_29_code (5 : Nat) (Option.none : Option Jvm.ClassFile.FieldType)) ∈ lw_tbl := List.mem_append_right _ (List.mem_of_getElem? (i := 280) (by decide +kernel))
theorem i_281 : (Jvm.Cond.methodLink "NeighbourDesk" (258 : Nat) ({ cls := "NeighbourDesk$Frames", name := "addPacket", desc := "(JIJIJI)V" } : Jvm.MethodName)) ∈ lw_tbl := List.mem_append_right _ (List.mem_of_getElem? (i := 281) (by decide +kernel))
theorem i_282 : (Jvm.Cond.instanceMethod ({ cls := "NeighbourDesk$Frames", name := "addPacket", desc := "(JIJIJI)V" } : Jvm.MethodName)) ∈ lw_tbl := List.mem_append_right _ (List.mem_of_getElem? (i := 282) (by decide +kernel))
theorem i_283 : (Jvm.Cond.selects "NeighbourDesk$Frames" ({ cls := "NeighbourDesk$Frames", name := "addPacket", desc := "(JIJIJI)V" } : Jvm.MethodName) ({ cls := "NeighbourDesk$Frames", name := "addPacket", desc := "(JIJIJI)V" } : Jvm.MethodName)) ∈ lw_tbl := List.mem_append_right _ (List.mem_of_getElem? (i := 283) (by decide +kernel))
theorem i_284 : (Jvm.Cond.code ({ cls := "NeighbourDesk$Frames", name := "addPacket", desc := "(JIJIJI)V" } : Jvm.MethodName) prog_4_method_3_code (11 : Nat) (Option.none : Option Jvm.ClassFile.FieldType)) ∈ lw_tbl := List.mem_append_right _ (List.mem_of_getElem? (i := 284) (by decide +kernel))
theorem i_285 : (Jvm.Cond.methodLink "NeighbourDesk$Frames" (36 : Nat) ({ cls := "NeighbourDesk$Ring", name := "nextSlot", desc := "()I" } : Jvm.MethodName)) ∈ lw_tbl := List.mem_append_right _ (List.mem_of_getElem? (i := 285) (by decide +kernel))
theorem i_286 : (Jvm.Cond.methodLink "NeighbourDesk$Frames" (40 : Nat) ({ cls := "NeighbourDesk$Wire", name := "writePacket", desc := "([BIIJIJI)V" } : Jvm.MethodName)) ∈ lw_tbl := List.mem_append_right _ (List.mem_of_getElem? (i := 286) (by decide +kernel))
theorem i_287 : (Jvm.Cond.methodLink "NeighbourDesk" (119 : Nat) ({ cls := "NeighbourDesk$Cache", name := "indexOf", desc := "(I)I" } : Jvm.MethodName)) ∈ lw_tbl := List.mem_append_right _ (List.mem_of_getElem? (i := 287) (by decide +kernel))
theorem i_288 : (Jvm.Cond.instanceMethod ({ cls := "NeighbourDesk$Cache", name := "indexOf", desc := "(I)I" } : Jvm.MethodName)) ∈ lw_tbl := List.mem_append_right _ (List.mem_of_getElem? (i := 288) (by decide +kernel))
theorem i_289 : (Jvm.Cond.selects "NeighbourDesk$Cache" ({ cls := "NeighbourDesk$Cache", name := "indexOf", desc := "(I)I" } : Jvm.MethodName) ({ cls := "NeighbourDesk$Cache", name := "indexOf", desc := "(I)I" } : Jvm.MethodName)) ∈ lw_tbl := List.mem_append_right _ (List.mem_of_getElem? (i := 289) (by decide +kernel))
theorem i_290 : (Jvm.Cond.code ({ cls := "NeighbourDesk$Cache", name := "indexOf", desc := "(I)I" } : Jvm.MethodName) prog_2_method_2_code (3 : Nat) (Option.some Jvm.ClassFile.FieldType.int)) ∈ lw_tbl := List.mem_append_right _ (List.mem_of_getElem? (i := 290) (by decide +kernel))
theorem i_291 : (Jvm.Cond.methodLink "NeighbourDesk" (231 : Nat) ({ cls := "NeighbourDesk", name := "learn", desc := "(LNeighbourDesk$Entry;J)V" } : Jvm.MethodName)) ∈ lw_tbl := List.mem_append_right _ (List.mem_of_getElem? (i := 291) (by decide +kernel))
theorem i_292 : (Jvm.Cond.privateMethod ({ cls := "NeighbourDesk", name := "learn", desc := "(LNeighbourDesk$Entry;J)V" } : Jvm.MethodName)) ∈ lw_tbl := List.mem_append_right _ (List.mem_of_getElem? (i := 292) (by decide +kernel))
theorem i_293 : (Jvm.Cond.instanceMethod ({ cls := "NeighbourDesk", name := "learn", desc := "(LNeighbourDesk$Entry;J)V" } : Jvm.MethodName)) ∈ lw_tbl := List.mem_append_right _ (List.mem_of_getElem? (i := 293) (by decide +kernel))
theorem i_294 : (Jvm.Cond.code ({ cls := "NeighbourDesk", name := "learn", desc := "(LNeighbourDesk$Entry;J)V" } : Jvm.MethodName) prog_1_method_24_code (5 : Nat) (Option.none : Option Jvm.ClassFile.FieldType)) ∈ lw_tbl := List.mem_append_right _ (List.mem_of_getElem? (i := 294) (by decide +kernel))
theorem i_295 : (Jvm.Cond.methodLink "NeighbourDesk" (244 : Nat) ({ cls := "NeighbourDesk$Entry", name := "become", desc := "(II)V" } : Jvm.MethodName)) ∈ lw_tbl := List.mem_append_right _ (List.mem_of_getElem? (i := 295) (by decide +kernel))
theorem i_296 : (Jvm.Cond.instanceMethod ({ cls := "NeighbourDesk$Entry", name := "become", desc := "(II)V" } : Jvm.MethodName)) ∈ lw_tbl := List.mem_append_right _ (List.mem_of_getElem? (i := 296) (by decide +kernel))
theorem i_297 : (Jvm.Cond.selects "NeighbourDesk$Entry" ({ cls := "NeighbourDesk$Entry", name := "become", desc := "(II)V" } : Jvm.MethodName) ({ cls := "NeighbourDesk$Entry", name := "become", desc := "(II)V" } : Jvm.MethodName)) ∈ lw_tbl := List.mem_append_right _ (List.mem_of_getElem? (i := 297) (by decide +kernel))
theorem i_298 : (Jvm.Cond.code ({ cls := "NeighbourDesk$Entry", name := "become", desc := "(II)V" } : Jvm.MethodName) prog_3_method_2_code (3 : Nat) (Option.none : Option Jvm.ClassFile.FieldType)) ∈ lw_tbl := List.mem_append_right _ (List.mem_of_getElem? (i := 298) (by decide +kernel))
theorem i_299 : (Jvm.Cond.methodLink "NeighbourDesk" (248 : Nat) ({ cls := "NeighbourDesk$Frames", name := "addData", desc := "(JI)V" } : Jvm.MethodName)) ∈ lw_tbl := List.mem_append_right _ (List.mem_of_getElem? (i := 299) (by decide +kernel))
theorem i_300 : (Jvm.Cond.instanceMethod ({ cls := "NeighbourDesk$Frames", name := "addData", desc := "(JI)V" } : Jvm.MethodName)) ∈ lw_tbl := List.mem_append_right _ (List.mem_of_getElem? (i := 300) (by decide +kernel))
theorem i_301 : (Jvm.Cond.selects "NeighbourDesk$Frames" ({ cls := "NeighbourDesk$Frames", name := "addData", desc := "(JI)V" } : Jvm.MethodName) ({ cls := "NeighbourDesk$Frames", name := "addData", desc := "(JI)V" } : Jvm.MethodName)) ∈ lw_tbl := List.mem_append_right _ (List.mem_of_getElem? (i := 301) (by decide +kernel))
theorem i_302 : (Jvm.Cond.code ({ cls := "NeighbourDesk$Frames", name := "addData", desc := "(JI)V" } : Jvm.MethodName) prog_4_method_2_code (5 : Nat) (Option.none : Option Jvm.ClassFile.FieldType)) ∈ lw_tbl := List.mem_append_right _ (List.mem_of_getElem? (i := 302) (by decide +kernel))
theorem i_303 : (Jvm.Cond.methodLink "NeighbourDesk" (238 : Nat) ({ cls := "NeighbourDesk", name := "takeInForOwn", desc := "()V" } : Jvm.MethodName)) ∈ lw_tbl := List.mem_append_right _ (List.mem_of_getElem? (i := 303) (by decide +kernel))
theorem i_304 : (Jvm.Cond.privateMethod ({ cls := "NeighbourDesk", name := "takeInForOwn", desc := "()V" } : Jvm.MethodName)) ∈ lw_tbl := List.mem_append_right _ (List.mem_of_getElem? (i := 304) (by decide +kernel))
theorem i_305 : (Jvm.Cond.instanceMethod ({ cls := "NeighbourDesk", name := "takeInForOwn", desc := "()V" } : Jvm.MethodName)) ∈ lw_tbl := List.mem_append_right _ (List.mem_of_getElem? (i := 305) (by decide +kernel))
theorem i_306 : (Jvm.Cond.code ({ cls := "NeighbourDesk", name := "takeInForOwn", desc := "()V" } : Jvm.MethodName) prog_1_method_25_code (2 : Nat) (Option.none : Option Jvm.ClassFile.FieldType)) ∈ lw_tbl := List.mem_append_right _ (List.mem_of_getElem? (i := 306) (by decide +kernel))
theorem i_307 : (Jvm.Cond.methodLink "NeighbourDesk" (251 : Nat) ({ cls := "NeighbourDesk$Cache", name := "makeRoom", desc := "()Z" } : Jvm.MethodName)) ∈ lw_tbl := List.mem_append_right _ (List.mem_of_getElem? (i := 307) (by decide +kernel))
theorem i_308 : (Jvm.Cond.instanceMethod ({ cls := "NeighbourDesk$Cache", name := "makeRoom", desc := "()Z" } : Jvm.MethodName)) ∈ lw_tbl := List.mem_append_right _ (List.mem_of_getElem? (i := 308) (by decide +kernel))
theorem i_309 : (Jvm.Cond.selects "NeighbourDesk$Cache" ({ cls := "NeighbourDesk$Cache", name := "makeRoom", desc := "()Z" } : Jvm.MethodName) ({ cls := "NeighbourDesk$Cache", name := "makeRoom", desc := "()Z" } : Jvm.MethodName)) ∈ lw_tbl := List.mem_append_right _ (List.mem_of_getElem? (i := 309) (by decide +kernel))
theorem i_310 : (Jvm.Cond.code ({ cls := "NeighbourDesk$Cache", name := "makeRoom", desc := "()Z" } : Jvm.MethodName) prog_2_method_4_code (2 : Nat) (Option.some Jvm.ClassFile.FieldType.boolean)) ∈ lw_tbl := List.mem_append_right _ (List.mem_of_getElem? (i := 310) (by decide +kernel))
theorem i_311 : (Jvm.Cond.methodLink "NeighbourDesk$Cache" (31 : Nat) ({ cls := "NeighbourDesk$Cache", name := "remove", desc := "(I)V" } : Jvm.MethodName)) ∈ lw_tbl := List.mem_append_right _ (List.mem_of_getElem? (i := 311) (by decide +kernel))
theorem i_312 : (Jvm.Cond.instanceMethod ({ cls := "NeighbourDesk$Cache", name := "remove", desc := "(I)V" } : Jvm.MethodName)) ∈ lw_tbl := List.mem_append_right _ (List.mem_of_getElem? (i := 312) (by decide +kernel))
theorem i_313 : (Jvm.Cond.selects "NeighbourDesk$Cache" ({ cls := "NeighbourDesk$Cache", name := "remove", desc := "(I)V" } : Jvm.MethodName) ({ cls := "NeighbourDesk$Cache", name := "remove", desc := "(I)V" } : Jvm.MethodName)) ∈ lw_tbl := List.mem_append_right _ (List.mem_of_getElem? (i := 313) (by decide +kernel))
theorem i_314 : (Jvm.Cond.code ({ cls := "NeighbourDesk$Cache", name := "remove", desc := "(I)V" } : Jvm.MethodName) prog_2_method_7_code (2 : Nat) (Option.none : Option Jvm.ClassFile.FieldType)) ∈ lw_tbl := List.mem_append_right _ (List.mem_of_getElem? (i := 314) (by decide +kernel))
theorem i_315 : (Jvm.Cond.methodLink "NeighbourDesk$Cache" (46 : Nat) ({ cls := "NeighbourDesk$Cache", name := "moveToEnd", desc := "(I)LNeighbourDesk$Entry;" } : Jvm.MethodName)) ∈ lw_tbl := List.mem_append_right _ (List.mem_of_getElem? (i := 315) (by decide +kernel))
theorem i_316 : (Jvm.Cond.privateMethod ({ cls := "NeighbourDesk$Cache", name := "moveToEnd", desc := "(I)LNeighbourDesk$Entry;" } : Jvm.MethodName)) ∈ lw_tbl := List.mem_append_right _ (List.mem_of_getElem? (i := 316) (by decide +kernel))
theorem i_317 : (Jvm.Cond.instanceMethod ({ cls := "NeighbourDesk$Cache", name := "moveToEnd", desc := "(I)LNeighbourDesk$Entry;" } : Jvm.MethodName)) ∈ lw_tbl := List.mem_append_right _ (List.mem_of_getElem? (i := 317) (by decide +kernel))
theorem i_318 : (Jvm.Cond.code ({ cls := "NeighbourDesk$Cache", name := "moveToEnd", desc := "(I)LNeighbourDesk$Entry;" } : Jvm.MethodName) prog_2_method_8_code (4 : Nat) (Option.some (Jvm.ClassFile.FieldType.object "NeighbourDesk$Entry"))) ∈ lw_tbl := List.mem_append_right _ (List.mem_of_getElem? (i := 318) (by decide +kernel))
theorem i_319 : (Jvm.Cond.methodLink "NeighbourDesk" (254 : Nat) ({ cls := "NeighbourDesk$Cache", name := "add", desc := "(IJII)LNeighbourDesk$Entry;" } : Jvm.MethodName)) ∈ lw_tbl := List.mem_append_right _ (List.mem_of_getElem? (i := 319) (by decide +kernel))
theorem i_320 : (Jvm.Cond.instanceMethod ({ cls := "NeighbourDesk$Cache", name := "add", desc := "(IJII)LNeighbourDesk$Entry;" } : Jvm.MethodName)) ∈ lw_tbl := List.mem_append_right _ (List.mem_of_getElem? (i := 320) (by decide +kernel))
theorem i_321 : (Jvm.Cond.selects "NeighbourDesk$Cache" ({ cls := "NeighbourDesk$Cache", name := "add", desc := "(IJII)LNeighbourDesk$Entry;" } : Jvm.MethodName) ({ cls := "NeighbourDesk$Cache", name := "add", desc := "(IJII)LNeighbourDesk$Entry;" } : Jvm.MethodName)) ∈ lw_tbl := List.mem_append_right _ (List.mem_of_getElem? (i := 321) (by decide +kernel))
theorem i_322 : (Jvm.Cond.code ({ cls := "NeighbourDesk$Cache", name := "add", desc := "(IJII)LNeighbourDesk$Entry;" } : Jvm.MethodName) prog_2_method_5_code (7 : Nat) (Option.some (Jvm.ClassFile.FieldType.object "NeighbourDesk$Entry"))) ∈ lw_tbl := List.mem_append_right _ (List.mem_of_getElem? (i := 322) (by decide +kernel))
theorem i_323 : (Jvm.Cond.methodLink "NeighbourDesk$Cache" (42 : Nat) ({ cls := "NeighbourDesk$Entry", name := "become", desc := "(II)V" } : Jvm.MethodName)) ∈ lw_tbl := List.mem_append_right _ (List.mem_of_getElem? (i := 323) (by decide +kernel))
theorem i_324 : (Jvm.Cond.methodLink "NeighbourDeskLaw" (104 : Nat) ({ cls := "NeighbourDesk", name := "release", desc := "()Z" } : Jvm.MethodName)) ∈ lw_tbl := List.mem_append_right _ (List.mem_of_getElem? (i := 324) (by decide +kernel))
theorem i_325 : (Jvm.Cond.instanceMethod ({ cls := "NeighbourDesk", name := "release", desc := "()Z" } : Jvm.MethodName)) ∈ lw_tbl := List.mem_append_right _ (List.mem_of_getElem? (i := 325) (by decide +kernel))
theorem i_326 : (Jvm.Cond.selects "NeighbourDesk" ({ cls := "NeighbourDesk", name := "release", desc := "()Z" } : Jvm.MethodName) ({ cls := "NeighbourDesk", name := "release", desc := "()Z" } : Jvm.MethodName)) ∈ lw_tbl := List.mem_append_right _ (List.mem_of_getElem? (i := 326) (by decide +kernel))
theorem i_327 : (Jvm.Cond.code ({ cls := "NeighbourDesk", name := "release", desc := "()Z" } : Jvm.MethodName) prog_1_method_7_code (2 : Nat) (Option.some Jvm.ClassFile.FieldType.boolean)) ∈ lw_tbl := List.mem_append_right _ (List.mem_of_getElem? (i := 327) (by decide +kernel))
theorem i_328 : (Jvm.Cond.methodLink "NeighbourDeskLaw" (129 : Nat) ({ cls := "NeighbourDesk", name := "knows", desc := "(I)Z" } : Jvm.MethodName)) ∈ lw_tbl := List.mem_append_right _ (List.mem_of_getElem? (i := 328) (by decide +kernel))
theorem i_329 : (Jvm.Cond.instanceMethod ({ cls := "NeighbourDesk", name := "knows", desc := "(I)Z" } : Jvm.MethodName)) ∈ lw_tbl := List.mem_append_right _ (List.mem_of_getElem? (i := 329) (by decide +kernel))
theorem i_330 : (Jvm.Cond.selects "NeighbourDesk" ({ cls := "NeighbourDesk", name := "knows", desc := "(I)Z" } : Jvm.MethodName) ({ cls := "NeighbourDesk", name := "knows", desc := "(I)Z" } : Jvm.MethodName)) ∈ lw_tbl := List.mem_append_right _ (List.mem_of_getElem? (i := 330) (by decide +kernel))
theorem i_331 : (Jvm.Cond.code ({ cls := "NeighbourDesk", name := "knows", desc := "(I)Z" } : Jvm.MethodName) prog_1_method_14_code (3 : Nat) (Option.some Jvm.ClassFile.FieldType.boolean)) ∈ lw_tbl := List.mem_append_right _ (List.mem_of_getElem? (i := 331) (by decide +kernel))
theorem i_332 : (Jvm.Cond.methodLink "NeighbourDeskLaw" (65 : Nat) ({ cls := "NeighbourDeskLaw", name := "cell", desc := "([II)I" } : Jvm.MethodName)) ∈ lw_tbl := List.mem_append_right _ (List.mem_of_getElem? (i := 332) (by decide +kernel))
theorem i_333 : (Jvm.Cond.static ({ cls := "NeighbourDeskLaw", name := "cell", desc := "([II)I" } : Jvm.MethodName)) ∈ lw_tbl := List.mem_append_right _ (List.mem_of_getElem? (i := 333) (by decide +kernel))
theorem i_334 : (Jvm.Cond.code ({ cls := "NeighbourDeskLaw", name := "cell", desc := "([II)I" } : Jvm.MethodName) method_2_code (2 : Nat) (Option.some Jvm.ClassFile.FieldType.int)) ∈ lw_tbl := List.mem_append_right _ (List.mem_of_getElem? (i := 334) (by decide +kernel))
theorem i_335 : (Jvm.Cond.methodLink "NeighbourDeskLaw" (79 : Nat) ({ cls := "NeighbourDeskLaw", name := "here", desc := "(LNeighbourDesk;J)I" } : Jvm.MethodName)) ∈ lw_tbl := List.mem_append_right _ (List.mem_of_getElem? (i := 335) (by decide +kernel))
theorem i_336 : (Jvm.Cond.static ({ cls := "NeighbourDeskLaw", name := "here", desc := "(LNeighbourDesk;J)I" } : Jvm.MethodName)) ∈ lw_tbl := List.mem_append_right _ (List.mem_of_getElem? (i := 336) (by decide +kernel))
theorem i_337 : (Jvm.Cond.codeWith ({ cls := "NeighbourDeskLaw", name := "here", desc := "(LNeighbourDesk;J)I" } : Jvm.MethodName) method_3_code (4 : Nat) (Option.some Jvm.ClassFile.FieldType.int) [((0 : Nat), (5 : Nat), (8 : Nat), (13 : Nat)), ((0 : Nat), (5 : Nat), (11 : Nat), (15 : Nat))]) ∈ lw_tbl := List.mem_append_right _ (List.mem_of_getElem? (i := 337) (by decide +kernel))
theorem i_338 : (Jvm.Cond.classLink "NeighbourDeskLaw" (13 : Nat) "java/lang/IllegalArgumentException") ∈ lw_tbl := List.mem_append_right _ (List.mem_of_getElem? (i := 338) (by decide +kernel))
theorem i_339 : (Jvm.Cond.classLink "NeighbourDeskLaw" (15 : Nat) "java/lang/IllegalStateException") ∈ lw_tbl := List.mem_append_right _ (List.mem_of_getElem? (i := 339) (by decide +kernel))
theorem i_340 : (Jvm.Cond.methodLink "NeighbourDeskLaw" (7 : Nat) ({ cls := "NeighbourDesk", name := "here", desc := "(J)V" } : Jvm.MethodName)) ∈ lw_tbl := List.mem_append_right _ (List.mem_of_getElem? (i := 340) (by decide +kernel))
theorem i_341 : (Jvm.Cond.instanceMethod ({ cls := "NeighbourDesk", name := "here", desc := "(J)V" } : Jvm.MethodName)) ∈ lw_tbl := List.mem_append_right _ (List.mem_of_getElem? (i := 341) (by decide +kernel))
theorem i_342 : (Jvm.Cond.selects "NeighbourDesk" ({ cls := "NeighbourDesk", name := "here", desc := "(J)V" } : Jvm.MethodName) ({ cls := "NeighbourDesk", name := "here", desc := "(J)V" } : Jvm.MethodName)) ∈ lw_tbl := List.mem_append_right _ (List.mem_of_getElem? (i := 342) (by decide +kernel))
theorem i_343 : (Jvm.Cond.code ({ cls := "NeighbourDesk", name := "here", desc := "(J)V" } : Jvm.MethodName) prog_1_method_2_code (3 : Nat) (Option.none : Option Jvm.ClassFile.FieldType)) ∈ lw_tbl := List.mem_append_right _ (List.mem_of_getElem? (i := 343) (by decide +kernel))
theorem i_344 : (Jvm.Cond.classLink "NeighbourDesk" (78 : Nat) "java/lang/IllegalArgumentException") ∈ lw_tbl := List.mem_append_right _ (List.mem_of_getElem? (i := 344) (by decide +kernel))
theorem i_345 : (Jvm.Cond.instantiable "java/lang/IllegalArgumentException" (6 : Nat)) ∈ lw_tbl := List.mem_append_right _ (List.mem_of_getElem? (i := 345) (by decide +kernel))
theorem i_346 : (Jvm.Cond.castable "java/lang/IllegalArgumentException" "java/lang/IllegalArgumentException") ∈ lw_tbl := List.mem_append_right _ (List.mem_of_getElem? (i := 346) (by decide +kernel))
theorem i_347 : (Jvm.Cond.declares ({ cls := "java/lang/RuntimeException", name := "<init>", desc := "()V" } : Jvm.MethodName)) ∈ lw_tbl := List.mem_append_right _ (List.mem_of_getElem? (i := 347) (by decide +kernel))
theorem i_348 : (Jvm.Cond.declares ({ cls := "java/lang/RuntimeException", name := "<init>", desc := "(Ljava/lang/String;)V" } : Jvm.MethodName)) ∈ lw_tbl := List.mem_append_right _ (List.mem_of_getElem? (i := 348) (by decide +kernel))
theorem i_349 : (Jvm.Cond.declares ({ cls := "java/lang/Exception", name := "<init>", desc := "()V" } : Jvm.MethodName)) ∈ lw_tbl := List.mem_append_right _ (List.mem_of_getElem? (i := 349) (by decide +kernel))
theorem i_350 : (Jvm.Cond.declares ({ cls := "java/lang/Exception", name := "<init>", desc := "(Ljava/lang/String;)V" } : Jvm.MethodName)) ∈ lw_tbl := List.mem_append_right _ (List.mem_of_getElem? (i := 350) (by decide +kernel))
theorem i_351 : (Jvm.Cond.declares ({ cls := "java/lang/Throwable", name := "<init>", desc := "()V" } : Jvm.MethodName)) ∈ lw_tbl := List.mem_append_right _ (List.mem_of_getElem? (i := 351) (by decide +kernel))
theorem i_352 : (Jvm.Cond.declares ({ cls := "java/lang/Throwable", name := "<init>", desc := "(Ljava/lang/String;)V" } : Jvm.MethodName)) ∈ lw_tbl := List.mem_append_right _ (List.mem_of_getElem? (i := 352) (by decide +kernel))
theorem i_353 : (Jvm.Cond.selects "java/lang/IllegalArgumentException" ({ cls := "java/lang/Throwable", name := "fillInStackTrace", desc := "(I)Ljava/lang/Throwable;" } : Jvm.MethodName) ({ cls := "java/lang/Throwable", name := "fillInStackTrace", desc := "(I)Ljava/lang/Throwable;" } : Jvm.MethodName)) ∈ lw_tbl := List.mem_append_right _ (List.mem_of_getElem? (i := 353) (by decide +kernel))
theorem i_354 : (Jvm.Cond.selects "java/lang/IllegalArgumentException" ({ cls := "java/lang/Throwable", name := "fillInStackTrace", desc := "()Ljava/lang/Throwable;" } : Jvm.MethodName) ({ cls := "java/lang/Throwable", name := "fillInStackTrace", desc := "()Ljava/lang/Throwable;" } : Jvm.MethodName)) ∈ lw_tbl := List.mem_append_right _ (List.mem_of_getElem? (i := 354) (by decide +kernel))
theorem i_365 : (Jvm.Cond.fieldLink "java/lang/Throwable" (198 : Nat) "java/lang/Throwable" "backtrace" "Ljava/lang/Object;") ∈ lw_tbl := List.mem_append_right _ (List.mem_of_getElem? (i := 365) (by decide +kernel))
theorem i_366 : (Jvm.Cond.superclass "java/lang/Throwable" "java/lang/Object") ∈ lw_tbl := List.mem_append_right _ (List.mem_of_getElem? (i := 366) (by decide +kernel))
theorem i_367 : (Jvm.Cond.instanceMethod ({ cls := "java/lang/Throwable", name := "<init>", desc := "()V" } : Jvm.MethodName)) ∈ lw_tbl := List.mem_append_right _ (List.mem_of_getElem? (i := 367) (by decide +kernel))
theorem i_368 : (Jvm.Cond.code ({ cls := "java/lang/Throwable", name := "<init>", desc := "()V" } : Jvm.MethodName) prog_18_method_1_code (1 : Nat) (Option.none : Option Jvm.ClassFile.FieldType)) ∈ lw_tbl := List.mem_append_right _ (List.mem_of_getElem? (i := 368) (by decide +kernel))
theorem i_369 : (Jvm.Cond.methodLink "java/lang/Throwable" (1 : Nat) ({ cls := "java/lang/Object", name := "<init>", desc := "()V" } : Jvm.MethodName)) ∈ lw_tbl := List.mem_append_right _ (List.mem_of_getElem? (i := 369) (by decide +kernel))
theorem i_370 : (Jvm.Cond.fieldLink "java/lang/Throwable" (13 : Nat) "java/lang/Throwable" "UNASSIGNED_STACK" "[Ljava/lang/StackTraceElement;") ∈ lw_tbl := List.mem_append_right _ (List.mem_of_getElem? (i := 370) (by decide +kernel))
theorem i_371 : (Jvm.Cond.laysStatic "java/lang/Throwable" "UNASSIGNED_STACK" "[Ljava/lang/StackTraceElement;") ∈ lw_tbl := List.mem_append_right _ (List.mem_of_getElem? (i := 371) (by decide +kernel))
theorem i_372 : (Jvm.Cond.fieldLink "java/lang/Throwable" (20 : Nat) "java/lang/Throwable" "SUPPRESSED_SENTINEL" "Ljava/util/List;") ∈ lw_tbl := List.mem_append_right _ (List.mem_of_getElem? (i := 372) (by decide +kernel))
theorem i_373 : (Jvm.Cond.laysStatic "java/lang/Throwable" "SUPPRESSED_SENTINEL" "Ljava/util/List;") ∈ lw_tbl := List.mem_append_right _ (List.mem_of_getElem? (i := 373) (by decide +kernel))
theorem i_374 : (Jvm.Cond.methodLink "java/lang/Throwable" (27 : Nat) ({ cls := "java/lang/Throwable", name := "fillInStackTrace", desc := "()Ljava/lang/Throwable;" } : Jvm.MethodName)) ∈ lw_tbl := List.mem_append_right _ (List.mem_of_getElem? (i := 374) (by decide +kernel))
theorem i_375 : (Jvm.Cond.instanceMethod ({ cls := "java/lang/Throwable", name := "fillInStackTrace", desc := "()Ljava/lang/Throwable;" } : Jvm.MethodName)) ∈ lw_tbl := List.mem_append_right _ (List.mem_of_getElem? (i := 375) (by decide +kernel))
theorem i_376 : (Jvm.Cond.sameMethod "java/lang/Throwable" "java/lang/Throwable" "fillInStackTrace" "()Ljava/lang/Throwable;") ∈ lw_tbl := List.mem_append_right _ (List.mem_of_getElem? (i := 376) (by decide +kernel))
theorem i_377 : (Jvm.Cond.selects "java/lang/IllegalStateException" ({ cls := "java/lang/Throwable", name := "fillInStackTrace", desc := "()Ljava/lang/Throwable;" } : Jvm.MethodName) ({ cls := "java/lang/Throwable", name := "fillInStackTrace", desc := "()Ljava/lang/Throwable;" } : Jvm.MethodName)) ∈ lw_tbl := List.mem_append_right _ (List.mem_of_getElem? (i := 377) (by decide +kernel))
theorem i_378 : (Jvm.Cond.selects "java/lang/IndexOutOfBoundsException" ({ cls := "java/lang/Throwable", name := "fillInStackTrace", desc := "()Ljava/lang/Throwable;" } : Jvm.MethodName) ({ cls := "java/lang/Throwable", name := "fillInStackTrace", desc := "()Ljava/lang/Throwable;" } : Jvm.MethodName)) ∈ lw_tbl := List.mem_append_right _ (List.mem_of_getElem? (i := 378) (by decide +kernel))
theorem i_379 : (Jvm.Cond.selects "java/util/NoSuchElementException" ({ cls := "java/lang/Throwable", name := "fillInStackTrace", desc := "()Ljava/lang/Throwable;" } : Jvm.MethodName) ({ cls := "java/lang/Throwable", name := "fillInStackTrace", desc := "()Ljava/lang/Throwable;" } : Jvm.MethodName)) ∈ lw_tbl := List.mem_append_right _ (List.mem_of_getElem? (i := 379) (by decide +kernel))
theorem i_380 : (Jvm.Cond.codeSync ({ cls := "java/lang/Throwable", name := "fillInStackTrace", desc := "()Ljava/lang/Throwable;" } : Jvm.MethodName) prog_18_method_18_code (1 : Nat) (Option.some (Jvm.ClassFile.FieldType.object "java/lang/Throwable"))) ∈ lw_tbl := List.mem_append_right _ (List.mem_of_getElem? (i := 380) (by decide +kernel))
theorem i_381 : (Jvm.Cond.methodLink "java/lang/Throwable" (202 : Nat) ({ cls := "java/lang/Throwable", name := "fillInStackTrace", desc := "(I)Ljava/lang/Throwable;" } : Jvm.MethodName)) ∈ lw_tbl := List.mem_append_right _ (List.mem_of_getElem? (i := 381) (by decide +kernel))
theorem i_382 : (Jvm.Cond.privateMethod ({ cls := "java/lang/Throwable", name := "fillInStackTrace", desc := "(I)Ljava/lang/Throwable;" } : Jvm.MethodName)) ∈ lw_tbl := List.mem_append_right _ (List.mem_of_getElem? (i := 382) (by decide +kernel))
theorem i_383 : (Jvm.Cond.instanceMethod ({ cls := "java/lang/Throwable", name := "fillInStackTrace", desc := "(I)Ljava/lang/Throwable;" } : Jvm.MethodName)) ∈ lw_tbl := List.mem_append_right _ (List.mem_of_getElem? (i := 383) (by decide +kernel))
theorem i_384 : (Jvm.Cond.instantiable "java/lang/Throwable" (6 : Nat)) ∈ lw_tbl := List.mem_append_right _ (List.mem_of_getElem? (i := 384) (by decide +kernel))
theorem i_385 : (Jvm.Cond.native ({ cls := "java/lang/Throwable", name := "fillInStackTrace", desc := "(I)Ljava/lang/Throwable;" } : Jvm.MethodName)) ∈ lw_tbl := List.mem_append_right _ (List.mem_of_getElem? (i := 385) (by decide +kernel))
theorem i_386 : (Jvm.Cond.methodLink "NeighbourDesk" (80 : Nat) ({ cls := "java/lang/IllegalArgumentException", name := "<init>", desc := "()V" } : Jvm.MethodName)) ∈ lw_tbl := List.mem_append_right _ (List.mem_of_getElem? (i := 386) (by decide +kernel))
theorem i_387 : (Jvm.Cond.instanceMethod ({ cls := "java/lang/IllegalArgumentException", name := "<init>", desc := "()V" } : Jvm.MethodName)) ∈ lw_tbl := List.mem_append_right _ (List.mem_of_getElem? (i := 387) (by decide +kernel))
theorem i_388 : (Jvm.Cond.code ({ cls := "java/lang/IllegalArgumentException", name := "<init>", desc := "()V" } : Jvm.MethodName) prog_13_method_1_code (1 : Nat) (Option.none : Option Jvm.ClassFile.FieldType)) ∈ lw_tbl := List.mem_append_right _ (List.mem_of_getElem? (i := 388) (by decide +kernel))
theorem i_389 : (Jvm.Cond.methodLink "java/lang/IllegalArgumentException" (1 : Nat) ({ cls := "java/lang/RuntimeException", name := "<init>", desc := "()V" } : Jvm.MethodName)) ∈ lw_tbl := List.mem_append_right _ (List.mem_of_getElem? (i := 389) (by decide +kernel))
theorem i_390 : (Jvm.Cond.instanceMethod ({ cls := "java/lang/RuntimeException", name := "<init>", desc := "()V" } : Jvm.MethodName)) ∈ lw_tbl := List.mem_append_right _ (List.mem_of_getElem? (i := 390) (by decide +kernel))
theorem i_391 : (Jvm.Cond.code ({ cls := "java/lang/RuntimeException", name := "<init>", desc := "()V" } : Jvm.MethodName) prog_17_method_1_code (1 : Nat) (Option.none : Option Jvm.ClassFile.FieldType)) ∈ lw_tbl := List.mem_append_right _ (List.mem_of_getElem? (i := 391) (by decide +kernel))
theorem i_392 : (Jvm.Cond.methodLink "java/lang/RuntimeException" (1 : Nat) ({ cls := "java/lang/Exception", name := "<init>", desc := "()V" } : Jvm.MethodName)) ∈ lw_tbl := List.mem_append_right _ (List.mem_of_getElem? (i := 392) (by decide +kernel))
theorem i_393 : (Jvm.Cond.instanceMethod ({ cls := "java/lang/Exception", name := "<init>", desc := "()V" } : Jvm.MethodName)) ∈ lw_tbl := List.mem_append_right _ (List.mem_of_getElem? (i := 393) (by decide +kernel))
theorem i_394 : (Jvm.Cond.code ({ cls := "java/lang/Exception", name := "<init>", desc := "()V" } : Jvm.MethodName) prog_12_method_1_code (1 : Nat) (Option.none : Option Jvm.ClassFile.FieldType)) ∈ lw_tbl := List.mem_append_right _ (List.mem_of_getElem? (i := 394) (by decide +kernel))
theorem i_395 : (Jvm.Cond.methodLink "java/lang/Exception" (1 : Nat) ({ cls := "java/lang/Throwable", name := "<init>", desc := "()V" } : Jvm.MethodName)) ∈ lw_tbl := List.mem_append_right _ (List.mem_of_getElem? (i := 395) (by decide +kernel))
theorem i_396 : (Jvm.Cond.fieldLink "java/lang/Throwable" (198 : Nat) "java/lang/Throwable" "backtrace" "Ljava/lang/Object;") ∈ lw_tbl := List.mem_append_right _ (List.mem_of_getElem? (i := 396) (by decide +kernel))
theorem i_397 : (Jvm.Cond.fieldLink "java/lang/Throwable" (7 : Nat) "java/lang/Throwable" "cause" "Ljava/lang/Throwable;") ∈ lw_tbl := List.mem_append_right _ (List.mem_of_getElem? (i := 397) (by decide +kernel))
theorem i_398 : (Jvm.Cond.fieldLink "java/lang/Throwable" (17 : Nat) "java/lang/Throwable" "stackTrace" "[Ljava/lang/StackTraceElement;") ∈ lw_tbl := List.mem_append_right _ (List.mem_of_getElem? (i := 398) (by decide +kernel))
theorem i_399 : (Jvm.Cond.fieldLink "java/lang/Throwable" (24 : Nat) "java/lang/Throwable" "suppressedExceptions" "Ljava/util/List;") ∈ lw_tbl := List.mem_append_right _ (List.mem_of_getElem? (i := 399) (by decide +kernel))
theorem i_407 : (Jvm.Cond.superclass "java/lang/IllegalArgumentException" "java/lang/RuntimeException") ∈ lw_tbl := List.mem_append_right _ (List.mem_of_getElem? (i := 407) (by decide +kernel))
theorem i_408 : (Jvm.Cond.classLink "NeighbourDesk" (81 : Nat) "java/lang/IllegalStateException") ∈ lw_tbl := List.mem_append_right _ (List.mem_of_getElem? (i := 408) (by decide +kernel))
theorem i_409 : (Jvm.Cond.instantiable "java/lang/IllegalStateException" (6 : Nat)) ∈ lw_tbl := List.mem_append_right _ (List.mem_of_getElem? (i := 409) (by decide +kernel))
theorem i_410 : (Jvm.Cond.castable "java/lang/IllegalStateException" "java/lang/IllegalStateException") ∈ lw_tbl := List.mem_append_right _ (List.mem_of_getElem? (i := 410) (by decide +kernel))
theorem i_411 : (Jvm.Cond.selects "java/lang/IllegalStateException" ({ cls := "java/lang/Throwable", name := "fillInStackTrace", desc := "(I)Ljava/lang/Throwable;" } : Jvm.MethodName) ({ cls := "java/lang/Throwable", name := "fillInStackTrace", desc := "(I)Ljava/lang/Throwable;" } : Jvm.MethodName)) ∈ lw_tbl := List.mem_append_right _ (List.mem_of_getElem? (i := 411) (by decide +kernel))
theorem i_417 : (Jvm.Cond.methodLink "NeighbourDesk" (83 : Nat) ({ cls := "java/lang/IllegalStateException", name := "<init>", desc := "()V" } : Jvm.MethodName)) ∈ lw_tbl := List.mem_append_right _ (List.mem_of_getElem? (i := 417) (by decide +kernel))
theorem i_418 : (Jvm.Cond.instanceMethod ({ cls := "java/lang/IllegalStateException", name := "<init>", desc := "()V" } : Jvm.MethodName)) ∈ lw_tbl := List.mem_append_right _ (List.mem_of_getElem? (i := 418) (by decide +kernel))
theorem i_419 : (Jvm.Cond.code ({ cls := "java/lang/IllegalStateException", name := "<init>", desc := "()V" } : Jvm.MethodName) prog_14_method_1_code (1 : Nat) (Option.none : Option Jvm.ClassFile.FieldType)) ∈ lw_tbl := List.mem_append_right _ (List.mem_of_getElem? (i := 419) (by decide +kernel))
theorem i_420 : (Jvm.Cond.methodLink "java/lang/IllegalStateException" (1 : Nat) ({ cls := "java/lang/RuntimeException", name := "<init>", desc := "()V" } : Jvm.MethodName)) ∈ lw_tbl := List.mem_append_right _ (List.mem_of_getElem? (i := 420) (by decide +kernel))
theorem i_422 : (Jvm.Cond.superclass "java/lang/IllegalStateException" "java/lang/RuntimeException") ∈ lw_tbl := List.mem_append_right _ (List.mem_of_getElem? (i := 422) (by decide +kernel))
theorem i_423 : (Jvm.Cond.methodLink "NeighbourDeskLaw" (87 : Nat) ({ cls := "NeighbourDeskLaw", name := "type", desc := "(LNeighbourDesk;JI[J)I" } : Jvm.MethodName)) ∈ lw_tbl := List.mem_append_right _ (List.mem_of_getElem? (i := 423) (by decide +kernel))
theorem i_424 : (Jvm.Cond.static ({ cls := "NeighbourDeskLaw", name := "type", desc := "(LNeighbourDesk;JI[J)I" } : Jvm.MethodName)) ∈ lw_tbl := List.mem_append_right _ (List.mem_of_getElem? (i := 424) (by decide +kernel))
theorem i_425 : (Jvm.Cond.codeWith ({ cls := "NeighbourDeskLaw", name := "type", desc := "(LNeighbourDesk;JI[J)I" } : Jvm.MethodName) method_4_code (6 : Nat) (Option.some Jvm.ClassFile.FieldType.int) [((0 : Nat), (11 : Nat), (14 : Nat), (13 : Nat)), ((0 : Nat), (11 : Nat), (18 : Nat), (15 : Nat))]) ∈ lw_tbl := List.mem_append_right _ (List.mem_of_getElem? (i := 425) (by decide +kernel))
theorem i_426 : (Jvm.Cond.methodLink "NeighbourDeskLaw" (17 : Nat) ({ cls := "NeighbourDesk", name := "type", desc := "(JI)I" } : Jvm.MethodName)) ∈ lw_tbl := List.mem_append_right _ (List.mem_of_getElem? (i := 426) (by decide +kernel))
theorem i_427 : (Jvm.Cond.instanceMethod ({ cls := "NeighbourDesk", name := "type", desc := "(JI)I" } : Jvm.MethodName)) ∈ lw_tbl := List.mem_append_right _ (List.mem_of_getElem? (i := 427) (by decide +kernel))
theorem i_428 : (Jvm.Cond.selects "NeighbourDesk" ({ cls := "NeighbourDesk", name := "type", desc := "(JI)I" } : Jvm.MethodName) ({ cls := "NeighbourDesk", name := "type", desc := "(JI)I" } : Jvm.MethodName)) ∈ lw_tbl := List.mem_append_right _ (List.mem_of_getElem? (i := 428) (by decide +kernel))
theorem i_429 : (Jvm.Cond.code ({ cls := "NeighbourDesk", name := "type", desc := "(JI)I" } : Jvm.MethodName) prog_1_method_3_code (4 : Nat) (Option.some Jvm.ClassFile.FieldType.int)) ∈ lw_tbl := List.mem_append_right _ (List.mem_of_getElem? (i := 429) (by decide +kernel))
theorem i_430 : (Jvm.Cond.methodLink "NeighbourDesk" (84 : Nat) ({ cls := "NeighbourDesk$Tape", name := "hasRoomFor", desc := "(I)Z" } : Jvm.MethodName)) ∈ lw_tbl := List.mem_append_right _ (List.mem_of_getElem? (i := 430) (by decide +kernel))
theorem i_431 : (Jvm.Cond.instanceMethod ({ cls := "NeighbourDesk$Tape", name := "hasRoomFor", desc := "(I)Z" } : Jvm.MethodName)) ∈ lw_tbl := List.mem_append_right _ (List.mem_of_getElem? (i := 431) (by decide +kernel))
theorem i_432 : (Jvm.Cond.selects "NeighbourDesk$Tape" ({ cls := "NeighbourDesk$Tape", name := "hasRoomFor", desc := "(I)Z" } : Jvm.MethodName) ({ cls := "NeighbourDesk$Tape", name := "hasRoomFor", desc := "(I)Z" } : Jvm.MethodName)) ∈ lw_tbl := List.mem_append_right _ (List.mem_of_getElem? (i := 432) (by decide +kernel))
theorem i_433 : (Jvm.Cond.code ({ cls := "NeighbourDesk$Tape", name := "hasRoomFor", desc := "(I)Z" } : Jvm.MethodName) prog_7_method_2_code (2 : Nat) (Option.some Jvm.ClassFile.FieldType.boolean)) ∈ lw_tbl := List.mem_append_right _ (List.mem_of_getElem? (i := 433) (by decide +kernel))
theorem i_434 : (Jvm.Cond.methodLink "NeighbourDesk" (88 : Nat) ({ cls := "NeighbourDesk$Tape", name := "append", desc := "(JI)V" } : Jvm.MethodName)) ∈ lw_tbl := List.mem_append_right _ (List.mem_of_getElem? (i := 434) (by decide +kernel))
theorem i_435 : (Jvm.Cond.instanceMethod ({ cls := "NeighbourDesk$Tape", name := "append", desc := "(JI)V" } : Jvm.MethodName)) ∈ lw_tbl := List.mem_append_right _ (List.mem_of_getElem? (i := 435) (by decide +kernel))
theorem i_436 : (Jvm.Cond.selects "NeighbourDesk$Tape" ({ cls := "NeighbourDesk$Tape", name := "append", desc := "(JI)V" } : Jvm.MethodName) ({ cls := "NeighbourDesk$Tape", name := "append", desc := "(JI)V" } : Jvm.MethodName)) ∈ lw_tbl := List.mem_append_right _ (List.mem_of_getElem? (i := 436) (by decide +kernel))
theorem i_437 : (Jvm.Cond.code ({ cls := "NeighbourDesk$Tape", name := "append", desc := "(JI)V" } : Jvm.MethodName) prog_7_method_3_code (5 : Nat) (Option.none : Option Jvm.ClassFile.FieldType)) ∈ lw_tbl := List.mem_append_right _ (List.mem_of_getElem? (i := 437) (by decide +kernel))
theorem i_438 : (Jvm.Cond.methodLink "NeighbourDeskLaw" (100 : Nat) ({ cls := "NeighbourDeskLaw", name := "claim", desc := "(LNeighbourDesk;I)I" } : Jvm.MethodName)) ∈ lw_tbl := List.mem_append_right _ (List.mem_of_getElem? (i := 438) (by decide +kernel))
theorem i_439 : (Jvm.Cond.static ({ cls := "NeighbourDeskLaw", name := "claim", desc := "(LNeighbourDesk;I)I" } : Jvm.MethodName)) ∈ lw_tbl := List.mem_append_right _ (List.mem_of_getElem? (i := 439) (by decide +kernel))
theorem i_440 : (Jvm.Cond.codeWith ({ cls := "NeighbourDeskLaw", name := "claim", desc := "(LNeighbourDesk;I)I" } : Jvm.MethodName) method_5_code (3 : Nat) (Option.some Jvm.ClassFile.FieldType.int) [((0 : Nat), (5 : Nat), (8 : Nat), (13 : Nat)), ((0 : Nat), (5 : Nat), (11 : Nat), (15 : Nat))]) ∈ lw_tbl := List.mem_append_right _ (List.mem_of_getElem? (i := 440) (by decide +kernel))
theorem i_441 : (Jvm.Cond.methodLink "NeighbourDeskLaw" (21 : Nat) ({ cls := "NeighbourDesk", name := "claim", desc := "(I)V" } : Jvm.MethodName)) ∈ lw_tbl := List.mem_append_right _ (List.mem_of_getElem? (i := 441) (by decide +kernel))
theorem i_442 : (Jvm.Cond.instanceMethod ({ cls := "NeighbourDesk", name := "claim", desc := "(I)V" } : Jvm.MethodName)) ∈ lw_tbl := List.mem_append_right _ (List.mem_of_getElem? (i := 442) (by decide +kernel))
theorem i_443 : (Jvm.Cond.selects "NeighbourDesk" ({ cls := "NeighbourDesk", name := "claim", desc := "(I)V" } : Jvm.MethodName) ({ cls := "NeighbourDesk", name := "claim", desc := "(I)V" } : Jvm.MethodName)) ∈ lw_tbl := List.mem_append_right _ (List.mem_of_getElem? (i := 443) (by decide +kernel))
theorem i_444 : (Jvm.Cond.code ({ cls := "NeighbourDesk", name := "claim", desc := "(I)V" } : Jvm.MethodName) prog_1_method_6_code (2 : Nat) (Option.none : Option Jvm.ClassFile.FieldType)) ∈ lw_tbl := List.mem_append_right _ (List.mem_of_getElem? (i := 444) (by decide +kernel))
theorem i_445 : (Jvm.Cond.methodLink "NeighbourDesk" (113 : Nat) ({ cls := "NeighbourDesk", name := "probe", desc := "()V" } : Jvm.MethodName)) ∈ lw_tbl := List.mem_append_right _ (List.mem_of_getElem? (i := 445) (by decide +kernel))
theorem i_446 : (Jvm.Cond.privateMethod ({ cls := "NeighbourDesk", name := "probe", desc := "()V" } : Jvm.MethodName)) ∈ lw_tbl := List.mem_append_right _ (List.mem_of_getElem? (i := 446) (by decide +kernel))
theorem i_447 : (Jvm.Cond.instanceMethod ({ cls := "NeighbourDesk", name := "probe", desc := "()V" } : Jvm.MethodName)) ∈ lw_tbl := List.mem_append_right _ (List.mem_of_getElem? (i := 447) (by decide +kernel))
theorem i_448 : (Jvm.Cond.code ({ cls := "NeighbourDesk", name := "probe", desc := "()V" } : Jvm.MethodName) prog_1_method_30_code (1 : Nat) (Option.none : Option Jvm.ClassFile.FieldType)) ∈ lw_tbl := List.mem_append_right _ (List.mem_of_getElem? (i := 448) (by decide +kernel))
theorem i_449 : (Jvm.Cond.methodLink "NeighbourDeskLaw" (109 : Nat) ({ cls := "NeighbourDeskLaw", name := "send", desc := "(LNeighbourDesk;II[J)I" } : Jvm.MethodName)) ∈ lw_tbl := List.mem_append_right _ (List.mem_of_getElem? (i := 449) (by decide +kernel))
theorem i_450 : (Jvm.Cond.static ({ cls := "NeighbourDeskLaw", name := "send", desc := "(LNeighbourDesk;II[J)I" } : Jvm.MethodName)) ∈ lw_tbl := List.mem_append_right _ (List.mem_of_getElem? (i := 450) (by decide +kernel))
theorem i_451 : (Jvm.Cond.codeWith ({ cls := "NeighbourDeskLaw", name := "send", desc := "(LNeighbourDesk;II[J)I" } : Jvm.MethodName) method_6_code (5 : Nat) (Option.some Jvm.ClassFile.FieldType.int) [((0 : Nat), (10 : Nat), (13 : Nat), (13 : Nat)), ((0 : Nat), (10 : Nat), (17 : Nat), (15 : Nat))]) ∈ lw_tbl := List.mem_append_right _ (List.mem_of_getElem? (i := 451) (by decide +kernel))
theorem i_452 : (Jvm.Cond.methodLink "NeighbourDeskLaw" (25 : Nat) ({ cls := "NeighbourDesk", name := "send", desc := "(II)I" } : Jvm.MethodName)) ∈ lw_tbl := List.mem_append_right _ (List.mem_of_getElem? (i := 452) (by decide +kernel))
theorem i_453 : (Jvm.Cond.instanceMethod ({ cls := "NeighbourDesk", name := "send", desc := "(II)I" } : Jvm.MethodName)) ∈ lw_tbl := List.mem_append_right _ (List.mem_of_getElem? (i := 453) (by decide +kernel))
theorem i_454 : (Jvm.Cond.selects "NeighbourDesk" ({ cls := "NeighbourDesk", name := "send", desc := "(II)I" } : Jvm.MethodName) ({ cls := "NeighbourDesk", name := "send", desc := "(II)I" } : Jvm.MethodName)) ∈ lw_tbl := List.mem_append_right _ (List.mem_of_getElem? (i := 454) (by decide +kernel))
theorem i_455 : (Jvm.Cond.code ({ cls := "NeighbourDesk", name := "send", desc := "(II)I" } : Jvm.MethodName) prog_1_method_8_code (4 : Nat) (Option.some Jvm.ClassFile.FieldType.int)) ∈ lw_tbl := List.mem_append_right _ (List.mem_of_getElem? (i := 455) (by decide +kernel))
theorem i_456 : (Jvm.Cond.methodLink "NeighbourDesk" (123 : Nat) ({ cls := "NeighbourDesk", name := "sendToStranger", desc := "(II)I" } : Jvm.MethodName)) ∈ lw_tbl := List.mem_append_right _ (List.mem_of_getElem? (i := 456) (by decide +kernel))
theorem i_457 : (Jvm.Cond.privateMethod ({ cls := "NeighbourDesk", name := "sendToStranger", desc := "(II)I" } : Jvm.MethodName)) ∈ lw_tbl := List.mem_append_right _ (List.mem_of_getElem? (i := 457) (by decide +kernel))
theorem i_458 : (Jvm.Cond.instanceMethod ({ cls := "NeighbourDesk", name := "sendToStranger", desc := "(II)I" } : Jvm.MethodName)) ∈ lw_tbl := List.mem_append_right _ (List.mem_of_getElem? (i := 458) (by decide +kernel))
theorem i_459 : (Jvm.Cond.code ({ cls := "NeighbourDesk", name := "sendToStranger", desc := "(II)I" } : Jvm.MethodName) prog_1_method_27_code (4 : Nat) (Option.some Jvm.ClassFile.FieldType.int)) ∈ lw_tbl := List.mem_append_right _ (List.mem_of_getElem? (i := 459) (by decide +kernel))
theorem i_460 : (Jvm.Cond.methodLink "NeighbourDesk" (262 : Nat) ({ cls := "NeighbourDesk", name := "putInLine", desc := "(LNeighbourDesk$Entry;I)I" } : Jvm.MethodName)) ∈ lw_tbl := List.mem_append_right _ (List.mem_of_getElem? (i := 460) (by decide +kernel))
theorem i_461 : (Jvm.Cond.privateMethod ({ cls := "NeighbourDesk", name := "putInLine", desc := "(LNeighbourDesk$Entry;I)I" } : Jvm.MethodName)) ∈ lw_tbl := List.mem_append_right _ (List.mem_of_getElem? (i := 461) (by decide +kernel))
theorem i_462 : (Jvm.Cond.instanceMethod ({ cls := "NeighbourDesk", name := "putInLine", desc := "(LNeighbourDesk$Entry;I)I" } : Jvm.MethodName)) ∈ lw_tbl := List.mem_append_right _ (List.mem_of_getElem? (i := 462) (by decide +kernel))
theorem i_463 : (Jvm.Cond.code ({ cls := "NeighbourDesk", name := "putInLine", desc := "(LNeighbourDesk$Entry;I)I" } : Jvm.MethodName) prog_1_method_28_code (3 : Nat) (Option.some Jvm.ClassFile.FieldType.int)) ∈ lw_tbl := List.mem_append_right _ (List.mem_of_getElem? (i := 463) (by decide +kernel))
theorem i_464 : (Jvm.Cond.methodLink "NeighbourDesk" (126 : Nat) ({ cls := "NeighbourDesk$Cache", name := "use", desc := "(II)LNeighbourDesk$Entry;" } : Jvm.MethodName)) ∈ lw_tbl := List.mem_append_right _ (List.mem_of_getElem? (i := 464) (by decide +kernel))
theorem i_465 : (Jvm.Cond.instanceMethod ({ cls := "NeighbourDesk$Cache", name := "use", desc := "(II)LNeighbourDesk$Entry;" } : Jvm.MethodName)) ∈ lw_tbl := List.mem_append_right _ (List.mem_of_getElem? (i := 465) (by decide +kernel))
theorem i_466 : (Jvm.Cond.selects "NeighbourDesk$Cache" ({ cls := "NeighbourDesk$Cache", name := "use", desc := "(II)LNeighbourDesk$Entry;" } : Jvm.MethodName) ({ cls := "NeighbourDesk$Cache", name := "use", desc := "(II)LNeighbourDesk$Entry;" } : Jvm.MethodName)) ∈ lw_tbl := List.mem_append_right _ (List.mem_of_getElem? (i := 466) (by decide +kernel))
theorem i_467 : (Jvm.Cond.code ({ cls := "NeighbourDesk$Cache", name := "use", desc := "(II)LNeighbourDesk$Entry;" } : Jvm.MethodName) prog_2_method_6_code (4 : Nat) (Option.some (Jvm.ClassFile.FieldType.object "NeighbourDesk$Entry"))) ∈ lw_tbl := List.mem_append_right _ (List.mem_of_getElem? (i := 467) (by decide +kernel))
theorem i_468 : (Jvm.Cond.methodLink "NeighbourDesk" (130 : Nat) ({ cls := "NeighbourDesk", name := "sendTo", desc := "(LNeighbourDesk$Entry;I)I" } : Jvm.MethodName)) ∈ lw_tbl := List.mem_append_right _ (List.mem_of_getElem? (i := 468) (by decide +kernel))
theorem i_469 : (Jvm.Cond.privateMethod ({ cls := "NeighbourDesk", name := "sendTo", desc := "(LNeighbourDesk$Entry;I)I" } : Jvm.MethodName)) ∈ lw_tbl := List.mem_append_right _ (List.mem_of_getElem? (i := 469) (by decide +kernel))
theorem i_470 : (Jvm.Cond.instanceMethod ({ cls := "NeighbourDesk", name := "sendTo", desc := "(LNeighbourDesk$Entry;I)I" } : Jvm.MethodName)) ∈ lw_tbl := List.mem_append_right _ (List.mem_of_getElem? (i := 470) (by decide +kernel))
theorem i_471 : (Jvm.Cond.code ({ cls := "NeighbourDesk", name := "sendTo", desc := "(LNeighbourDesk$Entry;I)I" } : Jvm.MethodName) prog_1_method_26_code (3 : Nat) (Option.some Jvm.ClassFile.FieldType.int)) ∈ lw_tbl := List.mem_append_right _ (List.mem_of_getElem? (i := 471) (by decide +kernel))
theorem i_472 : (Jvm.Cond.methodLink "NeighbourDeskLaw" (113 : Nat) ({ cls := "NeighbourDeskLaw", name := "tick", desc := "(LNeighbourDesk;I[J)I" } : Jvm.MethodName)) ∈ lw_tbl := List.mem_append_right _ (List.mem_of_getElem? (i := 472) (by decide +kernel))
theorem i_473 : (Jvm.Cond.static ({ cls := "NeighbourDeskLaw", name := "tick", desc := "(LNeighbourDesk;I[J)I" } : Jvm.MethodName)) ∈ lw_tbl := List.mem_append_right _ (List.mem_of_getElem? (i := 473) (by decide +kernel))
theorem i_474 : (Jvm.Cond.codeWith ({ cls := "NeighbourDeskLaw", name := "tick", desc := "(LNeighbourDesk;I[J)I" } : Jvm.MethodName) method_7_code (4 : Nat) (Option.some Jvm.ClassFile.FieldType.int) [((0 : Nat), (9 : Nat), (12 : Nat), (13 : Nat))]) ∈ lw_tbl := List.mem_append_right _ (List.mem_of_getElem? (i := 474) (by decide +kernel))
theorem i_475 : (Jvm.Cond.methodLink "NeighbourDeskLaw" (29 : Nat) ({ cls := "NeighbourDesk", name := "tick", desc := "(I)I" } : Jvm.MethodName)) ∈ lw_tbl := List.mem_append_right _ (List.mem_of_getElem? (i := 475) (by decide +kernel))
theorem i_476 : (Jvm.Cond.instanceMethod ({ cls := "NeighbourDesk", name := "tick", desc := "(I)I" } : Jvm.MethodName)) ∈ lw_tbl := List.mem_append_right _ (List.mem_of_getElem? (i := 476) (by decide +kernel))
theorem i_477 : (Jvm.Cond.selects "NeighbourDesk" ({ cls := "NeighbourDesk", name := "tick", desc := "(I)I" } : Jvm.MethodName) ({ cls := "NeighbourDesk", name := "tick", desc := "(I)I" } : Jvm.MethodName)) ∈ lw_tbl := List.mem_append_right _ (List.mem_of_getElem? (i := 477) (by decide +kernel))
theorem i_478 : (Jvm.Cond.code ({ cls := "NeighbourDesk", name := "tick", desc := "(I)I" } : Jvm.MethodName) prog_1_method_9_code (3 : Nat) (Option.some Jvm.ClassFile.FieldType.int)) ∈ lw_tbl := List.mem_append_right _ (List.mem_of_getElem? (i := 478) (by decide +kernel))
theorem i_479 : (Jvm.Cond.methodLink "NeighbourDesk" (134 : Nat) ({ cls := "NeighbourDesk", name := "tickOwn", desc := "()V" } : Jvm.MethodName)) ∈ lw_tbl := List.mem_append_right _ (List.mem_of_getElem? (i := 479) (by decide +kernel))
theorem i_480 : (Jvm.Cond.privateMethod ({ cls := "NeighbourDesk", name := "tickOwn", desc := "()V" } : Jvm.MethodName)) ∈ lw_tbl := List.mem_append_right _ (List.mem_of_getElem? (i := 480) (by decide +kernel))
theorem i_481 : (Jvm.Cond.instanceMethod ({ cls := "NeighbourDesk", name := "tickOwn", desc := "()V" } : Jvm.MethodName)) ∈ lw_tbl := List.mem_append_right _ (List.mem_of_getElem? (i := 481) (by decide +kernel))
theorem i_482 : (Jvm.Cond.code ({ cls := "NeighbourDesk", name := "tickOwn", desc := "()V" } : Jvm.MethodName) prog_1_method_32_code (2 : Nat) (Option.none : Option Jvm.ClassFile.FieldType)) ∈ lw_tbl := List.mem_append_right _ (List.mem_of_getElem? (i := 482) (by decide +kernel))
theorem i_483 : (Jvm.Cond.methodLink "NeighbourDesk" (137 : Nat) ({ cls := "NeighbourDesk", name := "tickEntries", desc := "()V" } : Jvm.MethodName)) ∈ lw_tbl := List.mem_append_right _ (List.mem_of_getElem? (i := 483) (by decide +kernel))
theorem i_484 : (Jvm.Cond.privateMethod ({ cls := "NeighbourDesk", name := "tickEntries", desc := "()V" } : Jvm.MethodName)) ∈ lw_tbl := List.mem_append_right _ (List.mem_of_getElem? (i := 484) (by decide +kernel))
theorem i_485 : (Jvm.Cond.instanceMethod ({ cls := "NeighbourDesk", name := "tickEntries", desc := "()V" } : Jvm.MethodName)) ∈ lw_tbl := List.mem_append_right _ (List.mem_of_getElem? (i := 485) (by decide +kernel))
theorem i_486 : (Jvm.Cond.code ({ cls := "NeighbourDesk", name := "tickEntries", desc := "()V" } : Jvm.MethodName) prog_1_method_33_code (4 : Nat) (Option.none : Option Jvm.ClassFile.FieldType)) ∈ lw_tbl := List.mem_append_right _ (List.mem_of_getElem? (i := 486) (by decide +kernel))
theorem i_487 : (Jvm.Cond.methodLink "NeighbourDesk" (271 : Nat) ({ cls := "NeighbourDesk", name := "isOver", desc := "(LNeighbourDesk$Entry;)Z" } : Jvm.MethodName)) ∈ lw_tbl := List.mem_append_right _ (List.mem_of_getElem? (i := 487) (by decide +kernel))
theorem i_488 : (Jvm.Cond.privateMethod ({ cls := "NeighbourDesk", name := "isOver", desc := "(LNeighbourDesk$Entry;)Z" } : Jvm.MethodName)) ∈ lw_tbl := List.mem_append_right _ (List.mem_of_getElem? (i := 488) (by decide +kernel))
theorem i_489 : (Jvm.Cond.instanceMethod ({ cls := "NeighbourDesk", name := "isOver", desc := "(LNeighbourDesk$Entry;)Z" } : Jvm.MethodName)) ∈ lw_tbl := List.mem_append_right _ (List.mem_of_getElem? (i := 489) (by decide +kernel))
theorem i_490 : (Jvm.Cond.code ({ cls := "NeighbourDesk", name := "isOver", desc := "(LNeighbourDesk$Entry;)Z" } : Jvm.MethodName) prog_1_method_34_code (3 : Nat) (Option.some Jvm.ClassFile.FieldType.boolean)) ∈ lw_tbl := List.mem_append_right _ (List.mem_of_getElem? (i := 490) (by decide +kernel))
theorem i_491 : (Jvm.Cond.methodLink "NeighbourDesk" (279 : Nat) ({ cls := "NeighbourDesk$Cache", name := "remove", desc := "(I)V" } : Jvm.MethodName)) ∈ lw_tbl := List.mem_append_right _ (List.mem_of_getElem? (i := 491) (by decide +kernel))
theorem i_492 : (Jvm.Cond.methodLink "NeighbourDesk" (282 : Nat) ({ cls := "NeighbourDesk", name := "tickEntry", desc := "(LNeighbourDesk$Entry;)V" } : Jvm.MethodName)) ∈ lw_tbl := List.mem_append_right _ (List.mem_of_getElem? (i := 492) (by decide +kernel))
theorem i_493 : (Jvm.Cond.privateMethod ({ cls := "NeighbourDesk", name := "tickEntry", desc := "(LNeighbourDesk$Entry;)V" } : Jvm.MethodName)) ∈ lw_tbl := List.mem_append_right _ (List.mem_of_getElem? (i := 493) (by decide +kernel))
theorem i_494 : (Jvm.Cond.instanceMethod ({ cls := "NeighbourDesk", name := "tickEntry", desc := "(LNeighbourDesk$Entry;)V" } : Jvm.MethodName)) ∈ lw_tbl := List.mem_append_right _ (List.mem_of_getElem? (i := 494) (by decide +kernel))
theorem i_495 : (Jvm.Cond.code ({ cls := "NeighbourDesk", name := "tickEntry", desc := "(LNeighbourDesk$Entry;)V" } : Jvm.MethodName) prog_1_method_35_code (3 : Nat) (Option.none : Option Jvm.ClassFile.FieldType)) ∈ lw_tbl := List.mem_append_right _ (List.mem_of_getElem? (i := 495) (by decide +kernel))
theorem i_496 : (Jvm.Cond.methodLink "NeighbourDeskLaw" (117 : Nat) ({ cls := "NeighbourDeskLaw", name := "count", desc := "(LNeighbourDesk;I[J)I" } : Jvm.MethodName)) ∈ lw_tbl := List.mem_append_right _ (List.mem_of_getElem? (i := 496) (by decide +kernel))
theorem i_497 : (Jvm.Cond.static ({ cls := "NeighbourDeskLaw", name := "count", desc := "(LNeighbourDesk;I[J)I" } : Jvm.MethodName)) ∈ lw_tbl := List.mem_append_right _ (List.mem_of_getElem? (i := 497) (by decide +kernel))
theorem i_498 : (Jvm.Cond.codeWith ({ cls := "NeighbourDeskLaw", name := "count", desc := "(LNeighbourDesk;I[J)I" } : Jvm.MethodName) method_8_code (4 : Nat) (Option.some Jvm.ClassFile.FieldType.int) [((0 : Nat), (9 : Nat), (12 : Nat), (13 : Nat))]) ∈ lw_tbl := List.mem_append_right _ (List.mem_of_getElem? (i := 498) (by decide +kernel))
theorem i_499 : (Jvm.Cond.methodLink "NeighbourDeskLaw" (33 : Nat) ({ cls := "NeighbourDesk", name := "count", desc := "(I)I" } : Jvm.MethodName)) ∈ lw_tbl := List.mem_append_right _ (List.mem_of_getElem? (i := 499) (by decide +kernel))
theorem i_500 : (Jvm.Cond.instanceMethod ({ cls := "NeighbourDesk", name := "count", desc := "(I)I" } : Jvm.MethodName)) ∈ lw_tbl := List.mem_append_right _ (List.mem_of_getElem? (i := 500) (by decide +kernel))
theorem i_501 : (Jvm.Cond.selects "NeighbourDesk" ({ cls := "NeighbourDesk", name := "count", desc := "(I)I" } : Jvm.MethodName) ({ cls := "NeighbourDesk", name := "count", desc := "(I)I" } : Jvm.MethodName)) ∈ lw_tbl := List.mem_append_right _ (List.mem_of_getElem? (i := 501) (by decide +kernel))
theorem i_502 : (Jvm.Cond.code ({ cls := "NeighbourDesk", name := "count", desc := "(I)I" } : Jvm.MethodName) prog_1_method_10_code (2 : Nat) (Option.some Jvm.ClassFile.FieldType.int)) ∈ lw_tbl := List.mem_append_right _ (List.mem_of_getElem? (i := 502) (by decide +kernel))
theorem i_503 : (Jvm.Cond.methodLink "NeighbourDesk" (153 : Nat) ({ cls := "NeighbourDesk$Cache", name := "countWaiting", desc := "()I" } : Jvm.MethodName)) ∈ lw_tbl := List.mem_append_right _ (List.mem_of_getElem? (i := 503) (by decide +kernel))
theorem i_504 : (Jvm.Cond.instanceMethod ({ cls := "NeighbourDesk$Cache", name := "countWaiting", desc := "()I" } : Jvm.MethodName)) ∈ lw_tbl := List.mem_append_right _ (List.mem_of_getElem? (i := 504) (by decide +kernel))
theorem i_505 : (Jvm.Cond.selects "NeighbourDesk$Cache" ({ cls := "NeighbourDesk$Cache", name := "countWaiting", desc := "()I" } : Jvm.MethodName) ({ cls := "NeighbourDesk$Cache", name := "countWaiting", desc := "()I" } : Jvm.MethodName)) ∈ lw_tbl := List.mem_append_right _ (List.mem_of_getElem? (i := 505) (by decide +kernel))
theorem i_506 : (Jvm.Cond.code ({ cls := "NeighbourDesk$Cache", name := "countWaiting", desc := "()I" } : Jvm.MethodName) prog_2_method_3_code (3 : Nat) (Option.some Jvm.ClassFile.FieldType.int)) ∈ lw_tbl := List.mem_append_right _ (List.mem_of_getElem? (i := 506) (by decide +kernel))
theorem i_507 : (Jvm.Cond.methodLink "NeighbourDeskLaw" (120 : Nat) ({ cls := "NeighbourDeskLaw", name := "entry", desc := "(LNeighbourDesk;I[J)I" } : Jvm.MethodName)) ∈ lw_tbl := List.mem_append_right _ (List.mem_of_getElem? (i := 507) (by decide +kernel))
theorem i_508 : (Jvm.Cond.static ({ cls := "NeighbourDeskLaw", name := "entry", desc := "(LNeighbourDesk;I[J)I" } : Jvm.MethodName)) ∈ lw_tbl := List.mem_append_right _ (List.mem_of_getElem? (i := 508) (by decide +kernel))
theorem i_509 : (Jvm.Cond.codeWith ({ cls := "NeighbourDeskLaw", name := "entry", desc := "(LNeighbourDesk;I[J)I" } : Jvm.MethodName) method_9_code (4 : Nat) (Option.some Jvm.ClassFile.FieldType.int) [((0 : Nat), (9 : Nat), (12 : Nat), (39 : Nat))]) ∈ lw_tbl := List.mem_append_right _ (List.mem_of_getElem? (i := 509) (by decide +kernel))
theorem i_510 : (Jvm.Cond.classLink "NeighbourDeskLaw" (39 : Nat) "java/lang/IndexOutOfBoundsException") ∈ lw_tbl := List.mem_append_right _ (List.mem_of_getElem? (i := 510) (by decide +kernel))
theorem i_511 : (Jvm.Cond.methodLink "NeighbourDeskLaw" (36 : Nat) ({ cls := "NeighbourDesk", name := "entry", desc := "(I)I" } : Jvm.MethodName)) ∈ lw_tbl := List.mem_append_right _ (List.mem_of_getElem? (i := 511) (by decide +kernel))
theorem i_512 : (Jvm.Cond.instanceMethod ({ cls := "NeighbourDesk", name := "entry", desc := "(I)I" } : Jvm.MethodName)) ∈ lw_tbl := List.mem_append_right _ (List.mem_of_getElem? (i := 512) (by decide +kernel))
theorem i_513 : (Jvm.Cond.selects "NeighbourDesk" ({ cls := "NeighbourDesk", name := "entry", desc := "(I)I" } : Jvm.MethodName) ({ cls := "NeighbourDesk", name := "entry", desc := "(I)I" } : Jvm.MethodName)) ∈ lw_tbl := List.mem_append_right _ (List.mem_of_getElem? (i := 513) (by decide +kernel))
theorem i_514 : (Jvm.Cond.code ({ cls := "NeighbourDesk", name := "entry", desc := "(I)I" } : Jvm.MethodName) prog_1_method_11_code (2 : Nat) (Option.some Jvm.ClassFile.FieldType.int)) ∈ lw_tbl := List.mem_append_right _ (List.mem_of_getElem? (i := 514) (by decide +kernel))
theorem i_515 : (Jvm.Cond.classLink "NeighbourDesk" (156 : Nat) "java/lang/IndexOutOfBoundsException") ∈ lw_tbl := List.mem_append_right _ (List.mem_of_getElem? (i := 515) (by decide +kernel))
theorem i_516 : (Jvm.Cond.instantiable "java/lang/IndexOutOfBoundsException" (6 : Nat)) ∈ lw_tbl := List.mem_append_right _ (List.mem_of_getElem? (i := 516) (by decide +kernel))
theorem i_517 : (Jvm.Cond.castable "java/lang/IndexOutOfBoundsException" "java/lang/IndexOutOfBoundsException") ∈ lw_tbl := List.mem_append_right _ (List.mem_of_getElem? (i := 517) (by decide +kernel))
theorem i_518 : (Jvm.Cond.selects "java/lang/IndexOutOfBoundsException" ({ cls := "java/lang/Throwable", name := "fillInStackTrace", desc := "(I)Ljava/lang/Throwable;" } : Jvm.MethodName) ({ cls := "java/lang/Throwable", name := "fillInStackTrace", desc := "(I)Ljava/lang/Throwable;" } : Jvm.MethodName)) ∈ lw_tbl := List.mem_append_right _ (List.mem_of_getElem? (i := 518) (by decide +kernel))
theorem i_524 : (Jvm.Cond.methodLink "NeighbourDesk" (158 : Nat) ({ cls := "java/lang/IndexOutOfBoundsException", name := "<init>", desc := "()V" } : Jvm.MethodName)) ∈ lw_tbl := List.mem_append_right _ (List.mem_of_getElem? (i := 524) (by decide +kernel))
theorem i_525 : (Jvm.Cond.instanceMethod ({ cls := "java/lang/IndexOutOfBoundsException", name := "<init>", desc := "()V" } : Jvm.MethodName)) ∈ lw_tbl := List.mem_append_right _ (List.mem_of_getElem? (i := 525) (by decide +kernel))
theorem i_526 : (Jvm.Cond.code ({ cls := "java/lang/IndexOutOfBoundsException", name := "<init>", desc := "()V" } : Jvm.MethodName) prog_15_method_1_code (1 : Nat) (Option.none : Option Jvm.ClassFile.FieldType)) ∈ lw_tbl := List.mem_append_right _ (List.mem_of_getElem? (i := 526) (by decide +kernel))
theorem i_527 : (Jvm.Cond.methodLink "java/lang/IndexOutOfBoundsException" (1 : Nat) ({ cls := "java/lang/RuntimeException", name := "<init>", desc := "()V" } : Jvm.MethodName)) ∈ lw_tbl := List.mem_append_right _ (List.mem_of_getElem? (i := 527) (by decide +kernel))
theorem i_529 : (Jvm.Cond.superclass "java/lang/IndexOutOfBoundsException" "java/lang/RuntimeException") ∈ lw_tbl := List.mem_append_right _ (List.mem_of_getElem? (i := 529) (by decide +kernel))
theorem i_530 : (Jvm.Cond.methodLink "NeighbourDeskLaw" (123 : Nat) ({ cls := "NeighbourDeskLaw", name := "about", desc := "(LNeighbourDesk;II[J)I" } : Jvm.MethodName)) ∈ lw_tbl := List.mem_append_right _ (List.mem_of_getElem? (i := 530) (by decide +kernel))
theorem i_531 : (Jvm.Cond.static ({ cls := "NeighbourDeskLaw", name := "about", desc := "(LNeighbourDesk;II[J)I" } : Jvm.MethodName)) ∈ lw_tbl := List.mem_append_right _ (List.mem_of_getElem? (i := 531) (by decide +kernel))
theorem i_532 : (Jvm.Cond.codeWith ({ cls := "NeighbourDeskLaw", name := "about", desc := "(LNeighbourDesk;II[J)I" } : Jvm.MethodName) method_10_code (5 : Nat) (Option.some Jvm.ClassFile.FieldType.int) [((0 : Nat), (10 : Nat), (13 : Nat), (13 : Nat)), ((0 : Nat), (10 : Nat), (17 : Nat), (44 : Nat))]) ∈ lw_tbl := List.mem_append_right _ (List.mem_of_getElem? (i := 532) (by decide +kernel))
theorem i_533 : (Jvm.Cond.classLink "NeighbourDeskLaw" (44 : Nat) "java/util/NoSuchElementException") ∈ lw_tbl := List.mem_append_right _ (List.mem_of_getElem? (i := 533) (by decide +kernel))
theorem i_534 : (Jvm.Cond.methodLink "NeighbourDeskLaw" (41 : Nat) ({ cls := "NeighbourDesk", name := "about", desc := "(II)I" } : Jvm.MethodName)) ∈ lw_tbl := List.mem_append_right _ (List.mem_of_getElem? (i := 534) (by decide +kernel))
theorem i_535 : (Jvm.Cond.instanceMethod ({ cls := "NeighbourDesk", name := "about", desc := "(II)I" } : Jvm.MethodName)) ∈ lw_tbl := List.mem_append_right _ (List.mem_of_getElem? (i := 535) (by decide +kernel))
theorem i_536 : (Jvm.Cond.selects "NeighbourDesk" ({ cls := "NeighbourDesk", name := "about", desc := "(II)I" } : Jvm.MethodName) ({ cls := "NeighbourDesk", name := "about", desc := "(II)I" } : Jvm.MethodName)) ∈ lw_tbl := List.mem_append_right _ (List.mem_of_getElem? (i := 536) (by decide +kernel))
theorem i_537 : (Jvm.Cond.code ({ cls := "NeighbourDesk", name := "about", desc := "(II)I" } : Jvm.MethodName) prog_1_method_12_code (5 : Nat) (Option.some Jvm.ClassFile.FieldType.int)) ∈ lw_tbl := List.mem_append_right _ (List.mem_of_getElem? (i := 537) (by decide +kernel))
theorem i_538 : (Jvm.Cond.classLink "NeighbourDesk" (168 : Nat) "java/util/NoSuchElementException") ∈ lw_tbl := List.mem_append_right _ (List.mem_of_getElem? (i := 538) (by decide +kernel))
theorem i_539 : (Jvm.Cond.instantiable "java/util/NoSuchElementException" (6 : Nat)) ∈ lw_tbl := List.mem_append_right _ (List.mem_of_getElem? (i := 539) (by decide +kernel))
theorem i_540 : (Jvm.Cond.castable "java/util/NoSuchElementException" "java/util/NoSuchElementException") ∈ lw_tbl := List.mem_append_right _ (List.mem_of_getElem? (i := 540) (by decide +kernel))
theorem i_541 : (Jvm.Cond.selects "java/util/NoSuchElementException" ({ cls := "java/lang/Throwable", name := "fillInStackTrace", desc := "(I)Ljava/lang/Throwable;" } : Jvm.MethodName) ({ cls := "java/lang/Throwable", name := "fillInStackTrace", desc := "(I)Ljava/lang/Throwable;" } : Jvm.MethodName)) ∈ lw_tbl := List.mem_append_right _ (List.mem_of_getElem? (i := 541) (by decide +kernel))
theorem i_547 : (Jvm.Cond.methodLink "NeighbourDesk" (170 : Nat) ({ cls := "java/util/NoSuchElementException", name := "<init>", desc := "()V" } : Jvm.MethodName)) ∈ lw_tbl := List.mem_append_right _ (List.mem_of_getElem? (i := 547) (by decide +kernel))
theorem i_548 : (Jvm.Cond.instanceMethod ({ cls := "java/util/NoSuchElementException", name := "<init>", desc := "()V" } : Jvm.MethodName)) ∈ lw_tbl := List.mem_append_right _ (List.mem_of_getElem? (i := 548) (by decide +kernel))
theorem i_549 : (Jvm.Cond.code ({ cls := "java/util/NoSuchElementException", name := "<init>", desc := "()V" } : Jvm.MethodName) prog_19_method_1_code (1 : Nat) (Option.none : Option Jvm.ClassFile.FieldType)) ∈ lw_tbl := List.mem_append_right _ (List.mem_of_getElem? (i := 549) (by decide +kernel))
theorem i_550 : (Jvm.Cond.methodLink "java/util/NoSuchElementException" (1 : Nat) ({ cls := "java/lang/RuntimeException", name := "<init>", desc := "()V" } : Jvm.MethodName)) ∈ lw_tbl := List.mem_append_right _ (List.mem_of_getElem? (i := 550) (by decide +kernel))
theorem i_552 : (Jvm.Cond.superclass "java/util/NoSuchElementException" "java/lang/RuntimeException") ∈ lw_tbl := List.mem_append_right _ (List.mem_of_getElem? (i := 552) (by decide +kernel))
theorem i_553 : (Jvm.Cond.methodLink "NeighbourDeskLaw" (126 : Nat) ({ cls := "NeighbourDeskLaw", name := "hardware", desc := "(LNeighbourDesk;I[J)I" } : Jvm.MethodName)) ∈ lw_tbl := List.mem_append_right _ (List.mem_of_getElem? (i := 553) (by decide +kernel))
theorem i_554 : (Jvm.Cond.static ({ cls := "NeighbourDeskLaw", name := "hardware", desc := "(LNeighbourDesk;I[J)I" } : Jvm.MethodName)) ∈ lw_tbl := List.mem_append_right _ (List.mem_of_getElem? (i := 554) (by decide +kernel))
theorem i_555 : (Jvm.Cond.codeWith ({ cls := "NeighbourDeskLaw", name := "hardware", desc := "(LNeighbourDesk;I[J)I" } : Jvm.MethodName) method_11_code (4 : Nat) (Option.some Jvm.ClassFile.FieldType.int) [((0 : Nat), (8 : Nat), (11 : Nat), (44 : Nat))]) ∈ lw_tbl := List.mem_append_right _ (List.mem_of_getElem? (i := 555) (by decide +kernel))
theorem i_556 : (Jvm.Cond.methodLink "NeighbourDeskLaw" (46 : Nat) ({ cls := "NeighbourDesk", name := "hardware", desc := "(I)J" } : Jvm.MethodName)) ∈ lw_tbl := List.mem_append_right _ (List.mem_of_getElem? (i := 556) (by decide +kernel))
theorem i_557 : (Jvm.Cond.instanceMethod ({ cls := "NeighbourDesk", name := "hardware", desc := "(I)J" } : Jvm.MethodName)) ∈ lw_tbl := List.mem_append_right _ (List.mem_of_getElem? (i := 557) (by decide +kernel))
theorem i_558 : (Jvm.Cond.selects "NeighbourDesk" ({ cls := "NeighbourDesk", name := "hardware", desc := "(I)J" } : Jvm.MethodName) ({ cls := "NeighbourDesk", name := "hardware", desc := "(I)J" } : Jvm.MethodName)) ∈ lw_tbl := List.mem_append_right _ (List.mem_of_getElem? (i := 558) (by decide +kernel))
theorem i_559 : (Jvm.Cond.code ({ cls := "NeighbourDesk", name := "hardware", desc := "(I)J" } : Jvm.MethodName) prog_1_method_13_code (3 : Nat) (Option.some Jvm.ClassFile.FieldType.long)) ∈ lw_tbl := List.mem_append_right _ (List.mem_of_getElem? (i := 559) (by decide +kernel))
theorem i_560 : (Jvm.Cond.methodLink "NeighbourDeskLaw" (134 : Nat) ({ cls := "NeighbourDeskLaw", name := "waits", desc := "(LNeighbourDesk;II[J)I" } : Jvm.MethodName)) ∈ lw_tbl := List.mem_append_right _ (List.mem_of_getElem? (i := 560) (by decide +kernel))
theorem i_561 : (Jvm.Cond.static ({ cls := "NeighbourDeskLaw", name := "waits", desc := "(LNeighbourDesk;II[J)I" } : Jvm.MethodName)) ∈ lw_tbl := List.mem_append_right _ (List.mem_of_getElem? (i := 561) (by decide +kernel))
theorem i_562 : (Jvm.Cond.codeWith ({ cls := "NeighbourDeskLaw", name := "waits", desc := "(LNeighbourDesk;II[J)I" } : Jvm.MethodName) method_12_code (5 : Nat) (Option.some Jvm.ClassFile.FieldType.int) [((0 : Nat), (10 : Nat), (13 : Nat), (44 : Nat)), ((0 : Nat), (10 : Nat), (17 : Nat), (39 : Nat))]) ∈ lw_tbl := List.mem_append_right _ (List.mem_of_getElem? (i := 562) (by decide +kernel))
theorem i_563 : (Jvm.Cond.methodLink "NeighbourDeskLaw" (50 : Nat) ({ cls := "NeighbourDesk", name := "waits", desc := "(II)I" } : Jvm.MethodName)) ∈ lw_tbl := List.mem_append_right _ (List.mem_of_getElem? (i := 563) (by decide +kernel))
theorem i_564 : (Jvm.Cond.instanceMethod ({ cls := "NeighbourDesk", name := "waits", desc := "(II)I" } : Jvm.MethodName)) ∈ lw_tbl := List.mem_append_right _ (List.mem_of_getElem? (i := 564) (by decide +kernel))
theorem i_565 : (Jvm.Cond.selects "NeighbourDesk" ({ cls := "NeighbourDesk", name := "waits", desc := "(II)I" } : Jvm.MethodName) ({ cls := "NeighbourDesk", name := "waits", desc := "(II)I" } : Jvm.MethodName)) ∈ lw_tbl := List.mem_append_right _ (List.mem_of_getElem? (i := 565) (by decide +kernel))
theorem i_566 : (Jvm.Cond.code ({ cls := "NeighbourDesk", name := "waits", desc := "(II)I" } : Jvm.MethodName) prog_1_method_15_code (5 : Nat) (Option.some Jvm.ClassFile.FieldType.int)) ∈ lw_tbl := List.mem_append_right _ (List.mem_of_getElem? (i := 566) (by decide +kernel))
theorem i_567 : (Jvm.Cond.methodLink "NeighbourDeskLaw" (137 : Nat) ({ cls := "NeighbourDeskLaw", name := "to", desc := "(LNeighbourDesk;I[J)I" } : Jvm.MethodName)) ∈ lw_tbl := List.mem_append_right _ (List.mem_of_getElem? (i := 567) (by decide +kernel))
theorem i_568 : (Jvm.Cond.static ({ cls := "NeighbourDeskLaw", name := "to", desc := "(LNeighbourDesk;I[J)I" } : Jvm.MethodName)) ∈ lw_tbl := List.mem_append_right _ (List.mem_of_getElem? (i := 568) (by decide +kernel))
theorem i_569 : (Jvm.Cond.codeWith ({ cls := "NeighbourDeskLaw", name := "to", desc := "(LNeighbourDesk;I[J)I" } : Jvm.MethodName) method_13_code (4 : Nat) (Option.some Jvm.ClassFile.FieldType.int) [((0 : Nat), (8 : Nat), (11 : Nat), (39 : Nat))]) ∈ lw_tbl := List.mem_append_right _ (List.mem_of_getElem? (i := 569) (by decide +kernel))
theorem i_570 : (Jvm.Cond.methodLink "NeighbourDeskLaw" (53 : Nat) ({ cls := "NeighbourDesk", name := "to", desc := "(I)J" } : Jvm.MethodName)) ∈ lw_tbl := List.mem_append_right _ (List.mem_of_getElem? (i := 570) (by decide +kernel))
theorem i_571 : (Jvm.Cond.instanceMethod ({ cls := "NeighbourDesk", name := "to", desc := "(I)J" } : Jvm.MethodName)) ∈ lw_tbl := List.mem_append_right _ (List.mem_of_getElem? (i := 571) (by decide +kernel))
theorem i_572 : (Jvm.Cond.selects "NeighbourDesk" ({ cls := "NeighbourDesk", name := "to", desc := "(I)J" } : Jvm.MethodName) ({ cls := "NeighbourDesk", name := "to", desc := "(I)J" } : Jvm.MethodName)) ∈ lw_tbl := List.mem_append_right _ (List.mem_of_getElem? (i := 572) (by decide +kernel))
theorem i_573 : (Jvm.Cond.code ({ cls := "NeighbourDesk", name := "to", desc := "(I)J" } : Jvm.MethodName) prog_1_method_16_code (2 : Nat) (Option.some Jvm.ClassFile.FieldType.long)) ∈ lw_tbl := List.mem_append_right _ (List.mem_of_getElem? (i := 573) (by decide +kernel))
theorem i_574 : (Jvm.Cond.methodLink "NeighbourDesk" (190 : Nat) ({ cls := "NeighbourDesk$Ring", name := "holds", desc := "(I)Z" } : Jvm.MethodName)) ∈ lw_tbl := List.mem_append_right _ (List.mem_of_getElem? (i := 574) (by decide +kernel))
theorem i_575 : (Jvm.Cond.instanceMethod ({ cls := "NeighbourDesk$Ring", name := "holds", desc := "(I)Z" } : Jvm.MethodName)) ∈ lw_tbl := List.mem_append_right _ (List.mem_of_getElem? (i := 575) (by decide +kernel))
theorem i_576 : (Jvm.Cond.selects "NeighbourDesk$Ring" ({ cls := "NeighbourDesk$Ring", name := "holds", desc := "(I)Z" } : Jvm.MethodName) ({ cls := "NeighbourDesk$Ring", name := "holds", desc := "(I)Z" } : Jvm.MethodName)) ∈ lw_tbl := List.mem_append_right _ (List.mem_of_getElem? (i := 576) (by decide +kernel))
theorem i_577 : (Jvm.Cond.code ({ cls := "NeighbourDesk$Ring", name := "holds", desc := "(I)Z" } : Jvm.MethodName) prog_6_method_3_code (2 : Nat) (Option.some Jvm.ClassFile.FieldType.boolean)) ∈ lw_tbl := List.mem_append_right _ (List.mem_of_getElem? (i := 577) (by decide +kernel))
theorem i_578 : (Jvm.Cond.methodLink "NeighbourDesk" (197 : Nat) ({ cls := "NeighbourDesk$Ring", name := "slotOf", desc := "(I)I" } : Jvm.MethodName)) ∈ lw_tbl := List.mem_append_right _ (List.mem_of_getElem? (i := 578) (by decide +kernel))
theorem i_579 : (Jvm.Cond.instanceMethod ({ cls := "NeighbourDesk$Ring", name := "slotOf", desc := "(I)I" } : Jvm.MethodName)) ∈ lw_tbl := List.mem_append_right _ (List.mem_of_getElem? (i := 579) (by decide +kernel))
theorem i_580 : (Jvm.Cond.selects "NeighbourDesk$Ring" ({ cls := "NeighbourDesk$Ring", name := "slotOf", desc := "(I)I" } : Jvm.MethodName) ({ cls := "NeighbourDesk$Ring", name := "slotOf", desc := "(I)I" } : Jvm.MethodName)) ∈ lw_tbl := List.mem_append_right _ (List.mem_of_getElem? (i := 580) (by decide +kernel))
theorem i_581 : (Jvm.Cond.code ({ cls := "NeighbourDesk$Ring", name := "slotOf", desc := "(I)I" } : Jvm.MethodName) prog_6_method_4_code (2 : Nat) (Option.some Jvm.ClassFile.FieldType.int)) ∈ lw_tbl := List.mem_append_right _ (List.mem_of_getElem? (i := 581) (by decide +kernel))
theorem i_582 : (Jvm.Cond.methodLink "NeighbourDesk$Ring" (19 : Nat) ({ cls := "java/lang/Math", name := "max", desc := "(II)I" } : Jvm.MethodName)) ∈ lw_tbl := List.mem_append_right _ (List.mem_of_getElem? (i := 582) (by decide +kernel))
theorem i_583 : (Jvm.Cond.methodLink "NeighbourDeskLaw" (140 : Nat) ({ cls := "NeighbourDeskLaw", name := "data", desc := "(LNeighbourDesk;I[J)I" } : Jvm.MethodName)) ∈ lw_tbl := List.mem_append_right _ (List.mem_of_getElem? (i := 583) (by decide +kernel))
theorem i_584 : (Jvm.Cond.static ({ cls := "NeighbourDeskLaw", name := "data", desc := "(LNeighbourDesk;I[J)I" } : Jvm.MethodName)) ∈ lw_tbl := List.mem_append_right _ (List.mem_of_getElem? (i := 584) (by decide +kernel))
theorem i_585 : (Jvm.Cond.codeWith ({ cls := "NeighbourDeskLaw", name := "data", desc := "(LNeighbourDesk;I[J)I" } : Jvm.MethodName) method_14_code (4 : Nat) (Option.some Jvm.ClassFile.FieldType.int) [((0 : Nat), (9 : Nat), (12 : Nat), (39 : Nat))]) ∈ lw_tbl := List.mem_append_right _ (List.mem_of_getElem? (i := 585) (by decide +kernel))
theorem i_586 : (Jvm.Cond.methodLink "NeighbourDeskLaw" (56 : Nat) ({ cls := "NeighbourDesk", name := "data", desc := "(I)I" } : Jvm.MethodName)) ∈ lw_tbl := List.mem_append_right _ (List.mem_of_getElem? (i := 586) (by decide +kernel))
theorem i_587 : (Jvm.Cond.instanceMethod ({ cls := "NeighbourDesk", name := "data", desc := "(I)I" } : Jvm.MethodName)) ∈ lw_tbl := List.mem_append_right _ (List.mem_of_getElem? (i := 587) (by decide +kernel))
theorem i_588 : (Jvm.Cond.selects "NeighbourDesk" ({ cls := "NeighbourDesk", name := "data", desc := "(I)I" } : Jvm.MethodName) ({ cls := "NeighbourDesk", name := "data", desc := "(I)I" } : Jvm.MethodName)) ∈ lw_tbl := List.mem_append_right _ (List.mem_of_getElem? (i := 588) (by decide +kernel))
theorem i_589 : (Jvm.Cond.code ({ cls := "NeighbourDesk", name := "data", desc := "(I)I" } : Jvm.MethodName) prog_1_method_17_code (2 : Nat) (Option.some Jvm.ClassFile.FieldType.int)) ∈ lw_tbl := List.mem_append_right _ (List.mem_of_getElem? (i := 589) (by decide +kernel))
theorem i_590 : (Jvm.Cond.methodLink "NeighbourDeskLaw" (143 : Nat) ({ cls := "NeighbourDeskLaw", name := "out", desc := "(LNeighbourDesk;II[J)I" } : Jvm.MethodName)) ∈ lw_tbl := List.mem_append_right _ (List.mem_of_getElem? (i := 590) (by decide +kernel))
theorem i_591 : (Jvm.Cond.static ({ cls := "NeighbourDeskLaw", name := "out", desc := "(LNeighbourDesk;II[J)I" } : Jvm.MethodName)) ∈ lw_tbl := List.mem_append_right _ (List.mem_of_getElem? (i := 591) (by decide +kernel))
theorem i_592 : (Jvm.Cond.codeWith ({ cls := "NeighbourDeskLaw", name := "out", desc := "(LNeighbourDesk;II[J)I" } : Jvm.MethodName) method_15_code (5 : Nat) (Option.some Jvm.ClassFile.FieldType.int) [((0 : Nat), (10 : Nat), (13 : Nat), (39 : Nat))]) ∈ lw_tbl := List.mem_append_right _ (List.mem_of_getElem? (i := 592) (by decide +kernel))
theorem i_593 : (Jvm.Cond.methodLink "NeighbourDeskLaw" (59 : Nat) ({ cls := "NeighbourDesk", name := "out", desc := "(II)I" } : Jvm.MethodName)) ∈ lw_tbl := List.mem_append_right _ (List.mem_of_getElem? (i := 593) (by decide +kernel))
theorem i_594 : (Jvm.Cond.instanceMethod ({ cls := "NeighbourDesk", name := "out", desc := "(II)I" } : Jvm.MethodName)) ∈ lw_tbl := List.mem_append_right _ (List.mem_of_getElem? (i := 594) (by decide +kernel))
theorem i_595 : (Jvm.Cond.selects "NeighbourDesk" ({ cls := "NeighbourDesk", name := "out", desc := "(II)I" } : Jvm.MethodName) ({ cls := "NeighbourDesk", name := "out", desc := "(II)I" } : Jvm.MethodName)) ∈ lw_tbl := List.mem_append_right _ (List.mem_of_getElem? (i := 595) (by decide +kernel))
theorem i_596 : (Jvm.Cond.code ({ cls := "NeighbourDesk", name := "out", desc := "(II)I" } : Jvm.MethodName) prog_1_method_18_code (3 : Nat) (Option.some Jvm.ClassFile.FieldType.int)) ∈ lw_tbl := List.mem_append_right _ (List.mem_of_getElem? (i := 596) (by decide +kernel))
theorem i_597 : (Jvm.Cond.methodLink "NeighbourDesk" (203 : Nat) ({ cls := "NeighbourDesk$Frames", name := "isPacket", desc := "(I)Z" } : Jvm.MethodName)) ∈ lw_tbl := List.mem_append_right _ (List.mem_of_getElem? (i := 597) (by decide +kernel))
theorem i_598 : (Jvm.Cond.instanceMethod ({ cls := "NeighbourDesk$Frames", name := "isPacket", desc := "(I)Z" } : Jvm.MethodName)) ∈ lw_tbl := List.mem_append_right _ (List.mem_of_getElem? (i := 598) (by decide +kernel))
theorem i_599 : (Jvm.Cond.selects "NeighbourDesk$Frames" ({ cls := "NeighbourDesk$Frames", name := "isPacket", desc := "(I)Z" } : Jvm.MethodName) ({ cls := "NeighbourDesk$Frames", name := "isPacket", desc := "(I)Z" } : Jvm.MethodName)) ∈ lw_tbl := List.mem_append_right _ (List.mem_of_getElem? (i := 599) (by decide +kernel))
theorem i_600 : (Jvm.Cond.code ({ cls := "NeighbourDesk$Frames", name := "isPacket", desc := "(I)Z" } : Jvm.MethodName) prog_4_method_4_code (2 : Nat) (Option.some Jvm.ClassFile.FieldType.boolean)) ∈ lw_tbl := List.mem_append_right _ (List.mem_of_getElem? (i := 600) (by decide +kernel))
theorem i_601 : (Jvm.Cond.methodLink "NeighbourDesk$Frames" (44 : Nat) ({ cls := "NeighbourDesk$Ring", name := "slotOf", desc := "(I)I" } : Jvm.MethodName)) ∈ lw_tbl := List.mem_append_right _ (List.mem_of_getElem? (i := 601) (by decide +kernel))
theorem i_602 : (Jvm.Cond.methodLink "NeighbourDesk" (206 : Nat) ({ cls := "NeighbourDesk$Frames", name := "byteOf", desc := "(II)I" } : Jvm.MethodName)) ∈ lw_tbl := List.mem_append_right _ (List.mem_of_getElem? (i := 602) (by decide +kernel))
theorem i_603 : (Jvm.Cond.instanceMethod ({ cls := "NeighbourDesk$Frames", name := "byteOf", desc := "(II)I" } : Jvm.MethodName)) ∈ lw_tbl := List.mem_append_right _ (List.mem_of_getElem? (i := 603) (by decide +kernel))
theorem i_604 : (Jvm.Cond.selects "NeighbourDesk$Frames" ({ cls := "NeighbourDesk$Frames", name := "byteOf", desc := "(II)I" } : Jvm.MethodName) ({ cls := "NeighbourDesk$Frames", name := "byteOf", desc := "(II)I" } : Jvm.MethodName)) ∈ lw_tbl := List.mem_append_right _ (List.mem_of_getElem? (i := 604) (by decide +kernel))
theorem i_605 : (Jvm.Cond.code ({ cls := "NeighbourDesk$Frames", name := "byteOf", desc := "(II)I" } : Jvm.MethodName) prog_4_method_5_code (3 : Nat) (Option.some Jvm.ClassFile.FieldType.int)) ∈ lw_tbl := List.mem_append_right _ (List.mem_of_getElem? (i := 605) (by decide +kernel))
theorem i_606 : (Jvm.Cond.methodLink "NeighbourDeskLaw" (146 : Nat) ({ cls := "NeighbourDeskLaw", name := "lost", desc := "(LNeighbourDesk;I[J)I" } : Jvm.MethodName)) ∈ lw_tbl := List.mem_append_right _ (List.mem_of_getElem? (i := 606) (by decide +kernel))
theorem i_607 : (Jvm.Cond.static ({ cls := "NeighbourDeskLaw", name := "lost", desc := "(LNeighbourDesk;I[J)I" } : Jvm.MethodName)) ∈ lw_tbl := List.mem_append_right _ (List.mem_of_getElem? (i := 607) (by decide +kernel))
theorem i_608 : (Jvm.Cond.codeWith ({ cls := "NeighbourDeskLaw", name := "lost", desc := "(LNeighbourDesk;I[J)I" } : Jvm.MethodName) method_16_code (4 : Nat) (Option.some Jvm.ClassFile.FieldType.int) [((0 : Nat), (9 : Nat), (12 : Nat), (39 : Nat))]) ∈ lw_tbl := List.mem_append_right _ (List.mem_of_getElem? (i := 608) (by decide +kernel))
theorem i_609 : (Jvm.Cond.methodLink "NeighbourDeskLaw" (62 : Nat) ({ cls := "NeighbourDesk", name := "lost", desc := "(I)I" } : Jvm.MethodName)) ∈ lw_tbl := List.mem_append_right _ (List.mem_of_getElem? (i := 609) (by decide +kernel))
theorem i_610 : (Jvm.Cond.instanceMethod ({ cls := "NeighbourDesk", name := "lost", desc := "(I)I" } : Jvm.MethodName)) ∈ lw_tbl := List.mem_append_right _ (List.mem_of_getElem? (i := 610) (by decide +kernel))
theorem i_611 : (Jvm.Cond.selects "NeighbourDesk" ({ cls := "NeighbourDesk", name := "lost", desc := "(I)I" } : Jvm.MethodName) ({ cls := "NeighbourDesk", name := "lost", desc := "(I)I" } : Jvm.MethodName)) ∈ lw_tbl := List.mem_append_right _ (List.mem_of_getElem? (i := 611) (by decide +kernel))
theorem i_612 : (Jvm.Cond.code ({ cls := "NeighbourDesk", name := "lost", desc := "(I)I" } : Jvm.MethodName) prog_1_method_19_code (2 : Nat) (Option.some Jvm.ClassFile.FieldType.int)) ∈ lw_tbl := List.mem_append_right _ (List.mem_of_getElem? (i := 612) (by decide +kernel))
theorem i_613 : (Jvm.Cond.classLink "NeighbourDeskLaw" (74 : Nat) "NeighbourDeskModel") ∈ lw_tbl := List.mem_append_right _ (List.mem_of_getElem? (i := 613) (by decide +kernel))
theorem i_614 : (Jvm.Cond.instantiable "NeighbourDeskModel" (27 : Nat)) ∈ lw_tbl := List.mem_append_right _ (List.mem_of_getElem? (i := 614) (by decide +kernel))
theorem i_615 : (Jvm.Cond.methodLink "NeighbourDeskLaw" (76 : Nat) ({ cls := "NeighbourDeskModel", name := "<init>", desc := "(III)V" } : Jvm.MethodName)) ∈ lw_tbl := List.mem_append_right _ (List.mem_of_getElem? (i := 615) (by decide +kernel))
theorem i_616 : (Jvm.Cond.instanceMethod ({ cls := "NeighbourDeskModel", name := "<init>", desc := "(III)V" } : Jvm.MethodName)) ∈ lw_tbl := List.mem_append_right _ (List.mem_of_getElem? (i := 616) (by decide +kernel))
theorem i_617 : (Jvm.Cond.code ({ cls := "NeighbourDeskModel", name := "<init>", desc := "(III)V" } : Jvm.MethodName) prog_10_method_1_code (4 : Nat) (Option.none : Option Jvm.ClassFile.FieldType)) ∈ lw_tbl := List.mem_append_right _ (List.mem_of_getElem? (i := 617) (by decide +kernel))
theorem i_618 : (Jvm.Cond.methodLink "NeighbourDeskModel" (1 : Nat) ({ cls := "java/lang/Object", name := "<init>", desc := "()V" } : Jvm.MethodName)) ∈ lw_tbl := List.mem_append_right _ (List.mem_of_getElem? (i := 618) (by decide +kernel))
theorem i_619 : (Jvm.Cond.constantLong "NeighbourDeskModel" (7 : Nat) (2 : Int64)) ∈ lw_tbl := List.mem_append_right _ (List.mem_of_getElem? (i := 619) (by decide +kernel))
theorem i_620 : (Jvm.Cond.fieldLink "NeighbourDeskModel" (70 : Nat) "NeighbourDeskModel" "thrown" "I") ∈ lw_tbl := List.mem_append_right _ (List.mem_of_getElem? (i := 620) (by decide +kernel))
theorem i_621 : (Jvm.Cond.fieldLink "NeighbourDeskModel" (61 : Nat) "NeighbourDeskModel" "capacity" "I") ∈ lw_tbl := List.mem_append_right _ (List.mem_of_getElem? (i := 621) (by decide +kernel))
theorem i_622 : (Jvm.Cond.fieldLink "NeighbourDeskModel" (64 : Nat) "NeighbourDeskModel" "reach" "I") ∈ lw_tbl := List.mem_append_right _ (List.mem_of_getElem? (i := 622) (by decide +kernel))
theorem i_623 : (Jvm.Cond.fieldLink "NeighbourDeskModel" (67 : Nat) "NeighbourDeskModel" "age" "I") ∈ lw_tbl := List.mem_append_right _ (List.mem_of_getElem? (i := 623) (by decide +kernel))
theorem i_624 : (Jvm.Cond.fieldLink "NeighbourDeskModel" (9 : Nat) "NeighbourDeskModel" "here" "J") ∈ lw_tbl := List.mem_append_right _ (List.mem_of_getElem? (i := 624) (by decide +kernel))
theorem i_625 : (Jvm.Cond.fieldLink "NeighbourDeskModel" (118 : Nat) "NeighbourDeskModel" "time" "I") ∈ lw_tbl := List.mem_append_right _ (List.mem_of_getElem? (i := 625) (by decide +kernel))
theorem i_626 : (Jvm.Cond.fieldLink "NeighbourDeskModel" (92 : Nat) "NeighbourDeskModel" "own" "I") ∈ lw_tbl := List.mem_append_right _ (List.mem_of_getElem? (i := 626) (by decide +kernel))
theorem i_627 : (Jvm.Cond.fieldLink "NeighbourDeskModel" (75 : Nat) "NeighbourDeskModel" "phase" "I") ∈ lw_tbl := List.mem_append_right _ (List.mem_of_getElem? (i := 627) (by decide +kernel))
theorem i_628 : (Jvm.Cond.fieldLink "NeighbourDeskModel" (163 : Nat) "NeighbourDeskModel" "claimed" "I") ∈ lw_tbl := List.mem_append_right _ (List.mem_of_getElem? (i := 628) (by decide +kernel))
theorem i_629 : (Jvm.Cond.fieldLink "NeighbourDeskModel" (15 : Nat) "NeighbourDeskModel" "defended" "I") ∈ lw_tbl := List.mem_append_right _ (List.mem_of_getElem? (i := 629) (by decide +kernel))
theorem i_630 : (Jvm.Cond.fieldLink "NeighbourDeskModel" (19 : Nat) "NeighbourDeskModel" "tape" "[I") ∈ lw_tbl := List.mem_append_right _ (List.mem_of_getElem? (i := 630) (by decide +kernel))
theorem i_631 : (Jvm.Cond.fieldLink "NeighbourDeskModel" (78 : Nat) "NeighbourDeskModel" "taped" "I") ∈ lw_tbl := List.mem_append_right _ (List.mem_of_getElem? (i := 631) (by decide +kernel))
theorem i_632 : (Jvm.Cond.fieldLink "NeighbourDeskModel" (104 : Nat) "NeighbourDeskModel" "entries" "I") ∈ lw_tbl := List.mem_append_right _ (List.mem_of_getElem? (i := 632) (by decide +kernel))
theorem i_633 : (Jvm.Cond.fieldLink "NeighbourDeskModel" (23 : Nat) "NeighbourDeskModel" "addresses" "[I") ∈ lw_tbl := List.mem_append_right _ (List.mem_of_getElem? (i := 633) (by decide +kernel))
theorem i_634 : (Jvm.Cond.fieldLink "NeighbourDeskModel" (26 : Nat) "NeighbourDeskModel" "kinds" "[I") ∈ lw_tbl := List.mem_append_right _ (List.mem_of_getElem? (i := 634) (by decide +kernel))
theorem i_635 : (Jvm.Cond.fieldLink "NeighbourDeskModel" (29 : Nat) "NeighbourDeskModel" "hardware" "[J") ∈ lw_tbl := List.mem_append_right _ (List.mem_of_getElem? (i := 635) (by decide +kernel))
theorem i_636 : (Jvm.Cond.fieldLink "NeighbourDeskModel" (33 : Nat) "NeighbourDeskModel" "since" "[I") ∈ lw_tbl := List.mem_append_right _ (List.mem_of_getElem? (i := 636) (by decide +kernel))
theorem i_637 : (Jvm.Cond.fieldLink "NeighbourDeskModel" (36 : Nat) "NeighbourDeskModel" "used" "[I") ∈ lw_tbl := List.mem_append_right _ (List.mem_of_getElem? (i := 637) (by decide +kernel))
theorem i_638 : (Jvm.Cond.fieldLink "NeighbourDeskModel" (39 : Nat) "NeighbourDeskModel" "waiting" "[I") ∈ lw_tbl := List.mem_append_right _ (List.mem_of_getElem? (i := 638) (by decide +kernel))
theorem i_639 : (Jvm.Cond.fieldLink "NeighbourDeskModel" (42 : Nat) "NeighbourDeskModel" "waits" "[I") ∈ lw_tbl := List.mem_append_right _ (List.mem_of_getElem? (i := 639) (by decide +kernel))
theorem i_640 : (Jvm.Cond.fieldLink "NeighbourDeskModel" (89 : Nat) "NeighbourDeskModel" "frames" "I") ∈ lw_tbl := List.mem_append_right _ (List.mem_of_getElem? (i := 640) (by decide +kernel))
theorem i_641 : (Jvm.Cond.fieldLink "NeighbourDeskModel" (45 : Nat) "NeighbourDeskModel" "frameTo" "[J") ∈ lw_tbl := List.mem_append_right _ (List.mem_of_getElem? (i := 641) (by decide +kernel))
theorem i_642 : (Jvm.Cond.fieldLink "NeighbourDeskModel" (48 : Nat) "NeighbourDeskModel" "frameData" "[I") ∈ lw_tbl := List.mem_append_right _ (List.mem_of_getElem? (i := 642) (by decide +kernel))
theorem i_643 : (Jvm.Cond.fieldLink "NeighbourDeskModel" (51 : Nat) "NeighbourDeskModel" "framePacket" "[Z") ∈ lw_tbl := List.mem_append_right _ (List.mem_of_getElem? (i := 643) (by decide +kernel))
theorem i_644 : (Jvm.Cond.fieldLink "NeighbourDeskModel" (55 : Nat) "NeighbourDeskModel" "frameBytes" "[I") ∈ lw_tbl := List.mem_append_right _ (List.mem_of_getElem? (i := 644) (by decide +kernel))
theorem i_645 : (Jvm.Cond.fieldLink "NeighbourDeskModel" (101 : Nat) "NeighbourDeskModel" "lost" "I") ∈ lw_tbl := List.mem_append_right _ (List.mem_of_getElem? (i := 645) (by decide +kernel))
theorem i_646 : (Jvm.Cond.fieldLink "NeighbourDeskModel" (58 : Nat) "NeighbourDeskModel" "lostNumbers" "[I") ∈ lw_tbl := List.mem_append_right _ (List.mem_of_getElem? (i := 646) (by decide +kernel))
theorem i_701 : (Jvm.Cond.superclass "NeighbourDeskModel" "java/lang/Object") ∈ lw_tbl := List.mem_append_right _ (List.mem_of_getElem? (i := 701) (by decide +kernel))
theorem i_702 : (Jvm.Cond.methodLink "NeighbourDeskLaw" (83 : Nat) ({ cls := "NeighbourDeskModel", name := "thrown", desc := "()I" } : Jvm.MethodName)) ∈ lw_tbl := List.mem_append_right _ (List.mem_of_getElem? (i := 702) (by decide +kernel))
theorem i_703 : (Jvm.Cond.instanceMethod ({ cls := "NeighbourDeskModel", name := "thrown", desc := "()I" } : Jvm.MethodName)) ∈ lw_tbl := List.mem_append_right _ (List.mem_of_getElem? (i := 703) (by decide +kernel))
theorem i_704 : (Jvm.Cond.selects "NeighbourDeskModel" ({ cls := "NeighbourDeskModel", name := "thrown", desc := "()I" } : Jvm.MethodName) ({ cls := "NeighbourDeskModel", name := "thrown", desc := "()I" } : Jvm.MethodName)) ∈ lw_tbl := List.mem_append_right _ (List.mem_of_getElem? (i := 704) (by decide +kernel))
theorem i_705 : (Jvm.Cond.code ({ cls := "NeighbourDeskModel", name := "thrown", desc := "()I" } : Jvm.MethodName) prog_10_method_2_code (1 : Nat) (Option.some Jvm.ClassFile.FieldType.int)) ∈ lw_tbl := List.mem_append_right _ (List.mem_of_getElem? (i := 705) (by decide +kernel))
theorem i_706 : (Jvm.Cond.methodLink "NeighbourDeskLaw" (82 : Nat) ({ cls := "NeighbourDeskModel", name := "here", desc := "(J)V" } : Jvm.MethodName)) ∈ lw_tbl := List.mem_append_right _ (List.mem_of_getElem? (i := 706) (by decide +kernel))
theorem i_707 : (Jvm.Cond.instanceMethod ({ cls := "NeighbourDeskModel", name := "here", desc := "(J)V" } : Jvm.MethodName)) ∈ lw_tbl := List.mem_append_right _ (List.mem_of_getElem? (i := 707) (by decide +kernel))
theorem i_708 : (Jvm.Cond.selects "NeighbourDeskModel" ({ cls := "NeighbourDeskModel", name := "here", desc := "(J)V" } : Jvm.MethodName) ({ cls := "NeighbourDeskModel", name := "here", desc := "(J)V" } : Jvm.MethodName)) ∈ lw_tbl := List.mem_append_right _ (List.mem_of_getElem? (i := 708) (by decide +kernel))
theorem i_709 : (Jvm.Cond.code ({ cls := "NeighbourDeskModel", name := "here", desc := "(J)V" } : Jvm.MethodName) prog_10_method_3_code (3 : Nat) (Option.none : Option Jvm.ClassFile.FieldType)) ∈ lw_tbl := List.mem_append_right _ (List.mem_of_getElem? (i := 709) (by decide +kernel))
theorem i_710 : (Jvm.Cond.constantLong "NeighbourDeskModel" (73 : Nat) (281474976710654 : Int64)) ∈ lw_tbl := List.mem_append_right _ (List.mem_of_getElem? (i := 710) (by decide +kernel))
theorem i_711 : (Jvm.Cond.methodLink "NeighbourDeskLaw" (90 : Nat) ({ cls := "NeighbourDeskModel", name := "type", desc := "(JI)I" } : Jvm.MethodName)) ∈ lw_tbl := List.mem_append_right _ (List.mem_of_getElem? (i := 711) (by decide +kernel))
theorem i_712 : (Jvm.Cond.instanceMethod ({ cls := "NeighbourDeskModel", name := "type", desc := "(JI)I" } : Jvm.MethodName)) ∈ lw_tbl := List.mem_append_right _ (List.mem_of_getElem? (i := 712) (by decide +kernel))
theorem i_713 : (Jvm.Cond.selects "NeighbourDeskModel" ({ cls := "NeighbourDeskModel", name := "type", desc := "(JI)I" } : Jvm.MethodName) ({ cls := "NeighbourDeskModel", name := "type", desc := "(JI)I" } : Jvm.MethodName)) ∈ lw_tbl := List.mem_append_right _ (List.mem_of_getElem? (i := 713) (by decide +kernel))
theorem i_714 : (Jvm.Cond.code ({ cls := "NeighbourDeskModel", name := "type", desc := "(JI)I" } : Jvm.MethodName) prog_10_method_4_code (5 : Nat) (Option.some Jvm.ClassFile.FieldType.int)) ∈ lw_tbl := List.mem_append_right _ (List.mem_of_getElem? (i := 714) (by decide +kernel))
theorem i_715 : (Jvm.Cond.methodLink "NeighbourDeskLaw" (95 : Nat) ({ cls := "NeighbourDeskModel", name := "pack", desc := "(IJIJI)V" } : Jvm.MethodName)) ∈ lw_tbl := List.mem_append_right _ (List.mem_of_getElem? (i := 715) (by decide +kernel))
theorem i_716 : (Jvm.Cond.instanceMethod ({ cls := "NeighbourDeskModel", name := "pack", desc := "(IJIJI)V" } : Jvm.MethodName)) ∈ lw_tbl := List.mem_append_right _ (List.mem_of_getElem? (i := 716) (by decide +kernel))
theorem i_717 : (Jvm.Cond.selects "NeighbourDeskModel" ({ cls := "NeighbourDeskModel", name := "pack", desc := "(IJIJI)V" } : Jvm.MethodName) ({ cls := "NeighbourDeskModel", name := "pack", desc := "(IJIJI)V" } : Jvm.MethodName)) ∈ lw_tbl := List.mem_append_right _ (List.mem_of_getElem? (i := 717) (by decide +kernel))
theorem i_718 : (Jvm.Cond.code ({ cls := "NeighbourDeskModel", name := "pack", desc := "(IJIJI)V" } : Jvm.MethodName) prog_10_method_6_code (9 : Nat) (Option.none : Option Jvm.ClassFile.FieldType)) ∈ lw_tbl := List.mem_append_right _ (List.mem_of_getElem? (i := 718) (by decide +kernel))
theorem i_719 : (Jvm.Cond.methodLink "NeighbourDeskModel" (81 : Nat) ({ cls := "NeighbourDeskModel", name := "byteOf", desc := "(IIJIJI)I" } : Jvm.MethodName)) ∈ lw_tbl := List.mem_append_right _ (List.mem_of_getElem? (i := 719) (by decide +kernel))
theorem i_720 : (Jvm.Cond.static ({ cls := "NeighbourDeskModel", name := "byteOf", desc := "(IIJIJI)I" } : Jvm.MethodName)) ∈ lw_tbl := List.mem_append_right _ (List.mem_of_getElem? (i := 720) (by decide +kernel))
theorem i_721 : (Jvm.Cond.code ({ cls := "NeighbourDeskModel", name := "byteOf", desc := "(IIJIJI)I" } : Jvm.MethodName) prog_10_method_5_code (8 : Nat) (Option.some Jvm.ClassFile.FieldType.int)) ∈ lw_tbl := List.mem_append_right _ (List.mem_of_getElem? (i := 721) (by decide +kernel))
theorem i_722 : (Jvm.Cond.methodLink "NeighbourDeskLaw" (99 : Nat) ({ cls := "NeighbourDeskModel", name := "hear", desc := "()I" } : Jvm.MethodName)) ∈ lw_tbl := List.mem_append_right _ (List.mem_of_getElem? (i := 722) (by decide +kernel))
theorem i_723 : (Jvm.Cond.instanceMethod ({ cls := "NeighbourDeskModel", name := "hear", desc := "()I" } : Jvm.MethodName)) ∈ lw_tbl := List.mem_append_right _ (List.mem_of_getElem? (i := 723) (by decide +kernel))
theorem i_724 : (Jvm.Cond.selects "NeighbourDeskModel" ({ cls := "NeighbourDeskModel", name := "hear", desc := "()I" } : Jvm.MethodName) ({ cls := "NeighbourDeskModel", name := "hear", desc := "()I" } : Jvm.MethodName)) ∈ lw_tbl := List.mem_append_right _ (List.mem_of_getElem? (i := 724) (by decide +kernel))
theorem i_725 : (Jvm.Cond.code ({ cls := "NeighbourDeskModel", name := "hear", desc := "()I" } : Jvm.MethodName) prog_10_method_26_code (2 : Nat) (Option.some Jvm.ClassFile.FieldType.int)) ∈ lw_tbl := List.mem_append_right _ (List.mem_of_getElem? (i := 725) (by decide +kernel))
theorem i_726 : (Jvm.Cond.methodLink "NeighbourDeskModel" (160 : Nat) ({ cls := "NeighbourDeskModel", name := "heard", desc := "()I" } : Jvm.MethodName)) ∈ lw_tbl := List.mem_append_right _ (List.mem_of_getElem? (i := 726) (by decide +kernel))
theorem i_727 : (Jvm.Cond.privateMethod ({ cls := "NeighbourDeskModel", name := "heard", desc := "()I" } : Jvm.MethodName)) ∈ lw_tbl := List.mem_append_right _ (List.mem_of_getElem? (i := 727) (by decide +kernel))
theorem i_728 : (Jvm.Cond.instanceMethod ({ cls := "NeighbourDeskModel", name := "heard", desc := "()I" } : Jvm.MethodName)) ∈ lw_tbl := List.mem_append_right _ (List.mem_of_getElem? (i := 728) (by decide +kernel))
theorem i_729 : (Jvm.Cond.code ({ cls := "NeighbourDeskModel", name := "heard", desc := "()I" } : Jvm.MethodName) prog_10_method_25_code (7 : Nat) (Option.some Jvm.ClassFile.FieldType.int)) ∈ lw_tbl := List.mem_append_right _ (List.mem_of_getElem? (i := 729) (by decide +kernel))
theorem i_730 : (Jvm.Cond.methodLink "NeighbourDeskModel" (134 : Nat) ({ cls := "NeighbourDeskModel", name := "isBad", desc := "()Z" } : Jvm.MethodName)) ∈ lw_tbl := List.mem_append_right _ (List.mem_of_getElem? (i := 730) (by decide +kernel))
theorem i_731 : (Jvm.Cond.privateMethod ({ cls := "NeighbourDeskModel", name := "isBad", desc := "()Z" } : Jvm.MethodName)) ∈ lw_tbl := List.mem_append_right _ (List.mem_of_getElem? (i := 731) (by decide +kernel))
theorem i_732 : (Jvm.Cond.instanceMethod ({ cls := "NeighbourDeskModel", name := "isBad", desc := "()Z" } : Jvm.MethodName)) ∈ lw_tbl := List.mem_append_right _ (List.mem_of_getElem? (i := 732) (by decide +kernel))
theorem i_733 : (Jvm.Cond.code ({ cls := "NeighbourDeskModel", name := "isBad", desc := "()Z" } : Jvm.MethodName) prog_10_method_22_code (6 : Nat) (Option.some Jvm.ClassFile.FieldType.boolean)) ∈ lw_tbl := List.mem_append_right _ (List.mem_of_getElem? (i := 733) (by decide +kernel))
theorem i_734 : (Jvm.Cond.methodLink "NeighbourDeskModel" (85 : Nat) ({ cls := "NeighbourDeskModel", name := "number", desc := "(II)J" } : Jvm.MethodName)) ∈ lw_tbl := List.mem_append_right _ (List.mem_of_getElem? (i := 734) (by decide +kernel))
theorem i_735 : (Jvm.Cond.privateMethod ({ cls := "NeighbourDeskModel", name := "number", desc := "(II)J" } : Jvm.MethodName)) ∈ lw_tbl := List.mem_append_right _ (List.mem_of_getElem? (i := 735) (by decide +kernel))
theorem i_736 : (Jvm.Cond.instanceMethod ({ cls := "NeighbourDeskModel", name := "number", desc := "(II)J" } : Jvm.MethodName)) ∈ lw_tbl := List.mem_append_right _ (List.mem_of_getElem? (i := 736) (by decide +kernel))
theorem i_737 : (Jvm.Cond.code ({ cls := "NeighbourDeskModel", name := "number", desc := "(II)J" } : Jvm.MethodName) prog_10_method_7_code (6 : Nat) (Option.some Jvm.ClassFile.FieldType.long)) ∈ lw_tbl := List.mem_append_right _ (List.mem_of_getElem? (i := 737) (by decide +kernel))
theorem i_738 : (Jvm.Cond.constantLong "NeighbourDeskModel" (99 : Nat) (281474976710655 : Int64)) ∈ lw_tbl := List.mem_append_right _ (List.mem_of_getElem? (i := 738) (by decide +kernel))
theorem i_739 : (Jvm.Cond.methodLink "NeighbourDeskModel" (138 : Nat) ({ cls := "NeighbourDeskModel", name := "address", desc := "(I)I" } : Jvm.MethodName)) ∈ lw_tbl := List.mem_append_right _ (List.mem_of_getElem? (i := 739) (by decide +kernel))
theorem i_740 : (Jvm.Cond.privateMethod ({ cls := "NeighbourDeskModel", name := "address", desc := "(I)I" } : Jvm.MethodName)) ∈ lw_tbl := List.mem_append_right _ (List.mem_of_getElem? (i := 740) (by decide +kernel))
theorem i_741 : (Jvm.Cond.instanceMethod ({ cls := "NeighbourDeskModel", name := "address", desc := "(I)I" } : Jvm.MethodName)) ∈ lw_tbl := List.mem_append_right _ (List.mem_of_getElem? (i := 741) (by decide +kernel))
theorem i_742 : (Jvm.Cond.code ({ cls := "NeighbourDeskModel", name := "address", desc := "(I)I" } : Jvm.MethodName) prog_10_method_8_code (2 : Nat) (Option.some Jvm.ClassFile.FieldType.int)) ∈ lw_tbl := List.mem_append_right _ (List.mem_of_getElem? (i := 742) (by decide +kernel))
theorem i_743 : (Jvm.Cond.methodLink "NeighbourDeskModel" (142 : Nat) ({ cls := "NeighbourDeskModel", name := "conflict", desc := "()I" } : Jvm.MethodName)) ∈ lw_tbl := List.mem_append_right _ (List.mem_of_getElem? (i := 743) (by decide +kernel))
theorem i_744 : (Jvm.Cond.privateMethod ({ cls := "NeighbourDeskModel", name := "conflict", desc := "()I" } : Jvm.MethodName)) ∈ lw_tbl := List.mem_append_right _ (List.mem_of_getElem? (i := 744) (by decide +kernel))
theorem i_745 : (Jvm.Cond.instanceMethod ({ cls := "NeighbourDeskModel", name := "conflict", desc := "()I" } : Jvm.MethodName)) ∈ lw_tbl := List.mem_append_right _ (List.mem_of_getElem? (i := 745) (by decide +kernel))
theorem i_746 : (Jvm.Cond.code ({ cls := "NeighbourDeskModel", name := "conflict", desc := "()I" } : Jvm.MethodName) prog_10_method_23_code (1 : Nat) (Option.some Jvm.ClassFile.FieldType.int)) ∈ lw_tbl := List.mem_append_right _ (List.mem_of_getElem? (i := 746) (by decide +kernel))
theorem i_747 : (Jvm.Cond.methodLink "NeighbourDeskModel" (124 : Nat) ({ cls := "NeighbourDeskModel", name := "request", desc := "(JI)V" } : Jvm.MethodName)) ∈ lw_tbl := List.mem_append_right _ (List.mem_of_getElem? (i := 747) (by decide +kernel))
theorem i_748 : (Jvm.Cond.privateMethod ({ cls := "NeighbourDeskModel", name := "request", desc := "(JI)V" } : Jvm.MethodName)) ∈ lw_tbl := List.mem_append_right _ (List.mem_of_getElem? (i := 748) (by decide +kernel))
theorem i_749 : (Jvm.Cond.instanceMethod ({ cls := "NeighbourDeskModel", name := "request", desc := "(JI)V" } : Jvm.MethodName)) ∈ lw_tbl := List.mem_append_right _ (List.mem_of_getElem? (i := 749) (by decide +kernel))
theorem i_750 : (Jvm.Cond.code ({ cls := "NeighbourDeskModel", name := "request", desc := "(JI)V" } : Jvm.MethodName) prog_10_method_11_code (4 : Nat) (Option.none : Option Jvm.ClassFile.FieldType)) ∈ lw_tbl := List.mem_append_right _ (List.mem_of_getElem? (i := 750) (by decide +kernel))
theorem i_751 : (Jvm.Cond.methodLink "NeighbourDeskModel" (95 : Nat) ({ cls := "NeighbourDeskModel", name := "sendPacket", desc := "(JIIJI)V" } : Jvm.MethodName)) ∈ lw_tbl := List.mem_append_right _ (List.mem_of_getElem? (i := 751) (by decide +kernel))
theorem i_752 : (Jvm.Cond.privateMethod ({ cls := "NeighbourDeskModel", name := "sendPacket", desc := "(JIIJI)V" } : Jvm.MethodName)) ∈ lw_tbl := List.mem_append_right _ (List.mem_of_getElem? (i := 752) (by decide +kernel))
theorem i_753 : (Jvm.Cond.instanceMethod ({ cls := "NeighbourDeskModel", name := "sendPacket", desc := "(JIIJI)V" } : Jvm.MethodName)) ∈ lw_tbl := List.mem_append_right _ (List.mem_of_getElem? (i := 753) (by decide +kernel))
theorem i_754 : (Jvm.Cond.code ({ cls := "NeighbourDeskModel", name := "sendPacket", desc := "(JIIJI)V" } : Jvm.MethodName) prog_10_method_9_code (10 : Nat) (Option.none : Option Jvm.ClassFile.FieldType)) ∈ lw_tbl := List.mem_append_right _ (List.mem_of_getElem? (i := 754) (by decide +kernel))
theorem i_755 : (Jvm.Cond.methodLink "NeighbourDeskModel" (128 : Nat) ({ cls := "NeighbourDeskModel", name := "giveUp", desc := "()V" } : Jvm.MethodName)) ∈ lw_tbl := List.mem_append_right _ (List.mem_of_getElem? (i := 755) (by decide +kernel))
theorem i_756 : (Jvm.Cond.privateMethod ({ cls := "NeighbourDeskModel", name := "giveUp", desc := "()V" } : Jvm.MethodName)) ∈ lw_tbl := List.mem_append_right _ (List.mem_of_getElem? (i := 756) (by decide +kernel))
theorem i_757 : (Jvm.Cond.instanceMethod ({ cls := "NeighbourDeskModel", name := "giveUp", desc := "()V" } : Jvm.MethodName)) ∈ lw_tbl := List.mem_append_right _ (List.mem_of_getElem? (i := 757) (by decide +kernel))
theorem i_758 : (Jvm.Cond.code ({ cls := "NeighbourDeskModel", name := "giveUp", desc := "()V" } : Jvm.MethodName) prog_10_method_21_code (1 : Nat) (Option.none : Option Jvm.ClassFile.FieldType)) ∈ lw_tbl := List.mem_append_right _ (List.mem_of_getElem? (i := 758) (by decide +kernel))
theorem i_759 : (Jvm.Cond.methodLink "NeighbourDeskModel" (121 : Nat) ({ cls := "NeighbourDeskModel", name := "goes", desc := "(I)V" } : Jvm.MethodName)) ∈ lw_tbl := List.mem_append_right _ (List.mem_of_getElem? (i := 759) (by decide +kernel))
theorem i_760 : (Jvm.Cond.privateMethod ({ cls := "NeighbourDeskModel", name := "goes", desc := "(I)V" } : Jvm.MethodName)) ∈ lw_tbl := List.mem_append_right _ (List.mem_of_getElem? (i := 760) (by decide +kernel))
theorem i_761 : (Jvm.Cond.instanceMethod ({ cls := "NeighbourDeskModel", name := "goes", desc := "(I)V" } : Jvm.MethodName)) ∈ lw_tbl := List.mem_append_right _ (List.mem_of_getElem? (i := 761) (by decide +kernel))
theorem i_762 : (Jvm.Cond.code ({ cls := "NeighbourDeskModel", name := "goes", desc := "(I)V" } : Jvm.MethodName) prog_10_method_17_code (3 : Nat) (Option.none : Option Jvm.ClassFile.FieldType)) ∈ lw_tbl := List.mem_append_right _ (List.mem_of_getElem? (i := 762) (by decide +kernel))
theorem i_763 : (Jvm.Cond.methodLink "NeighbourDeskModel" (111 : Nat) ({ cls := "NeighbourDeskModel", name := "lose", desc := "(I)V" } : Jvm.MethodName)) ∈ lw_tbl := List.mem_append_right _ (List.mem_of_getElem? (i := 763) (by decide +kernel))
theorem i_764 : (Jvm.Cond.privateMethod ({ cls := "NeighbourDeskModel", name := "lose", desc := "(I)V" } : Jvm.MethodName)) ∈ lw_tbl := List.mem_append_right _ (List.mem_of_getElem? (i := 764) (by decide +kernel))
theorem i_765 : (Jvm.Cond.instanceMethod ({ cls := "NeighbourDeskModel", name := "lose", desc := "(I)V" } : Jvm.MethodName)) ∈ lw_tbl := List.mem_append_right _ (List.mem_of_getElem? (i := 765) (by decide +kernel))
theorem i_766 : (Jvm.Cond.code ({ cls := "NeighbourDeskModel", name := "lose", desc := "(I)V" } : Jvm.MethodName) prog_10_method_13_code (2 : Nat) (Option.none : Option Jvm.ClassFile.FieldType)) ∈ lw_tbl := List.mem_append_right _ (List.mem_of_getElem? (i := 766) (by decide +kernel))
theorem i_767 : (Jvm.Cond.methodLink "NeighbourDeskModel" (115 : Nat) ({ cls := "NeighbourDeskModel", name := "take", desc := "(I)V" } : Jvm.MethodName)) ∈ lw_tbl := List.mem_append_right _ (List.mem_of_getElem? (i := 767) (by decide +kernel))
theorem i_768 : (Jvm.Cond.privateMethod ({ cls := "NeighbourDeskModel", name := "take", desc := "(I)V" } : Jvm.MethodName)) ∈ lw_tbl := List.mem_append_right _ (List.mem_of_getElem? (i := 768) (by decide +kernel))
theorem i_769 : (Jvm.Cond.instanceMethod ({ cls := "NeighbourDeskModel", name := "take", desc := "(I)V" } : Jvm.MethodName)) ∈ lw_tbl := List.mem_append_right _ (List.mem_of_getElem? (i := 769) (by decide +kernel))
theorem i_770 : (Jvm.Cond.code ({ cls := "NeighbourDeskModel", name := "take", desc := "(I)V" } : Jvm.MethodName) prog_10_method_16_code (3 : Nat) (Option.none : Option Jvm.ClassFile.FieldType)) ∈ lw_tbl := List.mem_append_right _ (List.mem_of_getElem? (i := 770) (by decide +kernel))
theorem i_771 : (Jvm.Cond.methodLink "NeighbourDeskModel" (107 : Nat) ({ cls := "NeighbourDeskModel", name := "move", desc := "(II)V" } : Jvm.MethodName)) ∈ lw_tbl := List.mem_append_right _ (List.mem_of_getElem? (i := 771) (by decide +kernel))
theorem i_772 : (Jvm.Cond.privateMethod ({ cls := "NeighbourDeskModel", name := "move", desc := "(II)V" } : Jvm.MethodName)) ∈ lw_tbl := List.mem_append_right _ (List.mem_of_getElem? (i := 772) (by decide +kernel))
theorem i_773 : (Jvm.Cond.instanceMethod ({ cls := "NeighbourDeskModel", name := "move", desc := "(II)V" } : Jvm.MethodName)) ∈ lw_tbl := List.mem_append_right _ (List.mem_of_getElem? (i := 773) (by decide +kernel))
theorem i_774 : (Jvm.Cond.code ({ cls := "NeighbourDeskModel", name := "move", desc := "(II)V" } : Jvm.MethodName) prog_10_method_15_code (4 : Nat) (Option.none : Option Jvm.ClassFile.FieldType)) ∈ lw_tbl := List.mem_append_right _ (List.mem_of_getElem? (i := 774) (by decide +kernel))
theorem i_775 : (Jvm.Cond.methodLink "NeighbourDeskModel" (146 : Nat) ({ cls := "NeighbourDeskModel", name := "find", desc := "(I)I" } : Jvm.MethodName)) ∈ lw_tbl := List.mem_append_right _ (List.mem_of_getElem? (i := 775) (by decide +kernel))
theorem i_776 : (Jvm.Cond.privateMethod ({ cls := "NeighbourDeskModel", name := "find", desc := "(I)I" } : Jvm.MethodName)) ∈ lw_tbl := List.mem_append_right _ (List.mem_of_getElem? (i := 776) (by decide +kernel))
theorem i_777 : (Jvm.Cond.instanceMethod ({ cls := "NeighbourDeskModel", name := "find", desc := "(I)I" } : Jvm.MethodName)) ∈ lw_tbl := List.mem_append_right _ (List.mem_of_getElem? (i := 777) (by decide +kernel))
theorem i_778 : (Jvm.Cond.code ({ cls := "NeighbourDeskModel", name := "find", desc := "(I)I" } : Jvm.MethodName) prog_10_method_14_code (4 : Nat) (Option.some Jvm.ClassFile.FieldType.int)) ∈ lw_tbl := List.mem_append_right _ (List.mem_of_getElem? (i := 778) (by decide +kernel))
theorem i_779 : (Jvm.Cond.methodLink "NeighbourDeskModel" (149 : Nat) ({ cls := "NeighbourDeskModel", name := "learn", desc := "(IJ)V" } : Jvm.MethodName)) ∈ lw_tbl := List.mem_append_right _ (List.mem_of_getElem? (i := 779) (by decide +kernel))
theorem i_780 : (Jvm.Cond.privateMethod ({ cls := "NeighbourDeskModel", name := "learn", desc := "(IJ)V" } : Jvm.MethodName)) ∈ lw_tbl := List.mem_append_right _ (List.mem_of_getElem? (i := 780) (by decide +kernel))
theorem i_781 : (Jvm.Cond.instanceMethod ({ cls := "NeighbourDeskModel", name := "learn", desc := "(IJ)V" } : Jvm.MethodName)) ∈ lw_tbl := List.mem_append_right _ (List.mem_of_getElem? (i := 781) (by decide +kernel))
theorem i_782 : (Jvm.Cond.code ({ cls := "NeighbourDeskModel", name := "learn", desc := "(IJ)V" } : Jvm.MethodName) prog_10_method_24_code (6 : Nat) (Option.none : Option Jvm.ClassFile.FieldType)) ∈ lw_tbl := List.mem_append_right _ (List.mem_of_getElem? (i := 782) (by decide +kernel))
theorem i_783 : (Jvm.Cond.methodLink "NeighbourDeskModel" (131 : Nat) ({ cls := "NeighbourDeskModel", name := "sendData", desc := "(JI)V" } : Jvm.MethodName)) ∈ lw_tbl := List.mem_append_right _ (List.mem_of_getElem? (i := 783) (by decide +kernel))
theorem i_784 : (Jvm.Cond.privateMethod ({ cls := "NeighbourDeskModel", name := "sendData", desc := "(JI)V" } : Jvm.MethodName)) ∈ lw_tbl := List.mem_append_right _ (List.mem_of_getElem? (i := 784) (by decide +kernel))
theorem i_785 : (Jvm.Cond.instanceMethod ({ cls := "NeighbourDeskModel", name := "sendData", desc := "(JI)V" } : Jvm.MethodName)) ∈ lw_tbl := List.mem_append_right _ (List.mem_of_getElem? (i := 785) (by decide +kernel))
theorem i_786 : (Jvm.Cond.code ({ cls := "NeighbourDeskModel", name := "sendData", desc := "(JI)V" } : Jvm.MethodName) prog_10_method_10_code (5 : Nat) (Option.none : Option Jvm.ClassFile.FieldType)) ∈ lw_tbl := List.mem_append_right _ (List.mem_of_getElem? (i := 786) (by decide +kernel))
theorem i_787 : (Jvm.Cond.methodLink "NeighbourDeskModel" (153 : Nat) ({ cls := "NeighbourDeskModel", name := "makeRoom", desc := "()Z" } : Jvm.MethodName)) ∈ lw_tbl := List.mem_append_right _ (List.mem_of_getElem? (i := 787) (by decide +kernel))
theorem i_788 : (Jvm.Cond.privateMethod ({ cls := "NeighbourDeskModel", name := "makeRoom", desc := "()Z" } : Jvm.MethodName)) ∈ lw_tbl := List.mem_append_right _ (List.mem_of_getElem? (i := 788) (by decide +kernel))
theorem i_789 : (Jvm.Cond.instanceMethod ({ cls := "NeighbourDeskModel", name := "makeRoom", desc := "()Z" } : Jvm.MethodName)) ∈ lw_tbl := List.mem_append_right _ (List.mem_of_getElem? (i := 789) (by decide +kernel))
theorem i_790 : (Jvm.Cond.code ({ cls := "NeighbourDeskModel", name := "makeRoom", desc := "()Z" } : Jvm.MethodName) prog_10_method_19_code (2 : Nat) (Option.some Jvm.ClassFile.FieldType.boolean)) ∈ lw_tbl := List.mem_append_right _ (List.mem_of_getElem? (i := 790) (by decide +kernel))
theorem i_791 : (Jvm.Cond.methodLink "NeighbourDeskModel" (156 : Nat) ({ cls := "NeighbourDeskModel", name := "make", desc := "(IIJ)V" } : Jvm.MethodName)) ∈ lw_tbl := List.mem_append_right _ (List.mem_of_getElem? (i := 791) (by decide +kernel))
theorem i_792 : (Jvm.Cond.privateMethod ({ cls := "NeighbourDeskModel", name := "make", desc := "(IIJ)V" } : Jvm.MethodName)) ∈ lw_tbl := List.mem_append_right _ (List.mem_of_getElem? (i := 792) (by decide +kernel))
theorem i_793 : (Jvm.Cond.instanceMethod ({ cls := "NeighbourDeskModel", name := "make", desc := "(IIJ)V" } : Jvm.MethodName)) ∈ lw_tbl := List.mem_append_right _ (List.mem_of_getElem? (i := 793) (by decide +kernel))
theorem i_794 : (Jvm.Cond.code ({ cls := "NeighbourDeskModel", name := "make", desc := "(IIJ)V" } : Jvm.MethodName) prog_10_method_20_code (6 : Nat) (Option.none : Option Jvm.ClassFile.FieldType)) ∈ lw_tbl := List.mem_append_right _ (List.mem_of_getElem? (i := 794) (by decide +kernel))
theorem i_795 : (Jvm.Cond.methodLink "NeighbourDeskLaw" (103 : Nat) ({ cls := "NeighbourDeskModel", name := "claim", desc := "(I)V" } : Jvm.MethodName)) ∈ lw_tbl := List.mem_append_right _ (List.mem_of_getElem? (i := 795) (by decide +kernel))
theorem i_796 : (Jvm.Cond.instanceMethod ({ cls := "NeighbourDeskModel", name := "claim", desc := "(I)V" } : Jvm.MethodName)) ∈ lw_tbl := List.mem_append_right _ (List.mem_of_getElem? (i := 796) (by decide +kernel))
theorem i_797 : (Jvm.Cond.selects "NeighbourDeskModel" ({ cls := "NeighbourDeskModel", name := "claim", desc := "(I)V" } : Jvm.MethodName) ({ cls := "NeighbourDeskModel", name := "claim", desc := "(I)V" } : Jvm.MethodName)) ∈ lw_tbl := List.mem_append_right _ (List.mem_of_getElem? (i := 797) (by decide +kernel))
theorem i_798 : (Jvm.Cond.code ({ cls := "NeighbourDeskModel", name := "claim", desc := "(I)V" } : Jvm.MethodName) prog_10_method_27_code (2 : Nat) (Option.none : Option Jvm.ClassFile.FieldType)) ∈ lw_tbl := List.mem_append_right _ (List.mem_of_getElem? (i := 798) (by decide +kernel))
theorem i_799 : (Jvm.Cond.methodLink "NeighbourDeskModel" (166 : Nat) ({ cls := "NeighbourDeskModel", name := "probe", desc := "()V" } : Jvm.MethodName)) ∈ lw_tbl := List.mem_append_right _ (List.mem_of_getElem? (i := 799) (by decide +kernel))
theorem i_800 : (Jvm.Cond.privateMethod ({ cls := "NeighbourDeskModel", name := "probe", desc := "()V" } : Jvm.MethodName)) ∈ lw_tbl := List.mem_append_right _ (List.mem_of_getElem? (i := 800) (by decide +kernel))
theorem i_801 : (Jvm.Cond.instanceMethod ({ cls := "NeighbourDeskModel", name := "probe", desc := "()V" } : Jvm.MethodName)) ∈ lw_tbl := List.mem_append_right _ (List.mem_of_getElem? (i := 801) (by decide +kernel))
theorem i_802 : (Jvm.Cond.code ({ cls := "NeighbourDeskModel", name := "probe", desc := "()V" } : Jvm.MethodName) prog_10_method_12_code (1 : Nat) (Option.none : Option Jvm.ClassFile.FieldType)) ∈ lw_tbl := List.mem_append_right _ (List.mem_of_getElem? (i := 802) (by decide +kernel))
theorem i_803 : (Jvm.Cond.methodLink "NeighbourDeskLaw" (108 : Nat) ({ cls := "NeighbourDeskModel", name := "release", desc := "()Z" } : Jvm.MethodName)) ∈ lw_tbl := List.mem_append_right _ (List.mem_of_getElem? (i := 803) (by decide +kernel))
theorem i_804 : (Jvm.Cond.instanceMethod ({ cls := "NeighbourDeskModel", name := "release", desc := "()Z" } : Jvm.MethodName)) ∈ lw_tbl := List.mem_append_right _ (List.mem_of_getElem? (i := 804) (by decide +kernel))
theorem i_805 : (Jvm.Cond.selects "NeighbourDeskModel" ({ cls := "NeighbourDeskModel", name := "release", desc := "()Z" } : Jvm.MethodName) ({ cls := "NeighbourDeskModel", name := "release", desc := "()Z" } : Jvm.MethodName)) ∈ lw_tbl := List.mem_append_right _ (List.mem_of_getElem? (i := 805) (by decide +kernel))
theorem i_806 : (Jvm.Cond.code ({ cls := "NeighbourDeskModel", name := "release", desc := "()Z" } : Jvm.MethodName) prog_10_method_28_code (2 : Nat) (Option.some Jvm.ClassFile.FieldType.boolean)) ∈ lw_tbl := List.mem_append_right _ (List.mem_of_getElem? (i := 806) (by decide +kernel))
theorem i_807 : (Jvm.Cond.methodLink "NeighbourDeskLaw" (112 : Nat) ({ cls := "NeighbourDeskModel", name := "send", desc := "(II)I" } : Jvm.MethodName)) ∈ lw_tbl := List.mem_append_right _ (List.mem_of_getElem? (i := 807) (by decide +kernel))
theorem i_808 : (Jvm.Cond.instanceMethod ({ cls := "NeighbourDeskModel", name := "send", desc := "(II)I" } : Jvm.MethodName)) ∈ lw_tbl := List.mem_append_right _ (List.mem_of_getElem? (i := 808) (by decide +kernel))
theorem i_809 : (Jvm.Cond.selects "NeighbourDeskModel" ({ cls := "NeighbourDeskModel", name := "send", desc := "(II)I" } : Jvm.MethodName) ({ cls := "NeighbourDeskModel", name := "send", desc := "(II)I" } : Jvm.MethodName)) ∈ lw_tbl := List.mem_append_right _ (List.mem_of_getElem? (i := 809) (by decide +kernel))
theorem i_810 : (Jvm.Cond.code ({ cls := "NeighbourDeskModel", name := "send", desc := "(II)I" } : Jvm.MethodName) prog_10_method_29_code (6 : Nat) (Option.some Jvm.ClassFile.FieldType.int)) ∈ lw_tbl := List.mem_append_right _ (List.mem_of_getElem? (i := 810) (by decide +kernel))
theorem i_811 : (Jvm.Cond.methodLink "NeighbourDeskModel" (169 : Nat) ({ cls := "NeighbourDeskModel", name := "use", desc := "(I)V" } : Jvm.MethodName)) ∈ lw_tbl := List.mem_append_right _ (List.mem_of_getElem? (i := 811) (by decide +kernel))
theorem i_812 : (Jvm.Cond.privateMethod ({ cls := "NeighbourDeskModel", name := "use", desc := "(I)V" } : Jvm.MethodName)) ∈ lw_tbl := List.mem_append_right _ (List.mem_of_getElem? (i := 812) (by decide +kernel))
theorem i_813 : (Jvm.Cond.instanceMethod ({ cls := "NeighbourDeskModel", name := "use", desc := "(I)V" } : Jvm.MethodName)) ∈ lw_tbl := List.mem_append_right _ (List.mem_of_getElem? (i := 813) (by decide +kernel))
theorem i_814 : (Jvm.Cond.code ({ cls := "NeighbourDeskModel", name := "use", desc := "(I)V" } : Jvm.MethodName) prog_10_method_18_code (2 : Nat) (Option.none : Option Jvm.ClassFile.FieldType)) ∈ lw_tbl := List.mem_append_right _ (List.mem_of_getElem? (i := 814) (by decide +kernel))
theorem i_815 : (Jvm.Cond.methodLink "NeighbourDeskLaw" (116 : Nat) ({ cls := "NeighbourDeskModel", name := "tick", desc := "(I)I" } : Jvm.MethodName)) ∈ lw_tbl := List.mem_append_right _ (List.mem_of_getElem? (i := 815) (by decide +kernel))
theorem i_816 : (Jvm.Cond.instanceMethod ({ cls := "NeighbourDeskModel", name := "tick", desc := "(I)I" } : Jvm.MethodName)) ∈ lw_tbl := List.mem_append_right _ (List.mem_of_getElem? (i := 816) (by decide +kernel))
theorem i_817 : (Jvm.Cond.selects "NeighbourDeskModel" ({ cls := "NeighbourDeskModel", name := "tick", desc := "(I)I" } : Jvm.MethodName) ({ cls := "NeighbourDeskModel", name := "tick", desc := "(I)I" } : Jvm.MethodName)) ∈ lw_tbl := List.mem_append_right _ (List.mem_of_getElem? (i := 817) (by decide +kernel))
theorem i_818 : (Jvm.Cond.code ({ cls := "NeighbourDeskModel", name := "tick", desc := "(I)I" } : Jvm.MethodName) prog_10_method_32_code (4 : Nat) (Option.some Jvm.ClassFile.FieldType.int)) ∈ lw_tbl := List.mem_append_right _ (List.mem_of_getElem? (i := 818) (by decide +kernel))
theorem i_819 : (Jvm.Cond.methodLink "NeighbourDeskModel" (172 : Nat) ({ cls := "NeighbourDeskModel", name := "ownTick", desc := "()V" } : Jvm.MethodName)) ∈ lw_tbl := List.mem_append_right _ (List.mem_of_getElem? (i := 819) (by decide +kernel))
theorem i_820 : (Jvm.Cond.privateMethod ({ cls := "NeighbourDeskModel", name := "ownTick", desc := "()V" } : Jvm.MethodName)) ∈ lw_tbl := List.mem_append_right _ (List.mem_of_getElem? (i := 820) (by decide +kernel))
theorem i_821 : (Jvm.Cond.instanceMethod ({ cls := "NeighbourDeskModel", name := "ownTick", desc := "()V" } : Jvm.MethodName)) ∈ lw_tbl := List.mem_append_right _ (List.mem_of_getElem? (i := 821) (by decide +kernel))
theorem i_822 : (Jvm.Cond.code ({ cls := "NeighbourDeskModel", name := "ownTick", desc := "()V" } : Jvm.MethodName) prog_10_method_30_code (2 : Nat) (Option.none : Option Jvm.ClassFile.FieldType)) ∈ lw_tbl := List.mem_append_right _ (List.mem_of_getElem? (i := 822) (by decide +kernel))
theorem i_823 : (Jvm.Cond.methodLink "NeighbourDeskModel" (175 : Nat) ({ cls := "NeighbourDeskModel", name := "entryTick", desc := "(I)Z" } : Jvm.MethodName)) ∈ lw_tbl := List.mem_append_right _ (List.mem_of_getElem? (i := 823) (by decide +kernel))
theorem i_824 : (Jvm.Cond.privateMethod ({ cls := "NeighbourDeskModel", name := "entryTick", desc := "(I)Z" } : Jvm.MethodName)) ∈ lw_tbl := List.mem_append_right _ (List.mem_of_getElem? (i := 824) (by decide +kernel))
theorem i_825 : (Jvm.Cond.instanceMethod ({ cls := "NeighbourDeskModel", name := "entryTick", desc := "(I)Z" } : Jvm.MethodName)) ∈ lw_tbl := List.mem_append_right _ (List.mem_of_getElem? (i := 825) (by decide +kernel))
theorem i_826 : (Jvm.Cond.code ({ cls := "NeighbourDeskModel", name := "entryTick", desc := "(I)Z" } : Jvm.MethodName) prog_10_method_31_code (3 : Nat) (Option.some Jvm.ClassFile.FieldType.boolean)) ∈ lw_tbl := List.mem_append_right _ (List.mem_of_getElem? (i := 826) (by decide +kernel))
theorem i_827 : (Jvm.Cond.methodLink "NeighbourDeskLaw" (119 : Nat) ({ cls := "NeighbourDeskModel", name := "count", desc := "(I)I" } : Jvm.MethodName)) ∈ lw_tbl := List.mem_append_right _ (List.mem_of_getElem? (i := 827) (by decide +kernel))
theorem i_828 : (Jvm.Cond.instanceMethod ({ cls := "NeighbourDeskModel", name := "count", desc := "(I)I" } : Jvm.MethodName)) ∈ lw_tbl := List.mem_append_right _ (List.mem_of_getElem? (i := 828) (by decide +kernel))
theorem i_829 : (Jvm.Cond.selects "NeighbourDeskModel" ({ cls := "NeighbourDeskModel", name := "count", desc := "(I)I" } : Jvm.MethodName) ({ cls := "NeighbourDeskModel", name := "count", desc := "(I)I" } : Jvm.MethodName)) ∈ lw_tbl := List.mem_append_right _ (List.mem_of_getElem? (i := 829) (by decide +kernel))
theorem i_830 : (Jvm.Cond.code ({ cls := "NeighbourDeskModel", name := "count", desc := "(I)I" } : Jvm.MethodName) prog_10_method_33_code (4 : Nat) (Option.some Jvm.ClassFile.FieldType.int)) ∈ lw_tbl := List.mem_append_right _ (List.mem_of_getElem? (i := 830) (by decide +kernel))
theorem i_831 : (Jvm.Cond.methodLink "NeighbourDeskLaw" (122 : Nat) ({ cls := "NeighbourDeskModel", name := "entry", desc := "(I)I" } : Jvm.MethodName)) ∈ lw_tbl := List.mem_append_right _ (List.mem_of_getElem? (i := 831) (by decide +kernel))
theorem i_832 : (Jvm.Cond.instanceMethod ({ cls := "NeighbourDeskModel", name := "entry", desc := "(I)I" } : Jvm.MethodName)) ∈ lw_tbl := List.mem_append_right _ (List.mem_of_getElem? (i := 832) (by decide +kernel))
theorem i_833 : (Jvm.Cond.selects "NeighbourDeskModel" ({ cls := "NeighbourDeskModel", name := "entry", desc := "(I)I" } : Jvm.MethodName) ({ cls := "NeighbourDeskModel", name := "entry", desc := "(I)I" } : Jvm.MethodName)) ∈ lw_tbl := List.mem_append_right _ (List.mem_of_getElem? (i := 833) (by decide +kernel))
theorem i_834 : (Jvm.Cond.code ({ cls := "NeighbourDeskModel", name := "entry", desc := "(I)I" } : Jvm.MethodName) prog_10_method_34_code (2 : Nat) (Option.some Jvm.ClassFile.FieldType.int)) ∈ lw_tbl := List.mem_append_right _ (List.mem_of_getElem? (i := 834) (by decide +kernel))
theorem i_835 : (Jvm.Cond.methodLink "NeighbourDeskLaw" (125 : Nat) ({ cls := "NeighbourDeskModel", name := "about", desc := "(II)I" } : Jvm.MethodName)) ∈ lw_tbl := List.mem_append_right _ (List.mem_of_getElem? (i := 835) (by decide +kernel))
theorem i_836 : (Jvm.Cond.instanceMethod ({ cls := "NeighbourDeskModel", name := "about", desc := "(II)I" } : Jvm.MethodName)) ∈ lw_tbl := List.mem_append_right _ (List.mem_of_getElem? (i := 836) (by decide +kernel))
theorem i_837 : (Jvm.Cond.selects "NeighbourDeskModel" ({ cls := "NeighbourDeskModel", name := "about", desc := "(II)I" } : Jvm.MethodName) ({ cls := "NeighbourDeskModel", name := "about", desc := "(II)I" } : Jvm.MethodName)) ∈ lw_tbl := List.mem_append_right _ (List.mem_of_getElem? (i := 837) (by decide +kernel))
theorem i_838 : (Jvm.Cond.code ({ cls := "NeighbourDeskModel", name := "about", desc := "(II)I" } : Jvm.MethodName) prog_10_method_35_code (4 : Nat) (Option.some Jvm.ClassFile.FieldType.int)) ∈ lw_tbl := List.mem_append_right _ (List.mem_of_getElem? (i := 838) (by decide +kernel))
theorem i_839 : (Jvm.Cond.methodLink "NeighbourDeskLaw" (128 : Nat) ({ cls := "NeighbourDeskModel", name := "hardware", desc := "(I)J" } : Jvm.MethodName)) ∈ lw_tbl := List.mem_append_right _ (List.mem_of_getElem? (i := 839) (by decide +kernel))
theorem i_840 : (Jvm.Cond.instanceMethod ({ cls := "NeighbourDeskModel", name := "hardware", desc := "(I)J" } : Jvm.MethodName)) ∈ lw_tbl := List.mem_append_right _ (List.mem_of_getElem? (i := 840) (by decide +kernel))
theorem i_841 : (Jvm.Cond.selects "NeighbourDeskModel" ({ cls := "NeighbourDeskModel", name := "hardware", desc := "(I)J" } : Jvm.MethodName) ({ cls := "NeighbourDeskModel", name := "hardware", desc := "(I)J" } : Jvm.MethodName)) ∈ lw_tbl := List.mem_append_right _ (List.mem_of_getElem? (i := 841) (by decide +kernel))
theorem i_842 : (Jvm.Cond.code ({ cls := "NeighbourDeskModel", name := "hardware", desc := "(I)J" } : Jvm.MethodName) prog_10_method_36_code (3 : Nat) (Option.some Jvm.ClassFile.FieldType.long)) ∈ lw_tbl := List.mem_append_right _ (List.mem_of_getElem? (i := 842) (by decide +kernel))
theorem i_843 : (Jvm.Cond.methodLink "NeighbourDeskLaw" (133 : Nat) ({ cls := "NeighbourDeskModel", name := "knows", desc := "(I)Z" } : Jvm.MethodName)) ∈ lw_tbl := List.mem_append_right _ (List.mem_of_getElem? (i := 843) (by decide +kernel))
theorem i_844 : (Jvm.Cond.instanceMethod ({ cls := "NeighbourDeskModel", name := "knows", desc := "(I)Z" } : Jvm.MethodName)) ∈ lw_tbl := List.mem_append_right _ (List.mem_of_getElem? (i := 844) (by decide +kernel))
theorem i_845 : (Jvm.Cond.selects "NeighbourDeskModel" ({ cls := "NeighbourDeskModel", name := "knows", desc := "(I)Z" } : Jvm.MethodName) ({ cls := "NeighbourDeskModel", name := "knows", desc := "(I)Z" } : Jvm.MethodName)) ∈ lw_tbl := List.mem_append_right _ (List.mem_of_getElem? (i := 845) (by decide +kernel))
theorem i_846 : (Jvm.Cond.code ({ cls := "NeighbourDeskModel", name := "knows", desc := "(I)Z" } : Jvm.MethodName) prog_10_method_37_code (3 : Nat) (Option.some Jvm.ClassFile.FieldType.boolean)) ∈ lw_tbl := List.mem_append_right _ (List.mem_of_getElem? (i := 846) (by decide +kernel))
theorem i_847 : (Jvm.Cond.methodLink "NeighbourDeskLaw" (136 : Nat) ({ cls := "NeighbourDeskModel", name := "waits", desc := "(II)I" } : Jvm.MethodName)) ∈ lw_tbl := List.mem_append_right _ (List.mem_of_getElem? (i := 847) (by decide +kernel))
theorem i_848 : (Jvm.Cond.instanceMethod ({ cls := "NeighbourDeskModel", name := "waits", desc := "(II)I" } : Jvm.MethodName)) ∈ lw_tbl := List.mem_append_right _ (List.mem_of_getElem? (i := 848) (by decide +kernel))
theorem i_849 : (Jvm.Cond.selects "NeighbourDeskModel" ({ cls := "NeighbourDeskModel", name := "waits", desc := "(II)I" } : Jvm.MethodName) ({ cls := "NeighbourDeskModel", name := "waits", desc := "(II)I" } : Jvm.MethodName)) ∈ lw_tbl := List.mem_append_right _ (List.mem_of_getElem? (i := 849) (by decide +kernel))
theorem i_850 : (Jvm.Cond.code ({ cls := "NeighbourDeskModel", name := "waits", desc := "(II)I" } : Jvm.MethodName) prog_10_method_38_code (4 : Nat) (Option.some Jvm.ClassFile.FieldType.int)) ∈ lw_tbl := List.mem_append_right _ (List.mem_of_getElem? (i := 850) (by decide +kernel))
theorem i_851 : (Jvm.Cond.methodLink "NeighbourDeskLaw" (139 : Nat) ({ cls := "NeighbourDeskModel", name := "to", desc := "(I)J" } : Jvm.MethodName)) ∈ lw_tbl := List.mem_append_right _ (List.mem_of_getElem? (i := 851) (by decide +kernel))
theorem i_852 : (Jvm.Cond.instanceMethod ({ cls := "NeighbourDeskModel", name := "to", desc := "(I)J" } : Jvm.MethodName)) ∈ lw_tbl := List.mem_append_right _ (List.mem_of_getElem? (i := 852) (by decide +kernel))
theorem i_853 : (Jvm.Cond.selects "NeighbourDeskModel" ({ cls := "NeighbourDeskModel", name := "to", desc := "(I)J" } : Jvm.MethodName) ({ cls := "NeighbourDeskModel", name := "to", desc := "(I)J" } : Jvm.MethodName)) ∈ lw_tbl := List.mem_append_right _ (List.mem_of_getElem? (i := 853) (by decide +kernel))
theorem i_854 : (Jvm.Cond.code ({ cls := "NeighbourDeskModel", name := "to", desc := "(I)J" } : Jvm.MethodName) prog_10_method_40_code (3 : Nat) (Option.some Jvm.ClassFile.FieldType.long)) ∈ lw_tbl := List.mem_append_right _ (List.mem_of_getElem? (i := 854) (by decide +kernel))
theorem i_855 : (Jvm.Cond.methodLink "NeighbourDeskModel" (179 : Nat) ({ cls := "NeighbourDeskModel", name := "frame", desc := "(I)I" } : Jvm.MethodName)) ∈ lw_tbl := List.mem_append_right _ (List.mem_of_getElem? (i := 855) (by decide +kernel))
theorem i_856 : (Jvm.Cond.privateMethod ({ cls := "NeighbourDeskModel", name := "frame", desc := "(I)I" } : Jvm.MethodName)) ∈ lw_tbl := List.mem_append_right _ (List.mem_of_getElem? (i := 856) (by decide +kernel))
theorem i_857 : (Jvm.Cond.instanceMethod ({ cls := "NeighbourDeskModel", name := "frame", desc := "(I)I" } : Jvm.MethodName)) ∈ lw_tbl := List.mem_append_right _ (List.mem_of_getElem? (i := 857) (by decide +kernel))
theorem i_858 : (Jvm.Cond.code ({ cls := "NeighbourDeskModel", name := "frame", desc := "(I)I" } : Jvm.MethodName) prog_10_method_39_code (3 : Nat) (Option.some Jvm.ClassFile.FieldType.int)) ∈ lw_tbl := List.mem_append_right _ (List.mem_of_getElem? (i := 858) (by decide +kernel))
theorem i_859 : (Jvm.Cond.methodLink "NeighbourDeskLaw" (142 : Nat) ({ cls := "NeighbourDeskModel", name := "data", desc := "(I)I" } : Jvm.MethodName)) ∈ lw_tbl := List.mem_append_right _ (List.mem_of_getElem? (i := 859) (by decide +kernel))
theorem i_860 : (Jvm.Cond.instanceMethod ({ cls := "NeighbourDeskModel", name := "data", desc := "(I)I" } : Jvm.MethodName)) ∈ lw_tbl := List.mem_append_right _ (List.mem_of_getElem? (i := 860) (by decide +kernel))
theorem i_861 : (Jvm.Cond.selects "NeighbourDeskModel" ({ cls := "NeighbourDeskModel", name := "data", desc := "(I)I" } : Jvm.MethodName) ({ cls := "NeighbourDeskModel", name := "data", desc := "(I)I" } : Jvm.MethodName)) ∈ lw_tbl := List.mem_append_right _ (List.mem_of_getElem? (i := 861) (by decide +kernel))
theorem i_862 : (Jvm.Cond.code ({ cls := "NeighbourDeskModel", name := "data", desc := "(I)I" } : Jvm.MethodName) prog_10_method_41_code (3 : Nat) (Option.some Jvm.ClassFile.FieldType.int)) ∈ lw_tbl := List.mem_append_right _ (List.mem_of_getElem? (i := 862) (by decide +kernel))
theorem i_863 : (Jvm.Cond.methodLink "NeighbourDeskLaw" (145 : Nat) ({ cls := "NeighbourDeskModel", name := "out", desc := "(II)I" } : Jvm.MethodName)) ∈ lw_tbl := List.mem_append_right _ (List.mem_of_getElem? (i := 863) (by decide +kernel))
theorem i_864 : (Jvm.Cond.instanceMethod ({ cls := "NeighbourDeskModel", name := "out", desc := "(II)I" } : Jvm.MethodName)) ∈ lw_tbl := List.mem_append_right _ (List.mem_of_getElem? (i := 864) (by decide +kernel))
theorem i_865 : (Jvm.Cond.selects "NeighbourDeskModel" ({ cls := "NeighbourDeskModel", name := "out", desc := "(II)I" } : Jvm.MethodName) ({ cls := "NeighbourDeskModel", name := "out", desc := "(II)I" } : Jvm.MethodName)) ∈ lw_tbl := List.mem_append_right _ (List.mem_of_getElem? (i := 865) (by decide +kernel))
theorem i_866 : (Jvm.Cond.code ({ cls := "NeighbourDeskModel", name := "out", desc := "(II)I" } : Jvm.MethodName) prog_10_method_42_code (4 : Nat) (Option.some Jvm.ClassFile.FieldType.int)) ∈ lw_tbl := List.mem_append_right _ (List.mem_of_getElem? (i := 866) (by decide +kernel))
theorem i_867 : (Jvm.Cond.methodLink "NeighbourDeskLaw" (148 : Nat) ({ cls := "NeighbourDeskModel", name := "lost", desc := "(I)I" } : Jvm.MethodName)) ∈ lw_tbl := List.mem_append_right _ (List.mem_of_getElem? (i := 867) (by decide +kernel))
theorem i_868 : (Jvm.Cond.instanceMethod ({ cls := "NeighbourDeskModel", name := "lost", desc := "(I)I" } : Jvm.MethodName)) ∈ lw_tbl := List.mem_append_right _ (List.mem_of_getElem? (i := 868) (by decide +kernel))
theorem i_869 : (Jvm.Cond.selects "NeighbourDeskModel" ({ cls := "NeighbourDeskModel", name := "lost", desc := "(I)I" } : Jvm.MethodName) ({ cls := "NeighbourDeskModel", name := "lost", desc := "(I)I" } : Jvm.MethodName)) ∈ lw_tbl := List.mem_append_right _ (List.mem_of_getElem? (i := 869) (by decide +kernel))
theorem i_870 : (Jvm.Cond.code ({ cls := "NeighbourDeskModel", name := "lost", desc := "(I)I" } : Jvm.MethodName) prog_10_method_43_code (3 : Nat) (Option.some Jvm.ClassFile.FieldType.int)) ∈ lw_tbl := List.mem_append_right _ (List.mem_of_getElem? (i := 870) (by decide +kernel))
theorem i_871 : (Jvm.Cond.constantLong "NeighbourDeskLaw" (77 : Nat) (4294967295 : Int64)) ∈ lw_tbl := List.mem_append_right _ (List.mem_of_getElem? (i := 871) (by decide +kernel))
theorem i_872 : (Jvm.Cond.sameMethod "java/lang/Throwable" "java/lang/Throwable" "fillInStackTrace" "(I)Ljava/lang/Throwable;") ∈ lw_tbl := List.mem_append_right _ (List.mem_of_getElem? (i := 872) (by decide +kernel))
theorem i_873 : (Jvm.Cond.castable "NeighbourDesk" "java/lang/Object") ∈ lw_tbl := List.mem_append_right _ (List.mem_of_getElem? (i := 873) (by decide +kernel))
theorem i_874 : (Jvm.Cond.castable "NeighbourDesk$Tape" "java/lang/Object") ∈ lw_tbl := List.mem_append_right _ (List.mem_of_getElem? (i := 874) (by decide +kernel))
theorem i_875 : (Jvm.Cond.castable "NeighbourDesk$Frames" "java/lang/Object") ∈ lw_tbl := List.mem_append_right _ (List.mem_of_getElem? (i := 875) (by decide +kernel))
theorem i_876 : (Jvm.Cond.castable "NeighbourDesk$Ring" "java/lang/Object") ∈ lw_tbl := List.mem_append_right _ (List.mem_of_getElem? (i := 876) (by decide +kernel))
theorem i_877 : (Jvm.Cond.castable "NeighbourDesk$Losses" "java/lang/Object") ∈ lw_tbl := List.mem_append_right _ (List.mem_of_getElem? (i := 877) (by decide +kernel))
theorem i_878 : (Jvm.Cond.castable "NeighbourDesk$Cache" "java/lang/Object") ∈ lw_tbl := List.mem_append_right _ (List.mem_of_getElem? (i := 878) (by decide +kernel))
theorem i_879 : (Jvm.Cond.castable "NeighbourDesk$Entry" "java/lang/Object") ∈ lw_tbl := List.mem_append_right _ (List.mem_of_getElem? (i := 879) (by decide +kernel))
theorem i_880 : (Jvm.Cond.castable "NeighbourDeskModel" "java/lang/Object") ∈ lw_tbl := List.mem_append_right _ (List.mem_of_getElem? (i := 880) (by decide +kernel))
theorem i_881 : (Jvm.Cond.castable "java/lang/IllegalArgumentException" "java/lang/Object") ∈ lw_tbl := List.mem_append_right _ (List.mem_of_getElem? (i := 881) (by decide +kernel))
theorem i_882 : (Jvm.Cond.castable "java/lang/IllegalStateException" "java/lang/Object") ∈ lw_tbl := List.mem_append_right _ (List.mem_of_getElem? (i := 882) (by decide +kernel))
theorem i_883 : (Jvm.Cond.castable "java/lang/IndexOutOfBoundsException" "java/lang/Object") ∈ lw_tbl := List.mem_append_right _ (List.mem_of_getElem? (i := 883) (by decide +kernel))
theorem i_884 : (Jvm.Cond.castable "java/util/NoSuchElementException" "java/lang/Object") ∈ lw_tbl := List.mem_append_right _ (List.mem_of_getElem? (i := 884) (by decide +kernel))
theorem i_885 : (Jvm.Cond.castable "java/lang/Throwable" "java/lang/Object") ∈ lw_tbl := List.mem_append_right _ (List.mem_of_getElem? (i := 885) (by decide +kernel))
theorem i_s0 : Cond.selects "NeighbourDesk" ⟨"NeighbourDesk", "isBad", "()Z"⟩ ⟨"NeighbourDesk", "isBad", "()Z"⟩ ∈ lw_tbl := List.mem_append_left _ (List.mem_of_getElem? (i := 0) (by decide +kernel))
theorem i_s1 : Cond.selects "NeighbourDesk" ⟨"NeighbourDesk", "takeIn", "()I"⟩ ⟨"NeighbourDesk", "takeIn", "()I"⟩ ∈ lw_tbl := List.mem_append_left _ (List.mem_of_getElem? (i := 1) (by decide +kernel))
theorem i_s2 : Cond.selects "NeighbourDesk" ⟨"NeighbourDesk", "isConflict", "()Z"⟩ ⟨"NeighbourDesk", "isConflict", "()Z"⟩ ∈ lw_tbl := List.mem_append_left _ (List.mem_of_getElem? (i := 2) (by decide +kernel))
theorem i_s3 : Cond.selects "NeighbourDesk" ⟨"NeighbourDesk", "meetConflict", "()V"⟩ ⟨"NeighbourDesk", "meetConflict", "()V"⟩ ∈ lw_tbl := List.mem_append_left _ (List.mem_of_getElem? (i := 3) (by decide +kernel))
theorem i_s4 : Cond.selects "NeighbourDesk" ⟨"NeighbourDesk", "giveUp", "()V"⟩ ⟨"NeighbourDesk", "giveUp", "()V"⟩ ∈ lw_tbl := List.mem_append_left _ (List.mem_of_getElem? (i := 4) (by decide +kernel))
theorem i_s5 : Cond.selects "NeighbourDesk" ⟨"NeighbourDesk", "loseWaiting", "(LNeighbourDesk$Entry;)V"⟩ ⟨"NeighbourDesk", "loseWaiting", "(LNeighbourDesk$Entry;)V"⟩ ∈ lw_tbl := List.mem_append_left _ (List.mem_of_getElem? (i := 5) (by decide +kernel))
theorem i_s6 : Cond.selects "NeighbourDesk" ⟨"NeighbourDesk", "announce", "()V"⟩ ⟨"NeighbourDesk", "announce", "()V"⟩ ∈ lw_tbl := List.mem_append_left _ (List.mem_of_getElem? (i := 6) (by decide +kernel))
theorem i_s7 : Cond.selects "NeighbourDesk" ⟨"NeighbourDesk", "request", "(JII)V"⟩ ⟨"NeighbourDesk", "request", "(JII)V"⟩ ∈ lw_tbl := List.mem_append_left _ (List.mem_of_getElem? (i := 7) (by decide +kernel))
theorem i_s8 : Cond.selects "NeighbourDesk" ⟨"NeighbourDesk", "learn", "(LNeighbourDesk$Entry;J)V"⟩ ⟨"NeighbourDesk", "learn", "(LNeighbourDesk$Entry;J)V"⟩ ∈ lw_tbl := List.mem_append_left _ (List.mem_of_getElem? (i := 8) (by decide +kernel))
theorem i_s9 : Cond.selects "NeighbourDesk" ⟨"NeighbourDesk", "takeInForOwn", "()V"⟩ ⟨"NeighbourDesk", "takeInForOwn", "()V"⟩ ∈ lw_tbl := List.mem_append_left _ (List.mem_of_getElem? (i := 9) (by decide +kernel))
theorem i_s10 : Cond.selects "NeighbourDesk$Cache" ⟨"NeighbourDesk$Cache", "moveToEnd", "(I)LNeighbourDesk$Entry;"⟩ ⟨"NeighbourDesk$Cache", "moveToEnd", "(I)LNeighbourDesk$Entry;"⟩ ∈ lw_tbl := List.mem_append_left _ (List.mem_of_getElem? (i := 10) (by decide +kernel))
theorem i_s11 : Cond.selects "java/lang/Throwable" ⟨"java/lang/Throwable", "fillInStackTrace", "(I)Ljava/lang/Throwable;"⟩ ⟨"java/lang/Throwable", "fillInStackTrace", "(I)Ljava/lang/Throwable;"⟩ ∈ lw_tbl := List.mem_append_left _ (List.mem_of_getElem? (i := 11) (by decide +kernel))
theorem i_s12 : Cond.selects "NeighbourDesk" ⟨"NeighbourDesk", "probe", "()V"⟩ ⟨"NeighbourDesk", "probe", "()V"⟩ ∈ lw_tbl := List.mem_append_left _ (List.mem_of_getElem? (i := 12) (by decide +kernel))
theorem i_s13 : Cond.selects "NeighbourDesk" ⟨"NeighbourDesk", "sendToStranger", "(II)I"⟩ ⟨"NeighbourDesk", "sendToStranger", "(II)I"⟩ ∈ lw_tbl := List.mem_append_left _ (List.mem_of_getElem? (i := 13) (by decide +kernel))
theorem i_s14 : Cond.selects "NeighbourDesk" ⟨"NeighbourDesk", "putInLine", "(LNeighbourDesk$Entry;I)I"⟩ ⟨"NeighbourDesk", "putInLine", "(LNeighbourDesk$Entry;I)I"⟩ ∈ lw_tbl := List.mem_append_left _ (List.mem_of_getElem? (i := 14) (by decide +kernel))
theorem i_s15 : Cond.selects "NeighbourDesk" ⟨"NeighbourDesk", "sendTo", "(LNeighbourDesk$Entry;I)I"⟩ ⟨"NeighbourDesk", "sendTo", "(LNeighbourDesk$Entry;I)I"⟩ ∈ lw_tbl := List.mem_append_left _ (List.mem_of_getElem? (i := 15) (by decide +kernel))
theorem i_s16 : Cond.selects "NeighbourDesk" ⟨"NeighbourDesk", "tickOwn", "()V"⟩ ⟨"NeighbourDesk", "tickOwn", "()V"⟩ ∈ lw_tbl := List.mem_append_left _ (List.mem_of_getElem? (i := 16) (by decide +kernel))
theorem i_s17 : Cond.selects "NeighbourDesk" ⟨"NeighbourDesk", "tickEntries", "()V"⟩ ⟨"NeighbourDesk", "tickEntries", "()V"⟩ ∈ lw_tbl := List.mem_append_left _ (List.mem_of_getElem? (i := 17) (by decide +kernel))
theorem i_s18 : Cond.selects "NeighbourDesk" ⟨"NeighbourDesk", "isOver", "(LNeighbourDesk$Entry;)Z"⟩ ⟨"NeighbourDesk", "isOver", "(LNeighbourDesk$Entry;)Z"⟩ ∈ lw_tbl := List.mem_append_left _ (List.mem_of_getElem? (i := 18) (by decide +kernel))
theorem i_s19 : Cond.selects "NeighbourDesk" ⟨"NeighbourDesk", "tickEntry", "(LNeighbourDesk$Entry;)V"⟩ ⟨"NeighbourDesk", "tickEntry", "(LNeighbourDesk$Entry;)V"⟩ ∈ lw_tbl := List.mem_append_left _ (List.mem_of_getElem? (i := 19) (by decide +kernel))
theorem i_s20 : Cond.selects "NeighbourDeskModel" ⟨"NeighbourDeskModel", "heard", "()I"⟩ ⟨"NeighbourDeskModel", "heard", "()I"⟩ ∈ lw_tbl := List.mem_append_left _ (List.mem_of_getElem? (i := 20) (by decide +kernel))
theorem i_s21 : Cond.selects "NeighbourDeskModel" ⟨"NeighbourDeskModel", "isBad", "()Z"⟩ ⟨"NeighbourDeskModel", "isBad", "()Z"⟩ ∈ lw_tbl := List.mem_append_left _ (List.mem_of_getElem? (i := 21) (by decide +kernel))
theorem i_s22 : Cond.selects "NeighbourDeskModel" ⟨"NeighbourDeskModel", "number", "(II)J"⟩ ⟨"NeighbourDeskModel", "number", "(II)J"⟩ ∈ lw_tbl := List.mem_append_left _ (List.mem_of_getElem? (i := 22) (by decide +kernel))
theorem i_s23 : Cond.selects "NeighbourDeskModel" ⟨"NeighbourDeskModel", "address", "(I)I"⟩ ⟨"NeighbourDeskModel", "address", "(I)I"⟩ ∈ lw_tbl := List.mem_append_left _ (List.mem_of_getElem? (i := 23) (by decide +kernel))
theorem i_s24 : Cond.selects "NeighbourDeskModel" ⟨"NeighbourDeskModel", "conflict", "()I"⟩ ⟨"NeighbourDeskModel", "conflict", "()I"⟩ ∈ lw_tbl := List.mem_append_left _ (List.mem_of_getElem? (i := 24) (by decide +kernel))
theorem i_s25 : Cond.selects "NeighbourDeskModel" ⟨"NeighbourDeskModel", "request", "(JI)V"⟩ ⟨"NeighbourDeskModel", "request", "(JI)V"⟩ ∈ lw_tbl := List.mem_append_left _ (List.mem_of_getElem? (i := 25) (by decide +kernel))
theorem i_s26 : Cond.selects "NeighbourDeskModel" ⟨"NeighbourDeskModel", "sendPacket", "(JIIJI)V"⟩ ⟨"NeighbourDeskModel", "sendPacket", "(JIIJI)V"⟩ ∈ lw_tbl := List.mem_append_left _ (List.mem_of_getElem? (i := 26) (by decide +kernel))
theorem i_s27 : Cond.selects "NeighbourDeskModel" ⟨"NeighbourDeskModel", "giveUp", "()V"⟩ ⟨"NeighbourDeskModel", "giveUp", "()V"⟩ ∈ lw_tbl := List.mem_append_left _ (List.mem_of_getElem? (i := 27) (by decide +kernel))
theorem i_s28 : Cond.selects "NeighbourDeskModel" ⟨"NeighbourDeskModel", "goes", "(I)V"⟩ ⟨"NeighbourDeskModel", "goes", "(I)V"⟩ ∈ lw_tbl := List.mem_append_left _ (List.mem_of_getElem? (i := 28) (by decide +kernel))
theorem i_s29 : Cond.selects "NeighbourDeskModel" ⟨"NeighbourDeskModel", "lose", "(I)V"⟩ ⟨"NeighbourDeskModel", "lose", "(I)V"⟩ ∈ lw_tbl := List.mem_append_left _ (List.mem_of_getElem? (i := 29) (by decide +kernel))
theorem i_s30 : Cond.selects "NeighbourDeskModel" ⟨"NeighbourDeskModel", "take", "(I)V"⟩ ⟨"NeighbourDeskModel", "take", "(I)V"⟩ ∈ lw_tbl := List.mem_append_left _ (List.mem_of_getElem? (i := 30) (by decide +kernel))
theorem i_s31 : Cond.selects "NeighbourDeskModel" ⟨"NeighbourDeskModel", "move", "(II)V"⟩ ⟨"NeighbourDeskModel", "move", "(II)V"⟩ ∈ lw_tbl := List.mem_append_left _ (List.mem_of_getElem? (i := 31) (by decide +kernel))
theorem i_s32 : Cond.selects "NeighbourDeskModel" ⟨"NeighbourDeskModel", "find", "(I)I"⟩ ⟨"NeighbourDeskModel", "find", "(I)I"⟩ ∈ lw_tbl := List.mem_append_left _ (List.mem_of_getElem? (i := 32) (by decide +kernel))
theorem i_s33 : Cond.selects "NeighbourDeskModel" ⟨"NeighbourDeskModel", "learn", "(IJ)V"⟩ ⟨"NeighbourDeskModel", "learn", "(IJ)V"⟩ ∈ lw_tbl := List.mem_append_left _ (List.mem_of_getElem? (i := 33) (by decide +kernel))
theorem i_s34 : Cond.selects "NeighbourDeskModel" ⟨"NeighbourDeskModel", "sendData", "(JI)V"⟩ ⟨"NeighbourDeskModel", "sendData", "(JI)V"⟩ ∈ lw_tbl := List.mem_append_left _ (List.mem_of_getElem? (i := 34) (by decide +kernel))
theorem i_s35 : Cond.selects "NeighbourDeskModel" ⟨"NeighbourDeskModel", "makeRoom", "()Z"⟩ ⟨"NeighbourDeskModel", "makeRoom", "()Z"⟩ ∈ lw_tbl := List.mem_append_left _ (List.mem_of_getElem? (i := 35) (by decide +kernel))
theorem i_s36 : Cond.selects "NeighbourDeskModel" ⟨"NeighbourDeskModel", "make", "(IIJ)V"⟩ ⟨"NeighbourDeskModel", "make", "(IIJ)V"⟩ ∈ lw_tbl := List.mem_append_left _ (List.mem_of_getElem? (i := 36) (by decide +kernel))
theorem i_s37 : Cond.selects "NeighbourDeskModel" ⟨"NeighbourDeskModel", "probe", "()V"⟩ ⟨"NeighbourDeskModel", "probe", "()V"⟩ ∈ lw_tbl := List.mem_append_left _ (List.mem_of_getElem? (i := 37) (by decide +kernel))
theorem i_s38 : Cond.selects "NeighbourDeskModel" ⟨"NeighbourDeskModel", "use", "(I)V"⟩ ⟨"NeighbourDeskModel", "use", "(I)V"⟩ ∈ lw_tbl := List.mem_append_left _ (List.mem_of_getElem? (i := 38) (by decide +kernel))
theorem i_s39 : Cond.selects "NeighbourDeskModel" ⟨"NeighbourDeskModel", "ownTick", "()V"⟩ ⟨"NeighbourDeskModel", "ownTick", "()V"⟩ ∈ lw_tbl := List.mem_append_left _ (List.mem_of_getElem? (i := 39) (by decide +kernel))
theorem i_s40 : Cond.selects "NeighbourDeskModel" ⟨"NeighbourDeskModel", "entryTick", "(I)Z"⟩ ⟨"NeighbourDeskModel", "entryTick", "(I)Z"⟩ ∈ lw_tbl := List.mem_append_left _ (List.mem_of_getElem? (i := 40) (by decide +kernel))
theorem i_s41 : Cond.selects "NeighbourDeskModel" ⟨"NeighbourDeskModel", "frame", "(I)I"⟩ ⟨"NeighbourDeskModel", "frame", "(I)I"⟩ ∈ lw_tbl := List.mem_append_left _ (List.mem_of_getElem? (i := 41) (by decide +kernel))
theorem inX0 : ∀ w ∈ u_ws RX0 TX0 2, w ∈ lw_tbl := by decide +kernel
theorem inX1 : ∀ w ∈ u_ws RX1 TX1 7, w ∈ lw_tbl := by decide +kernel
theorem inX2 : ∀ w ∈ u_ws RX2 TX2 5, w ∈ lw_tbl := by decide +kernel
theorem inX3 : ∀ w ∈ u_ws RX3 TX3 2, w ∈ lw_tbl := by decide +kernel
theorem inX4 : ∀ w ∈ u_ws RX4 TX4 1, w ∈ lw_tbl := by decide +kernel
theorem inX5 : ∀ w ∈ u_ws RX5 TX5 2, w ∈ lw_tbl := by decide +kernel
theorem inX7 : ∀ w ∈ u_ws RX7 TX7 12, w ∈ lw_tbl := by decide +kernel
theorem inX8 : ∀ w ∈ u_ws RX8 TX8 27, w ∈ lw_tbl := by decide +kernel
end
section
/-! my own frame over the kit's rows: xV, a world and a point of the code in one goal -/
theorem xr_good : lw_tbl.all goodWord = true := by decide +kernel
theorem xr_goodIn : GoodIn lw_tbl lw_tbl := fun _ h => ⟨h, good_of_word (List.all_eq_true.mp xr_good _ h)⟩
theorem xr_goodC {big ws : List Cond} (h : ∀ w ∈ ws, w ∈ big) (hb : GoodIn big big) : GoodIn big ws := fun _ hw => hb _ (h _ hw)
abbrev xty (K : Nat → ClassId) : List (ClassId × FieldType) := [(K 0, .int), (K 1, .long), (K 2, .boolean), (K 3, .byte), (K 4, .object "NeighbourDesk$Entry")]
section XF
variable {p : Program} {l : Launch} {e : Env} {R : Room} {s : State} {m : MethodId} {args : Array Value} {below : List Frame} {meth : Method} {c : Code} {G : va_G} {A : Nat → Prop} {nL : Nat} {Q : State → Prop} {cells slots : Nat} {K : Nat → ClassId} {cc : ByteArray} {own : String} {ret : Option FieldType} {ws : va_W} {pc n : Nat} {lv : List (Nat × Value)} {st : List Value}
def xV (p : Program) (l : Launch) (e : Env) (R : Room) (s : State) (m : MethodId) (args : Array Value) (below : List Frame) (meth : Method) (c : Code) (G : va_G) (A : Nat → Prop) (nL : Nat) (Q : State → Prop) (cells slots : Nat) (ws : va_W) (pc : Nat) (lv : List (Nat × Value)) (st : List Value) : Prop :=
  ∀ (H : Heap) (locs : List Loc) (ls : Array Slot), va_P G vwCl ws H → va_D A ws → va_S A s.heap H locs → lv_has ls nL lv → W p l e R s m args below meth c H locs cells slots Q (F0 m pc ls st)
def xCx (p : Program) (s : State) (m : MethodId) (args : Array Value) (meth : Method) (c : Code) (G : va_G) (K : Nat → ClassId) (A : Nat → Prop) (nL : Nat) (cc : ByteArray) (own : String) (ret : Option FieldType) : Prop :=
  p.tables.exec = Jvm.exec ∧ c.code = cc ∧ meth.sig.returnType = ret ∧ meth.locks = false ∧ c.maxLocals = nL ∧ s.vm.findClass own = some m.cls ∧ (∀ w ∈ lw_tbl, w.before args s = true) ∧ va_K G vwCl (xty K) s ∧ (∀ q : Nat, s.heap.size ≤ q → A q)
/-- a value is put on the stack, nothing else -/
theorem x_lift {n' : Nat} {v : List Value} (hp : pc = n) (k0 : ∀ (H : Heap) (locs : List Loc) (ls : Array Slot), va_P G vwCl ws H → lv_has ls nL lv → W p l e R s m args below meth c H locs cells slots Q (F0 m n' ls v) → W p l e R s m args below meth c H locs cells slots Q (F0 m n ls st)) (kk : xV p l e R s m args below meth c G A nL Q cells slots ws n' lv v) : xV p l e R s m args below meth c G A nL Q cells slots ws pc lv st := by
  subst hp
  intro H locs ls hP hD hS hl
  exact k0 H locs ls hP hl (kk H locs ls hP hD hS hl)
theorem x_gen {α : Type} {x : α} {P : α → Prop} (k : ∀ y : α, y = x → P y) : P x := k x rfl
theorem x_pc {n' : Nat} (h : pc = n') (kk : xV p l e R s m args below meth c G A nL Q cells slots ws n' lv st) : xV p l e R s m args below meth c G A nL Q cells slots ws pc lv st := h ▸ kk
/-- fewer locals, in another order -/
theorem x_lv {lv' : List (Nat × Value)} (ks : List Nat) (h : lv_pick lv ks = lv') (kk : xV p l e R s m args below meth c G A nL Q cells slots ws pc lv' st) : xV p l e R s m args below meth c G A nL Q cells slots ws pc lv st := fun H locs ls hP hD hS hl => kk H locs ls hP hD hS (lv_sub hl ks h)
theorem x_widen {k n : Nat} (h1 : cells ≤ k) (h2 : slots ≤ n) (kk : xV p l e R s m args below meth c G A nL Q k n ws pc lv st) : xV p l e R s m args below meth c G A nL Q cells slots ws pc lv st := fun H locs ls hP hD hS hl => W.widen h1 h2 (kk H locs ls hP hD hS hl)

theorem x_iconst (C : xCx p s m args meth c G K A nL cc own ret) {i : Int} {v : Int32} (hdg : decode cc n = .ok (.iconst i, 1)) (hp : pc = n) (hv : Int32.ofInt i = v) (kk : xV p l e R s m args below meth c G A nL Q cells slots ws (n + 1) lv (.int v :: st)) : xV p l e R s m args below meth c G A nL Q cells slots ws pc lv st := by
  obtain ⟨hx, hb, hr, hlo, hml, hown, hts, hK, hA⟩ := C
  exact x_lift hp (fun H locs ls hP hl k => lv_iconst hx hb hdg hv k) kk
theorem x_bipush (C : xCx p s m args meth c G K A nL cc own ret) {i : Int} {v : Int32} (hdg : decode cc n = .ok (.bipush i, 2)) (hp : pc = n) (hv : (Int8.ofInt i).toInt32 = v) (kk : xV p l e R s m args below meth c G A nL Q cells slots ws (n + 2) lv (.int v :: st)) : xV p l e R s m args below meth c G A nL Q cells slots ws pc lv st := by
  obtain ⟨hx, hb, hr, hlo, hml, hown, hts, hK, hA⟩ := C
  exact x_lift hp (fun H locs ls hP hl k => lv_bipush hx hb hdg hv k) kk
theorem x_sipush (C : xCx p s m args meth c G K A nL cc own ret) {i : Int} {v : Int32} (hdg : decode cc n = .ok (.sipush i, 3)) (hp : pc = n) (hv : (Int16.ofInt i).toInt32 = v) (kk : xV p l e R s m args below meth c G A nL Q cells slots ws (n + 3) lv (.int v :: st)) : xV p l e R s m args below meth c G A nL Q cells slots ws pc lv st := by
  obtain ⟨hx, hb, hr, hlo, hml, hown, hts, hK, hA⟩ := C
  exact x_lift hp (fun H locs ls hP hl k => lv_sipush hx hb hdg hv k) kk
theorem x_lconst (C : xCx p s m args meth c G K A nL cc own ret) {i : Fin 2} {v : Int64} (hdg : decode cc n = .ok (.lconst i, 1)) (hp : pc = n) (hv : Int64.ofNat (i : Nat) = v) (kk : xV p l e R s m args below meth c G A nL Q cells slots ws (n + 1) lv (.long v :: st)) : xV p l e R s m args below meth c G A nL Q cells slots ws pc lv st := by
  obtain ⟨hx, hb, hr, hlo, hml, hown, hts, hK, hA⟩ := C
  exact x_lift hp (fun H locs ls hP hl k => lv_lconst hx hb hdg hv k) kk
theorem x_ldc (C : xCx p s m args meth c G K A nL cc own ret) {i : Nat} {v : Int32} (hdg : decode cc n = .ok (.ldc i, 2)) (hp : pc = n) (hw : Jvm.Cond.constant own i v ∈ lw_tbl) (kk : xV p l e R s m args below meth c G A nL Q cells slots ws (n + 2) lv (.int v :: st)) : xV p l e R s m args below meth c G A nL Q cells slots ws pc lv st := by
  obtain ⟨hx, hb, hr, hlo, hml, hown, hts, hK, hA⟩ := C
  exact x_lift hp (fun H locs ls hP hl k => lv_ldc hx hb hown (hts _ hw) hdg k) kk
theorem x_ldc2 (C : xCx p s m args meth c G K A nL cc own ret) {i : Nat} {v : Int64} (hdg : decode cc n = .ok (.ldc2_w i, 3)) (hp : pc = n) (hw : Jvm.Cond.constantLong own i v ∈ lw_tbl) (kk : xV p l e R s m args below meth c G A nL Q cells slots ws (n + 3) lv (.long v :: st)) : xV p l e R s m args below meth c G A nL Q cells slots ws pc lv st := by
  obtain ⟨hx, hb, hr, hlo, hml, hown, hts, hK, hA⟩ := C
  exact x_lift hp (fun H locs ls hP hl k => lv_ldc2 hx hb hown (hts _ hw) hdg k) kk
theorem x_iload_n (C : xCx p s m args meth c G K A nL cc own ret) {k4 : Fin 4} {i : Nat} {x : Int32} (hdg : decode cc n = .ok (.iload_n k4, 1)) (hp : pc = n) (hi : (k4 : Nat) = i) (q : Nat) (hq : lv[q]? = some (i, .int x)) (kk : xV p l e R s m args below meth c G A nL Q cells slots ws (n + 1) lv (.int x :: st)) : xV p l e R s m args below meth c G A nL Q cells slots ws pc lv st := by
  obtain ⟨hx, hb, hr, hlo, hml, hown, hts, hK, hA⟩ := C
  exact x_lift hp (fun H locs ls hP hl k => lv_iload_n hx hb hdg hi (lv_at hl q hq) k) kk
theorem x_iload (C : xCx p s m args meth c G K A nL cc own ret) {i : Nat} {x : Int32} (hdg : decode cc n = .ok (.iload i, 2)) (hp : pc = n) (q : Nat) (hq : lv[q]? = some (i, .int x)) (kk : xV p l e R s m args below meth c G A nL Q cells slots ws (n + 2) lv (.int x :: st)) : xV p l e R s m args below meth c G A nL Q cells slots ws pc lv st := by
  obtain ⟨hx, hb, hr, hlo, hml, hown, hts, hK, hA⟩ := C
  exact x_lift hp (fun H locs ls hP hl k => lv_iload hx hb hdg (lv_at hl q hq) k) kk
theorem x_istore_n (C : xCx p s m args meth c G K A nL cc own ret) {k4 : Fin 4} {i : Nat} {x : Int32} {lv' : List (Nat × Value)} (hdg : decode cc n = .ok (.istore_n k4, 1)) (hp : pc = n) (hi : (k4 : Nat) = i) (hn : i < nL) (hl : (i, Value.int x) :: lv.filter (fun q => !(q.1 == i) && !(q.1 + 1 == i && q.2.category == 2)) = lv') (kk : xV p l e R s m args below meth c G A nL Q cells slots ws (n + 1) lv' st) : xV p l e R s m args below meth c G A nL Q cells slots ws pc lv (.int x :: st) := by
  obtain ⟨hx, hb, hr, hlo, hml, hown, hts, hK, hA⟩ := C
  subst hp
  intro H locs ls hP hD hS hl0
  exact lv_istore_n hx hb hdg hi hl0 hn hl (fun ls2 hl2 => kk H locs ls2 hP hD hS hl2)
theorem x_istore (C : xCx p s m args meth c G K A nL cc own ret) {i : Nat} {x : Int32} {lv' : List (Nat × Value)} (hdg : decode cc n = .ok (.istore i, 2)) (hp : pc = n) (hn : i < nL) (hl : (i, Value.int x) :: lv.filter (fun q => !(q.1 == i) && !(q.1 + 1 == i && q.2.category == 2)) = lv') (kk : xV p l e R s m args below meth c G A nL Q cells slots ws (n + 2) lv' st) : xV p l e R s m args below meth c G A nL Q cells slots ws pc lv (.int x :: st) := by
  obtain ⟨hx, hb, hr, hlo, hml, hown, hts, hK, hA⟩ := C
  subst hp
  intro H locs ls hP hD hS hl0
  exact lv_istore hx hb hdg hl0 hn hl (fun ls2 hl2 => kk H locs ls2 hP hD hS hl2)
theorem x_lload_n (C : xCx p s m args meth c G K A nL cc own ret) {k4 : Fin 4} {i : Nat} {x : Int64} (hdg : decode cc n = .ok (.lload_n k4, 1)) (hp : pc = n) (hi : (k4 : Nat) = i) (q : Nat) (hq : lv[q]? = some (i, .long x)) (kk : xV p l e R s m args below meth c G A nL Q cells slots ws (n + 1) lv (.long x :: st)) : xV p l e R s m args below meth c G A nL Q cells slots ws pc lv st := by
  obtain ⟨hx, hb, hr, hlo, hml, hown, hts, hK, hA⟩ := C
  exact x_lift hp (fun H locs ls hP hl k => lv_lload_n hx hb hdg hi (lv_at hl q hq) k) kk
theorem x_lload (C : xCx p s m args meth c G K A nL cc own ret) {i : Nat} {x : Int64} (hdg : decode cc n = .ok (.lload i, 2)) (hp : pc = n) (q : Nat) (hq : lv[q]? = some (i, .long x)) (kk : xV p l e R s m args below meth c G A nL Q cells slots ws (n + 2) lv (.long x :: st)) : xV p l e R s m args below meth c G A nL Q cells slots ws pc lv st := by
  obtain ⟨hx, hb, hr, hlo, hml, hown, hts, hK, hA⟩ := C
  exact x_lift hp (fun H locs ls hP hl k => lv_lload hx hb hdg (lv_at hl q hq) k) kk
theorem x_lstore_n (C : xCx p s m args meth c G K A nL cc own ret) {k4 : Fin 4} {i : Nat} {x : Int64} {lv' : List (Nat × Value)} (hdg : decode cc n = .ok (.lstore_n k4, 1)) (hp : pc = n) (hi : (k4 : Nat) = i) (hn : i + 1 < nL) (hl : (i, Value.long x) :: lv.filter (fun q => !(q.1 == i) && (!(q.1 == i + 1) && !(q.1 + 1 == i && q.2.category == 2))) = lv') (kk : xV p l e R s m args below meth c G A nL Q cells slots ws (n + 1) lv' st) : xV p l e R s m args below meth c G A nL Q cells slots ws pc lv (.long x :: st) := by
  obtain ⟨hx, hb, hr, hlo, hml, hown, hts, hK, hA⟩ := C
  subst hp
  intro H locs ls hP hD hS hl0
  exact lv_lstore_n hx hb hdg hi hl0 hn hl (fun ls2 hl2 => kk H locs ls2 hP hD hS hl2)
theorem x_lstore (C : xCx p s m args meth c G K A nL cc own ret) {i : Nat} {x : Int64} {lv' : List (Nat × Value)} (hdg : decode cc n = .ok (.lstore i, 2)) (hp : pc = n) (hn : i + 1 < nL) (hl : (i, Value.long x) :: lv.filter (fun q => !(q.1 == i) && (!(q.1 == i + 1) && !(q.1 + 1 == i && q.2.category == 2))) = lv') (kk : xV p l e R s m args below meth c G A nL Q cells slots ws (n + 2) lv' st) : xV p l e R s m args below meth c G A nL Q cells slots ws pc lv (.long x :: st) := by
  obtain ⟨hx, hb, hr, hlo, hml, hown, hts, hK, hA⟩ := C
  subst hp
  intro H locs ls hP hD hS hl0
  exact lv_lstore hx hb hdg hl0 hn hl (fun ls2 hl2 => kk H locs ls2 hP hD hS hl2)
theorem x_aload_n (C : xCx p s m args meth c G K A nL cc own ret) {k4 : Fin 4} {i : Nat} {x : Nat} (hdg : decode cc n = .ok (.aload_n k4, 1)) (hp : pc = n) (hi : (k4 : Nat) = i) (q : Nat) (hq : lv[q]? = some (i, .ref x)) (kk : xV p l e R s m args below meth c G A nL Q cells slots ws (n + 1) lv (.ref x :: st)) : xV p l e R s m args below meth c G A nL Q cells slots ws pc lv st := by
  obtain ⟨hx, hb, hr, hlo, hml, hown, hts, hK, hA⟩ := C
  exact x_lift hp (fun H locs ls hP hl k => lv_aload_n hx hb hdg hi (lv_at hl q hq) k) kk
theorem x_aload (C : xCx p s m args meth c G K A nL cc own ret) {i : Nat} {x : Nat} (hdg : decode cc n = .ok (.aload i, 2)) (hp : pc = n) (q : Nat) (hq : lv[q]? = some (i, .ref x)) (kk : xV p l e R s m args below meth c G A nL Q cells slots ws (n + 2) lv (.ref x :: st)) : xV p l e R s m args below meth c G A nL Q cells slots ws pc lv st := by
  obtain ⟨hx, hb, hr, hlo, hml, hown, hts, hK, hA⟩ := C
  exact x_lift hp (fun H locs ls hP hl k => lv_aload hx hb hdg (lv_at hl q hq) k) kk
theorem x_astore_n (C : xCx p s m args meth c G K A nL cc own ret) {k4 : Fin 4} {i : Nat} {x : Nat} {lv' : List (Nat × Value)} (hdg : decode cc n = .ok (.astore_n k4, 1)) (hp : pc = n) (hi : (k4 : Nat) = i) (hn : i < nL) (hl : (i, Value.ref x) :: lv.filter (fun q => !(q.1 == i) && !(q.1 + 1 == i && q.2.category == 2)) = lv') (kk : xV p l e R s m args below meth c G A nL Q cells slots ws (n + 1) lv' st) : xV p l e R s m args below meth c G A nL Q cells slots ws pc lv (.ref x :: st) := by
  obtain ⟨hx, hb, hr, hlo, hml, hown, hts, hK, hA⟩ := C
  subst hp
  intro H locs ls hP hD hS hl0
  exact lv_astore_n hx hb hdg hi hl0 hn hl (fun ls2 hl2 => kk H locs ls2 hP hD hS hl2)
theorem x_astore (C : xCx p s m args meth c G K A nL cc own ret) {i : Nat} {x : Nat} {lv' : List (Nat × Value)} (hdg : decode cc n = .ok (.astore i, 2)) (hp : pc = n) (hn : i < nL) (hl : (i, Value.ref x) :: lv.filter (fun q => !(q.1 == i) && !(q.1 + 1 == i && q.2.category == 2)) = lv') (kk : xV p l e R s m args below meth c G A nL Q cells slots ws (n + 2) lv' st) : xV p l e R s m args below meth c G A nL Q cells slots ws pc lv (.ref x :: st) := by
  obtain ⟨hx, hb, hr, hlo, hml, hown, hts, hK, hA⟩ := C
  subst hp
  intro H locs ls hP hD hS hl0
  exact lv_astore hx hb hdg hl0 hn hl (fun ls2 hl2 => kk H locs ls2 hP hD hS hl2)
theorem x_iinc (C : xCx p s m args meth c G K A nL cc own ret) {i k : Nat} {n9 : Int} {x v : Int32} {lv' : List (Nat × Value)} (hdg : decode cc n = .ok (.iinc i n9, 3)) (hp : pc = n) (hk : lv[k]? = some (i, .int x)) (hv : x + Int32.ofInt n9 = v) (hn : i < nL) (hl : (i, Value.int v) :: lv.filter (fun q => !(q.1 == i) && !(q.1 + 1 == i && q.2.category == 2)) = lv') (kk : xV p l e R s m args below meth c G A nL Q cells slots ws (n + 3) lv' st) : xV p l e R s m args below meth c G A nL Q cells slots ws pc lv st := by
  obtain ⟨hx, hb, hr, hlo, hml, hown, hts, hK, hA⟩ := C
  subst hp
  intro H locs ls hP hD hS hl0
  exact lv_iinc hx hb hdg hl0 hk hv hn hl (fun ls2 hl2 => kk H locs ls2 hP hD hS hl2)
theorem x_iadd (C : xCx p s m args meth c G K A nL cc own ret) {x y : Int32} (hdg : decode cc n = .ok (.iadd, 1)) (hp : pc = n) (kk : xV p l e R s m args below meth c G A nL Q cells slots ws (n + 1) lv (.int (x + y) :: st)) : xV p l e R s m args below meth c G A nL Q cells slots ws pc lv (.int y :: .int x :: st) := by
  obtain ⟨hx, hb, hr, hlo, hml, hown, hts, hK, hA⟩ := C
  exact x_lift hp (fun H locs ls hP hl k => lv_iadd hx hb hdg k) kk
theorem x_isub (C : xCx p s m args meth c G K A nL cc own ret) {x y : Int32} (hdg : decode cc n = .ok (.isub, 1)) (hp : pc = n) (kk : xV p l e R s m args below meth c G A nL Q cells slots ws (n + 1) lv (.int (x - y) :: st)) : xV p l e R s m args below meth c G A nL Q cells slots ws pc lv (.int y :: .int x :: st) := by
  obtain ⟨hx, hb, hr, hlo, hml, hown, hts, hK, hA⟩ := C
  exact x_lift hp (fun H locs ls hP hl k => lv_isub hx hb hdg k) kk
theorem x_imul (C : xCx p s m args meth c G K A nL cc own ret) {x y : Int32} (hdg : decode cc n = .ok (.imul, 1)) (hp : pc = n) (kk : xV p l e R s m args below meth c G A nL Q cells slots ws (n + 1) lv (.int (x * y) :: st)) : xV p l e R s m args below meth c G A nL Q cells slots ws pc lv (.int y :: .int x :: st) := by
  obtain ⟨hx, hb, hr, hlo, hml, hown, hts, hK, hA⟩ := C
  exact x_lift hp (fun H locs ls hP hl k => lv_imul hx hb hdg k) kk
theorem x_iand (C : xCx p s m args meth c G K A nL cc own ret) {x y : Int32} (hdg : decode cc n = .ok (.iand, 1)) (hp : pc = n) (kk : xV p l e R s m args below meth c G A nL Q cells slots ws (n + 1) lv (.int (x &&& y) :: st)) : xV p l e R s m args below meth c G A nL Q cells slots ws pc lv (.int y :: .int x :: st) := by
  obtain ⟨hx, hb, hr, hlo, hml, hown, hts, hK, hA⟩ := C
  exact x_lift hp (fun H locs ls hP hl k => lv_iand hx hb hdg k) kk
theorem x_ixor (C : xCx p s m args meth c G K A nL cc own ret) {x y : Int32} (hdg : decode cc n = .ok (.ixor, 1)) (hp : pc = n) (kk : xV p l e R s m args below meth c G A nL Q cells slots ws (n + 1) lv (.int (x ^^^ y) :: st)) : xV p l e R s m args below meth c G A nL Q cells slots ws pc lv (.int y :: .int x :: st) := by
  obtain ⟨hx, hb, hr, hlo, hml, hown, hts, hK, hA⟩ := C
  exact x_lift hp (fun H locs ls hP hl k => lv_ixor hx hb hdg k) kk
theorem x_land (C : xCx p s m args meth c G K A nL cc own ret) {x y : Int64} (hdg : decode cc n = .ok (.land, 1)) (hp : pc = n) (kk : xV p l e R s m args below meth c G A nL Q cells slots ws (n + 1) lv (.long (x &&& y) :: st)) : xV p l e R s m args below meth c G A nL Q cells slots ws pc lv (.long y :: .long x :: st) := by
  obtain ⟨hx, hb, hr, hlo, hml, hown, hts, hK, hA⟩ := C
  exact x_lift hp (fun H locs ls hP hl k => lv_land hx hb hdg k) kk
theorem x_lor (C : xCx p s m args meth c G K A nL cc own ret) {x y : Int64} (hdg : decode cc n = .ok (.lor, 1)) (hp : pc = n) (kk : xV p l e R s m args below meth c G A nL Q cells slots ws (n + 1) lv (.long (x ||| y) :: st)) : xV p l e R s m args below meth c G A nL Q cells slots ws pc lv (.long y :: .long x :: st) := by
  obtain ⟨hx, hb, hr, hlo, hml, hown, hts, hK, hA⟩ := C
  exact x_lift hp (fun H locs ls hP hl k => lv_lor hx hb hdg k) kk
theorem x_lxor (C : xCx p s m args meth c G K A nL cc own ret) {x y : Int64} (hdg : decode cc n = .ok (.lxor, 1)) (hp : pc = n) (kk : xV p l e R s m args below meth c G A nL Q cells slots ws (n + 1) lv (.long (x ^^^ y) :: st)) : xV p l e R s m args below meth c G A nL Q cells slots ws pc lv (.long y :: .long x :: st) := by
  obtain ⟨hx, hb, hr, hlo, hml, hown, hts, hK, hA⟩ := C
  exact x_lift hp (fun H locs ls hP hl k => lv_lxor hx hb hdg k) kk
theorem x_ladd (C : xCx p s m args meth c G K A nL cc own ret) {x y : Int64} (hdg : decode cc n = .ok (.ladd, 1)) (hp : pc = n) (kk : xV p l e R s m args below meth c G A nL Q cells slots ws (n + 1) lv (.long (x + y) :: st)) : xV p l e R s m args below meth c G A nL Q cells slots ws pc lv (.long y :: .long x :: st) := by
  obtain ⟨hx, hb, hr, hlo, hml, hown, hts, hK, hA⟩ := C
  exact x_lift hp (fun H locs ls hP hl k => lv_ladd hx hb hdg k) kk
theorem x_lsub (C : xCx p s m args meth c G K A nL cc own ret) {x y : Int64} (hdg : decode cc n = .ok (.lsub, 1)) (hp : pc = n) (kk : xV p l e R s m args below meth c G A nL Q cells slots ws (n + 1) lv (.long (x - y) :: st)) : xV p l e R s m args below meth c G A nL Q cells slots ws pc lv (.long y :: .long x :: st) := by
  obtain ⟨hx, hb, hr, hlo, hml, hown, hts, hK, hA⟩ := C
  exact x_lift hp (fun H locs ls hP hl k => lv_lsub hx hb hdg k) kk
theorem x_irem (C : xCx p s m args meth c G K A nL cc own ret) {x y : Int32} (hdg : decode cc n = .ok (.irem, 1)) (hp : pc = n) (hne : ¬ y = 0) (kk : xV p l e R s m args below meth c G A nL Q cells slots ws (n + 1) lv (.int (x - x / y * y) :: st)) : xV p l e R s m args below meth c G A nL Q cells slots ws pc lv (.int y :: .int x :: st) := by
  obtain ⟨hx, hb, hr, hlo, hml, hown, hts, hK, hA⟩ := C
  exact x_lift hp (fun H locs ls hP hl k => lv_irem hx hb hdg hne k) kk
theorem x_ishr (C : xCx p s m args meth c G K A nL cc own ret) {x y : Int32} (hdg : decode cc n = .ok (.ishr, 1)) (hp : pc = n) (kk : xV p l e R s m args below meth c G A nL Q cells slots ws (n + 1) lv (.int (x >>> (y &&& 31)) :: st)) : xV p l e R s m args below meth c G A nL Q cells slots ws pc lv (.int y :: .int x :: st) := by
  obtain ⟨hx, hb, hr, hlo, hml, hown, hts, hK, hA⟩ := C
  exact x_lift hp (fun H locs ls hP hl k => lv_ishr hx hb hdg k) kk
theorem x_ishl (C : xCx p s m args meth c G K A nL cc own ret) {x y : Int32} (hdg : decode cc n = .ok (.ishl, 1)) (hp : pc = n) (kk : xV p l e R s m args below meth c G A nL Q cells slots ws (n + 1) lv (.int (x <<< (y &&& 31)) :: st)) : xV p l e R s m args below meth c G A nL Q cells slots ws pc lv (.int y :: .int x :: st) := by
  obtain ⟨hx, hb, hr, hlo, hml, hown, hts, hK, hA⟩ := C
  exact x_lift hp (fun H locs ls hP hl k => lv_ishl hx hb hdg k) kk
theorem x_lshl (C : xCx p s m args meth c G K A nL cc own ret) {x : Int64} {y : Int32} (hdg : decode cc n = .ok (.lshl, 1)) (hp : pc = n) (kk : xV p l e R s m args below meth c G A nL Q cells slots ws (n + 1) lv (.long (x <<< (y.toInt64 &&& 63)) :: st)) : xV p l e R s m args below meth c G A nL Q cells slots ws pc lv (.int y :: .long x :: st) := by
  obtain ⟨hx, hb, hr, hlo, hml, hown, hts, hK, hA⟩ := C
  exact x_lift hp (fun H locs ls hP hl k => lv_lshl hx hb hdg rfl k) kk
theorem x_lshr (C : xCx p s m args meth c G K A nL cc own ret) {x : Int64} {y : Int32} (hdg : decode cc n = .ok (.lshr, 1)) (hp : pc = n) (kk : xV p l e R s m args below meth c G A nL Q cells slots ws (n + 1) lv (.long (x >>> (y.toInt64 &&& 63)) :: st)) : xV p l e R s m args below meth c G A nL Q cells slots ws pc lv (.int y :: .long x :: st) := by
  obtain ⟨hx, hb, hr, hlo, hml, hown, hts, hK, hA⟩ := C
  exact x_lift hp (fun H locs ls hP hl k => lv_lshr hx hb hdg rfl k) kk
theorem x_i2l (C : xCx p s m args meth c G K A nL cc own ret) {x : Int32} (hdg : decode cc n = .ok (.i2l, 1)) (hp : pc = n) (kk : xV p l e R s m args below meth c G A nL Q cells slots ws (n + 1) lv (.long x.toInt64 :: st)) : xV p l e R s m args below meth c G A nL Q cells slots ws pc lv (.int x :: st) := by
  obtain ⟨hx, hb, hr, hlo, hml, hown, hts, hK, hA⟩ := C
  exact x_lift hp (fun H locs ls hP hl k => lv_i2l hx hb hdg rfl k) kk
theorem x_l2i (C : xCx p s m args meth c G K A nL cc own ret) {x : Int64} (hdg : decode cc n = .ok (.l2i, 1)) (hp : pc = n) (kk : xV p l e R s m args below meth c G A nL Q cells slots ws (n + 1) lv (.int x.toInt32 :: st)) : xV p l e R s m args below meth c G A nL Q cells slots ws pc lv (.long x :: st) := by
  obtain ⟨hx, hb, hr, hlo, hml, hown, hts, hK, hA⟩ := C
  exact x_lift hp (fun H locs ls hP hl k => lv_l2i hx hb hdg rfl k) kk
theorem x_i2b (C : xCx p s m args meth c G K A nL cc own ret) {x : Int32} (hdg : decode cc n = .ok (.i2b, 1)) (hp : pc = n) (kk : xV p l e R s m args below meth c G A nL Q cells slots ws (n + 1) lv (.int x.toInt8.toInt32 :: st)) : xV p l e R s m args below meth c G A nL Q cells slots ws pc lv (.int x :: st) := by
  obtain ⟨hx, hb, hr, hlo, hml, hown, hts, hK, hA⟩ := C
  exact x_lift hp (fun H locs ls hP hl k => lv_i2b hx hb hdg rfl k) kk
theorem x_lcmp (C : xCx p s m args meth c G K A nL cc own ret) {x y : Int64} (hdg : decode cc n = .ok (.lcmp, 1)) (hp : pc = n) (kk : xV p l e R s m args below meth c G A nL Q cells slots ws (n + 1) lv (.int (if x < y then -1 else if x = y then 0 else 1) :: st)) : xV p l e R s m args below meth c G A nL Q cells slots ws pc lv (.long y :: .long x :: st) := by
  obtain ⟨hx, hb, hr, hlo, hml, hown, hts, hK, hA⟩ := C
  exact x_lift hp (fun H locs ls hP hl k => W.lcmp hx hb hdg k) kk
theorem x_dup (C : xCx p s m args meth c G K A nL cc own ret) {va : Value} (hdg : decode cc n = .ok (.dup, 1)) (hp : pc = n) (hva : va.category = 1) (kk : xV p l e R s m args below meth c G A nL Q cells slots ws (n + 1) lv (va :: va :: st)) : xV p l e R s m args below meth c G A nL Q cells slots ws pc lv (va :: st) := by
  obtain ⟨hx, hb, hr, hlo, hml, hown, hts, hK, hA⟩ := C
  exact x_lift hp (fun H locs ls hP hl k => lv_dup hx hb hdg hva k) kk
theorem x_pop (C : xCx p s m args meth c G K A nL cc own ret) {va : Value} (hdg : decode cc n = .ok (.pop, 1)) (hp : pc = n) (hva : va.category = 1) (kk : xV p l e R s m args below meth c G A nL Q cells slots ws (n + 1) lv st) : xV p l e R s m args below meth c G A nL Q cells slots ws pc lv (va :: st) := by
  obtain ⟨hx, hb, hr, hlo, hml, hown, hts, hK, hA⟩ := C
  exact x_lift hp (fun H locs ls hP hl k => lv_pop hx hb hdg hva k) kk
theorem x_dup2 (C : xCx p s m args meth c G K A nL cc own ret) {va vb : Value} (hdg : decode cc n = .ok (.dup2, 1)) (hp : pc = n) (hva : va.category = 1) (hvb : vb.category = 1) (kk : xV p l e R s m args below meth c G A nL Q cells slots ws (n + 1) lv (va :: vb :: va :: vb :: st)) : xV p l e R s m args below meth c G A nL Q cells slots ws pc lv (va :: vb :: st) := by
  obtain ⟨hx, hb, hr, hlo, hml, hown, hts, hK, hA⟩ := C
  exact x_lift hp (fun H locs ls hP hl k => lv_dup2_11 hx hb hdg hva hvb k) kk
theorem x_goto (C : xCx p s m args meth c G K A nL cc own ret) {off : Int} {tgt : Nat} (hdg : decode cc n = .ok (.goto off, 3)) (hp : pc = n) (ht : (n : Int) + off = (tgt : Int)) (kk : xV p l e R s m args below meth c G A nL Q cells slots ws tgt lv st) : xV p l e R s m args below meth c G A nL Q cells slots ws pc lv st := by
  obtain ⟨hx, hb, hr, hlo, hml, hown, hts, hK, hA⟩ := C
  exact x_lift hp (fun H locs ls hP hl k => lv_goto hx hb hdg ht k) kk
theorem x_icmp_eq (C : xCx p s m args meth c G K A nL cc own ret) {x y : Int32} {off : Int} (tgt : Nat) (hdg : decode cc n = .ok (.if_icmp .eq off, 3)) (hp : pc = n) (ht : (n : Int) + off = (tgt : Int)) (k1 : x = y → xV p l e R s m args below meth c G A nL Q cells slots ws tgt lv st) (k2 : ¬ (x = y) → xV p l e R s m args below meth c G A nL Q cells slots ws (n + 3) lv st) : xV p l e R s m args below meth c G A nL Q cells slots ws pc lv (.int y :: .int x :: st) := by
  obtain ⟨hx, hb, hr, hlo, hml, hown, hts, hK, hA⟩ := C
  subst hp
  intro H locs ls hP hD hS hl
  exact lv_icmp_eq hx hb hdg ht (fun h => k1 h H locs ls hP hD hS hl) (fun h => k2 h H locs ls hP hD hS hl)
theorem x_if_eq (C : xCx p s m args meth c G K A nL cc own ret) {x : Int32} {off : Int} (tgt : Nat) (hdg : decode cc n = .ok (.ifCond .eq off, 3)) (hp : pc = n) (ht : (n : Int) + off = (tgt : Int)) (k1 : x = 0 → xV p l e R s m args below meth c G A nL Q cells slots ws tgt lv st) (k2 : ¬ (x = 0) → xV p l e R s m args below meth c G A nL Q cells slots ws (n + 3) lv st) : xV p l e R s m args below meth c G A nL Q cells slots ws pc lv (.int x :: st) := by
  obtain ⟨hx, hb, hr, hlo, hml, hown, hts, hK, hA⟩ := C
  subst hp
  intro H locs ls hP hD hS hl
  exact lv_if_eq hx hb hdg ht (fun h => k1 h H locs ls hP hD hS hl) (fun h => k2 h H locs ls hP hD hS hl)
theorem x_icmp_ne (C : xCx p s m args meth c G K A nL cc own ret) {x y : Int32} {off : Int} (tgt : Nat) (hdg : decode cc n = .ok (.if_icmp .ne off, 3)) (hp : pc = n) (ht : (n : Int) + off = (tgt : Int)) (k1 : x ≠ y → xV p l e R s m args below meth c G A nL Q cells slots ws tgt lv st) (k2 : ¬ (x ≠ y) → xV p l e R s m args below meth c G A nL Q cells slots ws (n + 3) lv st) : xV p l e R s m args below meth c G A nL Q cells slots ws pc lv (.int y :: .int x :: st) := by
  obtain ⟨hx, hb, hr, hlo, hml, hown, hts, hK, hA⟩ := C
  subst hp
  intro H locs ls hP hD hS hl
  exact lv_icmp_ne hx hb hdg ht (fun h => k1 h H locs ls hP hD hS hl) (fun h => k2 h H locs ls hP hD hS hl)
theorem x_if_ne (C : xCx p s m args meth c G K A nL cc own ret) {x : Int32} {off : Int} (tgt : Nat) (hdg : decode cc n = .ok (.ifCond .ne off, 3)) (hp : pc = n) (ht : (n : Int) + off = (tgt : Int)) (k1 : x ≠ 0 → xV p l e R s m args below meth c G A nL Q cells slots ws tgt lv st) (k2 : ¬ (x ≠ 0) → xV p l e R s m args below meth c G A nL Q cells slots ws (n + 3) lv st) : xV p l e R s m args below meth c G A nL Q cells slots ws pc lv (.int x :: st) := by
  obtain ⟨hx, hb, hr, hlo, hml, hown, hts, hK, hA⟩ := C
  subst hp
  intro H locs ls hP hD hS hl
  exact lv_if_ne hx hb hdg ht (fun h => k1 h H locs ls hP hD hS hl) (fun h => k2 h H locs ls hP hD hS hl)
theorem x_icmp_lt (C : xCx p s m args meth c G K A nL cc own ret) {x y : Int32} {off : Int} (tgt : Nat) (hdg : decode cc n = .ok (.if_icmp .lt off, 3)) (hp : pc = n) (ht : (n : Int) + off = (tgt : Int)) (k1 : x < y → xV p l e R s m args below meth c G A nL Q cells slots ws tgt lv st) (k2 : ¬ (x < y) → xV p l e R s m args below meth c G A nL Q cells slots ws (n + 3) lv st) : xV p l e R s m args below meth c G A nL Q cells slots ws pc lv (.int y :: .int x :: st) := by
  obtain ⟨hx, hb, hr, hlo, hml, hown, hts, hK, hA⟩ := C
  subst hp
  intro H locs ls hP hD hS hl
  exact lv_icmp_lt hx hb hdg ht (fun h => k1 h H locs ls hP hD hS hl) (fun h => k2 h H locs ls hP hD hS hl)
theorem x_if_lt (C : xCx p s m args meth c G K A nL cc own ret) {x : Int32} {off : Int} (tgt : Nat) (hdg : decode cc n = .ok (.ifCond .lt off, 3)) (hp : pc = n) (ht : (n : Int) + off = (tgt : Int)) (k1 : x < 0 → xV p l e R s m args below meth c G A nL Q cells slots ws tgt lv st) (k2 : ¬ (x < 0) → xV p l e R s m args below meth c G A nL Q cells slots ws (n + 3) lv st) : xV p l e R s m args below meth c G A nL Q cells slots ws pc lv (.int x :: st) := by
  obtain ⟨hx, hb, hr, hlo, hml, hown, hts, hK, hA⟩ := C
  subst hp
  intro H locs ls hP hD hS hl
  exact lv_if_lt hx hb hdg ht (fun h => k1 h H locs ls hP hD hS hl) (fun h => k2 h H locs ls hP hD hS hl)
theorem x_icmp_ge (C : xCx p s m args meth c G K A nL cc own ret) {x y : Int32} {off : Int} (tgt : Nat) (hdg : decode cc n = .ok (.if_icmp .ge off, 3)) (hp : pc = n) (ht : (n : Int) + off = (tgt : Int)) (k1 : y ≤ x → xV p l e R s m args below meth c G A nL Q cells slots ws tgt lv st) (k2 : ¬ (y ≤ x) → xV p l e R s m args below meth c G A nL Q cells slots ws (n + 3) lv st) : xV p l e R s m args below meth c G A nL Q cells slots ws pc lv (.int y :: .int x :: st) := by
  obtain ⟨hx, hb, hr, hlo, hml, hown, hts, hK, hA⟩ := C
  subst hp
  intro H locs ls hP hD hS hl
  exact lv_icmp_ge hx hb hdg ht (fun h => k1 h H locs ls hP hD hS hl) (fun h => k2 h H locs ls hP hD hS hl)
theorem x_if_ge (C : xCx p s m args meth c G K A nL cc own ret) {x : Int32} {off : Int} (tgt : Nat) (hdg : decode cc n = .ok (.ifCond .ge off, 3)) (hp : pc = n) (ht : (n : Int) + off = (tgt : Int)) (k1 : 0 ≤ x → xV p l e R s m args below meth c G A nL Q cells slots ws tgt lv st) (k2 : ¬ (0 ≤ x) → xV p l e R s m args below meth c G A nL Q cells slots ws (n + 3) lv st) : xV p l e R s m args below meth c G A nL Q cells slots ws pc lv (.int x :: st) := by
  obtain ⟨hx, hb, hr, hlo, hml, hown, hts, hK, hA⟩ := C
  subst hp
  intro H locs ls hP hD hS hl
  exact lv_if_ge hx hb hdg ht (fun h => k1 h H locs ls hP hD hS hl) (fun h => k2 h H locs ls hP hD hS hl)
theorem x_icmp_gt (C : xCx p s m args meth c G K A nL cc own ret) {x y : Int32} {off : Int} (tgt : Nat) (hdg : decode cc n = .ok (.if_icmp .gt off, 3)) (hp : pc = n) (ht : (n : Int) + off = (tgt : Int)) (k1 : y < x → xV p l e R s m args below meth c G A nL Q cells slots ws tgt lv st) (k2 : ¬ (y < x) → xV p l e R s m args below meth c G A nL Q cells slots ws (n + 3) lv st) : xV p l e R s m args below meth c G A nL Q cells slots ws pc lv (.int y :: .int x :: st) := by
  obtain ⟨hx, hb, hr, hlo, hml, hown, hts, hK, hA⟩ := C
  subst hp
  intro H locs ls hP hD hS hl
  exact lv_icmp_gt hx hb hdg ht (fun h => k1 h H locs ls hP hD hS hl) (fun h => k2 h H locs ls hP hD hS hl)
theorem x_if_gt (C : xCx p s m args meth c G K A nL cc own ret) {x : Int32} {off : Int} (tgt : Nat) (hdg : decode cc n = .ok (.ifCond .gt off, 3)) (hp : pc = n) (ht : (n : Int) + off = (tgt : Int)) (k1 : 0 < x → xV p l e R s m args below meth c G A nL Q cells slots ws tgt lv st) (k2 : ¬ (0 < x) → xV p l e R s m args below meth c G A nL Q cells slots ws (n + 3) lv st) : xV p l e R s m args below meth c G A nL Q cells slots ws pc lv (.int x :: st) := by
  obtain ⟨hx, hb, hr, hlo, hml, hown, hts, hK, hA⟩ := C
  subst hp
  intro H locs ls hP hD hS hl
  exact lv_if_gt hx hb hdg ht (fun h => k1 h H locs ls hP hD hS hl) (fun h => k2 h H locs ls hP hD hS hl)
theorem x_icmp_le (C : xCx p s m args meth c G K A nL cc own ret) {x y : Int32} {off : Int} (tgt : Nat) (hdg : decode cc n = .ok (.if_icmp .le off, 3)) (hp : pc = n) (ht : (n : Int) + off = (tgt : Int)) (k1 : x ≤ y → xV p l e R s m args below meth c G A nL Q cells slots ws tgt lv st) (k2 : ¬ (x ≤ y) → xV p l e R s m args below meth c G A nL Q cells slots ws (n + 3) lv st) : xV p l e R s m args below meth c G A nL Q cells slots ws pc lv (.int y :: .int x :: st) := by
  obtain ⟨hx, hb, hr, hlo, hml, hown, hts, hK, hA⟩ := C
  subst hp
  intro H locs ls hP hD hS hl
  exact lv_icmp_le hx hb hdg ht (fun h => k1 h H locs ls hP hD hS hl) (fun h => k2 h H locs ls hP hD hS hl)
theorem x_if_le (C : xCx p s m args meth c G K A nL cc own ret) {x : Int32} {off : Int} (tgt : Nat) (hdg : decode cc n = .ok (.ifCond .le off, 3)) (hp : pc = n) (ht : (n : Int) + off = (tgt : Int)) (k1 : x ≤ 0 → xV p l e R s m args below meth c G A nL Q cells slots ws tgt lv st) (k2 : ¬ (x ≤ 0) → xV p l e R s m args below meth c G A nL Q cells slots ws (n + 3) lv st) : xV p l e R s m args below meth c G A nL Q cells slots ws pc lv (.int x :: st) := by
  obtain ⟨hx, hb, hr, hlo, hml, hown, hts, hK, hA⟩ := C
  subst hp
  intro H locs ls hP hD hS hl
  exact lv_if_le hx hb hdg ht (fun h => k1 h H locs ls hP hD hS hl) (fun h => k2 h H locs ls hP hD hS hl)
theorem x_tableIn (C : xCx p s m args meth c G K A nL cc own ret) {dflt lo hi : Int} {offs : Array Int} {len : Nat} {x : Int32} {off : Int} (tgt : Nat) (hdg : decode cc n = .ok (.tableswitch dflt lo hi offs, len)) (hp : pc = n) (h1 : ¬ x.toInt < lo) (h2 : ¬ hi < x.toInt) (ho : offs[(x.toInt - lo).toNat]? = some off) (ht : (n : Int) + off = (tgt : Int)) (kk : xV p l e R s m args below meth c G A nL Q cells slots ws tgt lv st) : xV p l e R s m args below meth c G A nL Q cells slots ws pc lv (.int x :: st) := by
  obtain ⟨hx, hb, hr, hlo, hml, hown, hts, hK, hA⟩ := C
  exact x_lift hp (fun H locs ls hP hl k => lv_tableIn hx hb hdg h1 h2 ho ht k) kk
theorem x_tableOut (C : xCx p s m args meth c G K A nL cc own ret) {dflt lo hi : Int} {offs : Array Int} {len : Nat} {x : Int32} (tgt : Nat) (hdg : decode cc n = .ok (.tableswitch dflt lo hi offs, len)) (hp : pc = n) (h : x.toInt < lo ∨ hi < x.toInt) (ht : (n : Int) + dflt = (tgt : Int)) (kk : xV p l e R s m args below meth c G A nL Q cells slots ws tgt lv st) : xV p l e R s m args below meth c G A nL Q cells slots ws pc lv (.int x :: st) := by
  obtain ⟨hx, hb, hr, hlo, hml, hown, hts, hK, hA⟩ := C
  exact x_lift hp (fun H locs ls hP hl k => lv_tableOut hx hb hdg h ht k) kk
theorem x_get (C : xCx p s m args meth c G K A nL cc own ret) {ref C9 : String} {T : u_T} {N ci index a : Nat} (q0 : Nat) {fs : List Value} (hc : vwCl[ci]? = some (C9, T, N)) (hin : ∀ w ∈ u_ws C9 T N, w ∈ lw_tbl) (k : Nat) (hk : k < N) (hsame : (T k).1 = ref) (he : ws[q0]? = some (a, .inr (ci, fs))) {v : Value} (hv : fs[k]? = some v) (hlink : Cond.fieldLink own index ref (T k).2.1 (T k).2.2.1 ∈ lw_tbl) (hdg : decode cc n = .ok (.getfield index, 3)) (hp : pc = n) (kk : xV p l e R s m args below meth c G A nL Q cells slots ws (n + 3) lv (v :: st)) : xV p l e R s m args below meth c G A nL Q cells slots ws pc lv (.ref a :: st) := by
  obtain ⟨hx, hb, hr, hlo, hml, hown, hts, hK, hA⟩ := C
  exact x_lift hp (fun H locs ls hP hl k9 => va_get hx hb hts hin hown hK hP q0 he hc k hk (hts _ hlink) (fun x h => by rw [← hsame]; exact h) hv hdg k9) kk
theorem x_put (C : xCx p s m args meth c G K A nL cc own ret) {ref C9 : String} {T : u_T} {N ci index a : Nat} (q0 : Nat) {fs : List Value} {ws' : va_W} (ty0 : Nat → FieldType) (hty : ∀ k, k < N → parseFieldDescriptor (T k).2.2.1 = some (ty0 k)) (hnm : ∀ a, a < N → ∀ b, b < N → a ≠ b → (T a).2.1 ≠ (T b).2.1) (hc : vwCl[ci]? = some (C9, T, N)) (hin : ∀ w ∈ u_ws C9 T N, w ∈ lw_tbl) (k : Nat) (hk : k < N) (hsame : (T k).1 = ref) (hfin : (T k).2.2.2 = false) (he : ws[q0]? = some (a, .inr (ci, fs))) {ty : FieldType} {v : Value} (hd : parseFieldDescriptor (T k).2.2.1 = some ty) (hn : narrow ty v = v) (hfit : fits ty v = true) (hl : k < fs.length) (hws : ws.set q0 (a, .inr (ci, fs.set k v)) = ws') (hlink : Cond.fieldLink own index ref (T k).2.1 (T k).2.2.1 ∈ lw_tbl) (hdg : decode cc n = .ok (.putfield index, 3)) (hp : pc = n) (kk : xV p l e R s m args below meth c G A nL Q cells slots ws' (n + 3) lv st) : xV p l e R s m args below meth c G A nL Q cells slots ws pc lv (v :: .ref a :: st) := by
  obtain ⟨hx, hb, hr, hlo, hml, hown, hts, hK, hA⟩ := C
  subst hp; subst hws
  intro H locs ls hP hD hS hl0
  exact va_put hx hb hts hin ty0 hty hnm hown hK hP hD hS q0 he hc k hk (hts _ hlink) (fun x h => by rw [← hsame]; exact h) hfin hd hn hfit hl hdg (fun H1 locs1 hP1 hD1 hS1 => kk H1 locs1 ls hP1 hD1 hS1 hl0)
theorem x_iald (C : xCx p s m args meth c G K A nL cc own ret) {a N9 : Nat} {f : Nat → Int32} {i : Int32} (q0 : Nat) (he : ws[q0]? = some (a, .inl (K 0, N9, .inl f))) (hin : vp_in i N9) (hdg : decode cc n = .ok (.iaload, 1)) (hp : pc = n) (kk : xV p l e R s m args below meth c G A nL Q cells slots ws (n + 1) lv (.int (f i.toNatClampNeg) :: st)) : xV p l e R s m args below meth c G A nL Q cells slots ws pc lv (.int i :: .ref a :: st) := by
  obtain ⟨hx, hb, hr, hlo, hml, hown, hts, hK, hA⟩ := C
  exact x_lift hp (fun H locs ls hP hl k9 => va_iald hx hb hK hP q0 0 he rfl hin hdg k9) kk
theorem x_bald (C : xCx p s m args meth c G K A nL cc own ret) {a N9 : Nat} {f : Nat → Int32} {i : Int32} (q0 : Nat) (he : ws[q0]? = some (a, .inl (K 3, N9, .inl f))) (hin : vp_in i N9) (hdg : decode cc n = .ok (.baload, 1)) (hp : pc = n) (kk : xV p l e R s m args below meth c G A nL Q cells slots ws (n + 1) lv (.int (f i.toNatClampNeg) :: st)) : xV p l e R s m args below meth c G A nL Q cells slots ws pc lv (.int i :: .ref a :: st) := by
  obtain ⟨hx, hb, hr, hlo, hml, hown, hts, hK, hA⟩ := C
  exact x_lift hp (fun H locs ls hP hl k9 => va_bald hx hb hK hP q0 3 he rfl hin hdg k9) kk
theorem x_zald (C : xCx p s m args meth c G K A nL cc own ret) {a N9 : Nat} {f : Nat → Int32} {i : Int32} (q0 : Nat) (he : ws[q0]? = some (a, .inl (K 2, N9, .inl f))) (hin : vp_in i N9) (hdg : decode cc n = .ok (.baload, 1)) (hp : pc = n) (kk : xV p l e R s m args below meth c G A nL Q cells slots ws (n + 1) lv (.int (f i.toNatClampNeg) :: st)) : xV p l e R s m args below meth c G A nL Q cells slots ws pc lv (.int i :: .ref a :: st) := by
  obtain ⟨hx, hb, hr, hlo, hml, hown, hts, hK, hA⟩ := C
  exact x_lift hp (fun H locs ls hP hl k9 => va_zald hx hb hK hP q0 2 he rfl hin hdg k9) kk
theorem x_lald (C : xCx p s m args meth c G K A nL cc own ret) {a N9 : Nat} {f : Nat → Int64} {i : Int32} (q0 : Nat) (he : ws[q0]? = some (a, .inl (K 1, N9, .inr (.inl f)))) (hin : vp_in i N9) (hdg : decode cc n = .ok (.laload, 1)) (hp : pc = n) (kk : xV p l e R s m args below meth c G A nL Q cells slots ws (n + 1) lv (.long (f i.toNatClampNeg) :: st)) : xV p l e R s m args below meth c G A nL Q cells slots ws pc lv (.int i :: .ref a :: st) := by
  obtain ⟨hx, hb, hr, hlo, hml, hown, hts, hK, hA⟩ := C
  exact x_lift hp (fun H locs ls hP hl k9 => va_lald hx hb hK hP q0 1 he rfl hin hdg k9) kk
theorem x_iast (C : xCx p s m args meth c G K A nL cc own ret) {a N9 : Nat} {f : Nat → Int32} {i : Int32} {x : Int32} {ws' : va_W} (q0 : Nat) (he : ws[q0]? = some (a, .inl (K 0, N9, .inl f))) (hin : vp_in i N9) (hws : ws.set q0 (a, .inl (K 0, N9, .inl (upd f i.toNatClampNeg x))) = ws') (hdg : decode cc n = .ok (.iastore, 1)) (hp : pc = n) (kk : xV p l e R s m args below meth c G A nL Q cells slots ws' (n + 1) lv st) : xV p l e R s m args below meth c G A nL Q cells slots ws pc lv (.int x :: .int i :: .ref a :: st) := by
  obtain ⟨hx, hb, hr, hlo, hml, hown, hts, hK, hA⟩ := C
  subst hp; subst hws
  intro H locs ls hP hD hS hl0
  exact va_iast hx hb hK hP hD hS q0 0 he rfl hin hdg (fun H1 locs1 hP1 hD1 hS1 => kk H1 locs1 ls hP1 hD1 hS1 hl0)
theorem x_bast (C : xCx p s m args meth c G K A nL cc own ret) {a N9 : Nat} {f : Nat → Int32} {i : Int32} {x : Int32} {ws' : va_W} (q0 : Nat) (he : ws[q0]? = some (a, .inl (K 3, N9, .inl f))) (hin : vp_in i N9) (hws : ws.set q0 (a, .inl (K 3, N9, .inl (upd f i.toNatClampNeg (vp_nar .byte x)))) = ws') (hdg : decode cc n = .ok (.bastore, 1)) (hp : pc = n) (kk : xV p l e R s m args below meth c G A nL Q cells slots ws' (n + 1) lv st) : xV p l e R s m args below meth c G A nL Q cells slots ws pc lv (.int x :: .int i :: .ref a :: st) := by
  obtain ⟨hx, hb, hr, hlo, hml, hown, hts, hK, hA⟩ := C
  subst hp; subst hws
  intro H locs ls hP hD hS hl0
  exact va_bast hx hb hK hP hD hS q0 3 he rfl hin hdg (fun H1 locs1 hP1 hD1 hS1 => kk H1 locs1 ls hP1 hD1 hS1 hl0)
theorem x_zast (C : xCx p s m args meth c G K A nL cc own ret) {a N9 : Nat} {f : Nat → Int32} {i : Int32} {x : Int32} {ws' : va_W} (q0 : Nat) (he : ws[q0]? = some (a, .inl (K 2, N9, .inl f))) (hin : vp_in i N9) (hws : ws.set q0 (a, .inl (K 2, N9, .inl (upd f i.toNatClampNeg (vp_nar .boolean x)))) = ws') (hdg : decode cc n = .ok (.bastore, 1)) (hp : pc = n) (kk : xV p l e R s m args below meth c G A nL Q cells slots ws' (n + 1) lv st) : xV p l e R s m args below meth c G A nL Q cells slots ws pc lv (.int x :: .int i :: .ref a :: st) := by
  obtain ⟨hx, hb, hr, hlo, hml, hown, hts, hK, hA⟩ := C
  subst hp; subst hws
  intro H locs ls hP hD hS hl0
  exact va_zast hx hb hK hP hD hS q0 2 he rfl hin hdg (fun H1 locs1 hP1 hD1 hS1 => kk H1 locs1 ls hP1 hD1 hS1 hl0)
theorem x_last (C : xCx p s m args meth c G K A nL cc own ret) {a N9 : Nat} {f : Nat → Int64} {i : Int32} {x : Int64} {ws' : va_W} (q0 : Nat) (he : ws[q0]? = some (a, .inl (K 1, N9, .inr (.inl f)))) (hin : vp_in i N9) (hws : ws.set q0 (a, .inl (K 1, N9, .inr (.inl (vp_updL f i.toNatClampNeg x)))) = ws') (hdg : decode cc n = .ok (.lastore, 1)) (hp : pc = n) (kk : xV p l e R s m args below meth c G A nL Q cells slots ws' (n + 1) lv st) : xV p l e R s m args below meth c G A nL Q cells slots ws pc lv (.long x :: .int i :: .ref a :: st) := by
  obtain ⟨hx, hb, hr, hlo, hml, hown, hts, hK, hA⟩ := C
  subst hp; subst hws
  intro H locs ls hP hD hS hl0
  exact va_last hx hb hK hP hD hS q0 1 he rfl hin hdg (fun H1 locs1 hP1 hD1 hS1 => kk H1 locs1 ls hP1 hD1 hS1 hl0)
theorem x_aldq (C : xCx p s m args meth c G K A nL cc own ret) {a N9 v : Nat} {f : Nat → Option Nat} {i : Int32} (q0 : Nat) (he : ws[q0]? = some (a, .inl (K 4, N9, .inr (.inr (.inr (.inr f)))))) (hin : vp_in i N9) (hv : f i.toNatClampNeg = some v) (hdg : decode cc n = .ok (.aaload, 1)) (hp : pc = n) (kk : xV p l e R s m args below meth c G A nL Q cells slots ws (n + 1) lv (.ref v :: st)) : xV p l e R s m args below meth c G A nL Q cells slots ws pc lv (.int i :: .ref a :: st) := by
  obtain ⟨hx, hb, hr, hlo, hml, hown, hts, hK, hA⟩ := C
  exact x_lift hp (fun H locs ls hP hl k9 => va_aldq hx hb hK hP q0 4 he rfl hin hdg (by rw [hv]; exact k9)) kk
theorem x_astq (C : xCx p s m args meth c G K A nL cc own ret) {a N9 v ci : Nat} {vs : List Value} {r : vw_C} {f : Nat → Option Nat} {i : Int32} {ws' : va_W} (q0 qk : Nat) (he : ws[q0]? = some (a, .inl (K 4, N9, .inr (.inr (.inr (.inr f)))))) (hv : ws[qk]? = some (v, .inr (ci, vs))) (hc : vwCl[ci]? = some r) (hr1 : r.1 = "NeighbourDesk$Entry") (hin : vp_in i N9) (hws : ws.set q0 (a, .inl (K 4, N9, .inr (.inr (.inr (.inr (va_up f i.toNatClampNeg (some v))))))) = ws') (hdg : decode cc n = .ok (.aastore, 1)) (hp : pc = n) (kk : xV p l e R s m args below meth c G A nL Q cells slots ws' (n + 1) lv st) : xV p l e R s m args below meth c G A nL Q cells slots ws pc lv (.ref v :: .int i :: .ref a :: st) := by
  obtain ⟨hx, hb, hr, hlo, hml, hown, hts, hK, hA⟩ := C
  subst hp; subst hws
  intro H locs ls hP hD hS hl0
  exact va_astq hx hb hK hP hD hS q0 4 qk ci he (by rw [hr1]; rfl) hv hc hin hdg (fun H1 locs1 hP1 hD1 hS1 => kk H1 locs1 ls hP1 hD1 hS1 hl0)
theorem x_alen (C : xCx p s m args meth c G K A nL cc own ret) {a : Nat} {x : vp_A} {v : Int32} {ty : FieldType} {cA : ClassId} (q0 t0 : Nat) (he : ws[q0]? = some (a, .inl (cA, x))) (ht : (xty K)[t0]? = some (cA, ty)) (hv : Int32.ofNat x.1 = v) (hdg : decode cc n = .ok (.arraylength, 1)) (hp : pc = n) (kk : xV p l e R s m args below meth c G A nL Q cells slots ws (n + 1) lv (.int v :: st)) : xV p l e R s m args below meth c G A nL Q cells slots ws pc lv (.ref a :: st) := by
  obtain ⟨hx, hb, hr, hlo, hml, hown, hts, hK, hA⟩ := C
  exact x_lift hp (fun H locs ls hP hl k9 => va_alen hx hb hK hP q0 t0 he ht hv hdg k9) kk
def xQc (G : va_G) (A : Nat → Prop) (ws0 : va_W) (Po : Option Value → va_W → Prop) : Array Value → State → Outcome → State → Prop := fun _ s0 o t => (∃ (v : Option Value) (ws' : va_W), o = .returned v ∧ Po v ws' ∧ va_P G vwCl ws' t.heap ∧ ws'.map Prod.fst = ws0.map Prod.fst) ∧ va_F A s0 t
def xPre (G : va_G) (K : Nat → ClassId) (av : List Value) (ws : va_W) (sz : Nat) : Array Value → State → Prop := va_Pc av (fun U => U.heap.size = sz ∧ va_P G vwCl ws U.heap ∧ va_K G vwCl (xty K) U ∧ va_D (fun _ => True) ws)
abbrev xRm (fr lo mc ms : Nat) : Room := { frames := fr, cells := mc, slots := ms, locals := lo }
def xMet (l : Launch) (y : MethodName) (cc : ByteArray) (n : Nat) (ret : Option FieldType) (fr lo mc ms : Nat) (G : va_G) (K : Nat → ClassId) (av : List Value) (ws : va_W) (Po : Option Value → va_W → Prop) : Prop :=
  ∀ sz : Nat, Met l y (Cond.code y cc n ret :: lw_tbl) (xRm fr lo mc ms) (xPre G K av ws sz) (xQc G (va_A ws sz) ws Po) mc ms (va_A ws sz)
abbrev xQ (G : va_G) (A : Nat → Prop) (ws0 : va_W) (Po : Option Value → va_W → Prop) (below : List Frame) (args : Array Value) (s : State) (mc ms : Nat) : State → Prop := MQ below (xQc G A ws0 Po) args s mc ms A
theorem xMet.intro {l : Launch} {y : MethodName} {fr lo mc ms : Nat} {av : List Value} {Po : Option Value → va_W → Prop} (hy : plainName y.cls = true) (ho : y.cls = own) (hn : (lg_sl av).length ≤ n) (hlv : lv_args 0 av = lv)
    (body : ∀ (p : Program) (e : Env) (s : State) (m : MethodId) (args : Array Value) (below : List Frame) (meth : Method) (c : Code) (A : Nat → Prop), xCx p s m args meth c G K A n cc own ret → xV p l e (xRm fr lo mc ms) s m args below meth c G A n (xQ G A ws Po below args s mc ms) 0 0 ws 0 lv []) : xMet l y cc n ret fr lo mc ms G K av ws Po := by
  intro sz
  refine Met.ofW (cc := cc) (maxL := n) (ret := ret) hy rfl ?_
  intro p e s m args below meth c s₁ B hml hv
  obtain ⟨rfl, hsz, hP, hK, hD0⟩ := hv
  have hts := atoms_spec (ws := Cond.code y cc n ret :: lw_tbl) B.pre
  have hown : s.vm.findClass y.cls = some m.cls := findClass_of_methodNamed B.named
  subst hsz
  have hl := lv_entry av (n := n) hn
  rw [lg_entry_eq]
  rw [hlv] at hl
  exact body p e s m _ below meth c (va_A ws s.heap.size) ⟨B.exec, B.bytes, B.returns, B.notSynchronized, hml, ho ▸ hown, fun w h => hts w (List.mem_cons_of_mem _ h), hK, fun q h => Or.inr h⟩ s.heap [] _ hP hD0.self va_S.rf hl

theorem x_iret (C : xCx p s m args meth c G K A nL cc own (some .int)) {v : Int32} {ws0 : va_W} {Po : Option Value → va_W → Prop} (hdg : decode cc n = .ok (.ireturn, 1)) (hp : pc = n) (hs : ws.map Prod.fst = ws0.map Prod.fst) (hPo : Po (some (.int v)) ws) : xV p l e R s m args below meth c G A nL (xQ G A ws0 Po below args s cells slots) cells slots ws pc lv ([.int v]) := by
  obtain ⟨hx, hb, hr, hlo, hml, hown, hts, hK, hA⟩ := C
  subst hp
  intro H locs ls hP hD hS hl
  exact W.iret hx hb hr (fun t ht hW => ⟨⟨_, ws, rfl, hPo, by rw [ht]; exact hP, hs⟩, hS.F ht⟩) hS.2.2 hdg hlo
theorem x_zret (C : xCx p s m args meth c G K A nL cc own (some .boolean)) {v : Int32} {ws0 : va_W} {Po : Option Value → va_W → Prop} (hdg : decode cc n = .ok (.ireturn, 1)) (hp : pc = n) (hn : narrow .boolean (.int v) = .int v) (hs : ws.map Prod.fst = ws0.map Prod.fst) (hPo : Po (some (.int v)) ws) : xV p l e R s m args below meth c G A nL (xQ G A ws0 Po below args s cells slots) cells slots ws pc lv ([.int v]) := by
  obtain ⟨hx, hb, hr, hlo, hml, hown, hts, hK, hA⟩ := C
  subst hp
  intro H locs ls hP hD hS hl
  exact W.zret hx hb hr hn (fun t ht hW => ⟨⟨_, ws, rfl, hPo, by rw [ht]; exact hP, hs⟩, hS.F ht⟩) hS.2.2 hdg hlo
theorem x_lret (C : xCx p s m args meth c G K A nL cc own (some .long)) {v : Int64} {ws0 : va_W} {Po : Option Value → va_W → Prop} (hdg : decode cc n = .ok (.lreturn, 1)) (hp : pc = n) (hs : ws.map Prod.fst = ws0.map Prod.fst) (hPo : Po (some (.long v)) ws) : xV p l e R s m args below meth c G A nL (xQ G A ws0 Po below args s cells slots) cells slots ws pc lv ([.long v]) := by
  obtain ⟨hx, hb, hr, hlo, hml, hown, hts, hK, hA⟩ := C
  subst hp
  intro H locs ls hP hD hS hl
  exact W.lret hx hb hr (fun t ht hW => ⟨⟨_, ws, rfl, hPo, by rw [ht]; exact hP, hs⟩, hS.F ht⟩) hS.2.2 hdg hlo
theorem x_vret (C : xCx p s m args meth c G K A nL cc own none)  {ws0 : va_W} {Po : Option Value → va_W → Prop} (hdg : decode cc n = .ok (.return_, 1)) (hp : pc = n) (hs : ws.map Prod.fst = ws0.map Prod.fst) (hPo : Po none ws) : xV p l e R s m args below meth c G A nL (xQ G A ws0 Po below args s cells slots) cells slots ws pc lv st := by
  obtain ⟨hx, hb, hr, hlo, hml, hown, hts, hK, hA⟩ := C
  subst hp
  intro H locs ls hP hD hS hl
  exact W.vret hx hb hr (fun t ht hW => ⟨⟨_, ws, rfl, hPo, by rw [ht]; exact hP, hs⟩, hS.F ht⟩) hS.2.2 hdg hlo
theorem x_aret (C : xCx p s m args meth c G K A nL cc own (some (.object O9))) {O9 : String} {v : Nat} {ws0 : va_W} {Po : Option Value → va_W → Prop} (hdg : decode cc n = .ok (.areturn, 1)) (hp : pc = n) (hs : ws.map Prod.fst = ws0.map Prod.fst) (hPo : Po (some (.ref v)) ws) : xV p l e R s m args below meth c G A nL (xQ G A ws0 Po below args s cells slots) cells slots ws pc lv ([.ref v]) := by
  obtain ⟨hx, hb, hr, hlo, hml, hown, hts, hK, hA⟩ := C
  subst hp
  intro H locs ls hP hD hS hl
  exact W.aret hx hb hr (Or.inl ⟨_, rfl⟩) (Or.inr ⟨_, rfl⟩) (fun t ht hW => ⟨⟨_, ws, rfl, hPo, by rw [ht]; exact hP, hs⟩, hS.F ht⟩) hS.2.2 hdg hlo
theorem x_sameD {A : Nat → Prop} {ws ws' : va_W} (hs : ws'.map Prod.fst = ws.map Prod.fst) (hD : va_D A ws) : va_D A ws' := by
  have key : ∀ (k : Nat) (q : Nat × va_E), ws'[k]? = some q → ∃ q0, ws[k]? = some q0 ∧ q0.1 = q.1 := by
    intro k q hk
    have h1 : (ws'.map Prod.fst)[k]? = some q.1 := by rw [List.getElem?_map, hk]; rfl
    rw [hs, List.getElem?_map] at h1
    cases h2 : ws[k]? with
    | none => rw [h2] at h1; cases h1
    | some q0 => rw [h2] at h1; exact ⟨q0, rfl, Option.some.inj h1⟩
  refine ⟨fun i j x y hi hj hxy => ?_, fun k q hk => ?_⟩
  · obtain ⟨x0, h1, h2⟩ := key i x hi
    obtain ⟨y0, h3, h4⟩ := key j y hj
    exact hD.1 i j x0 y0 h1 h3 (h2.trans (hxy.trans h4.symm))
  · obtain ⟨q0, h1, h2⟩ := key k q hk
    rw [← h2]
    exact hD.2 k q0 h1
theorem x_run {mc ms : Nat} {Po : Option Value → va_W → Prop} {rest : List Value} {a9 : Array Value} (hp : pc = n) (hA : ∀ q : Nat, s.heap.size ≤ q → A q)
    (hr : ∀ (H : Heap) (locs : List Loc) (ls : Array Slot), va_P G vwCl ws H → va_D A ws → va_S A s.heap H locs → lv_has ls nL lv → va_Run p l e R s m args below meth c H locs cells slots mc ms (F0 m n ls st) rest (xQc G (va_A ws H.size) ws Po a9) (va_A ws H.size))
    (kk : ∀ (v : Option Value) (ws' : va_W), Po v ws' → ws'.map Prod.fst = ws.map Prod.fst → xV p l e R s m args below meth c G A nL Q (cells + mc) (slots + ms) ws' (n + 3) lv (v.toList ++ rest)) : xV p l e R s m args below meth c G A nL Q cells slots ws pc lv st := by
  subst hp
  intro H locs ls hP hD hS hl T hT X
  obtain ⟨v, st₀, t, T', L, h0, X', hL, e1, e2, ⟨⟨v', ws', hv, hPo, hP', hs⟩, hF⟩, go⟩ := hr H locs ls hP hD hS hl T hT X
  have hv' : v = v' := by injection hv
  subst hv'
  obtain ⟨hF1, hF2⟩ := hF
  rw [h0] at hF1 hF2
  have hA1 : ∀ q, va_A ws H.size q → A q := by
    intro q hq
    rcases hq with ⟨k, e9, hk⟩ | hq
    · exact hD.2 k _ hk
    · exact hA q (Nat.le_trans hS.1 hq)
  have hS' : va_S A s.heap T'.heap (locs ++ L) := ⟨Nat.le_trans hS.1 (by rw [e1]; exact hF1), fun q h1 h2 => by rw [e1, hF2 q (Nat.lt_of_lt_of_le h1 hS.1) (fun z => h2 (hA1 q z))]; exact hS.2.1 q h1 h2, fun q hq => by
      rcases List.mem_append.mp hq with h | h
      · exact hS.2.2 q h
      · exact hA1 _ (hL q h)⟩
  obtain ⟨t2, a1, b1⟩ := kk v ws' hPo hs T'.heap (locs ++ L) ls (by rw [e1]; exact hP') (x_sameD hs hD) hS' hl T' rfl X'
  exact ⟨t2, go t2 a1, b1⟩
theorem xPre.blind {av : List Value} {sz : Nat} : FrameBlind (xPre G K av ws sz) := fun a U g mk q => by
  obtain ⟨q0, q1, qP, qK, qD⟩ := q
  exact ⟨q0, q1, qP, va_K.moved (u := U) (U := U.calling g mk a) (Vm.Alike.refl U.vm) qK, qD⟩
theorem xPre.mk' {av : List Value} {H : Heap} (hP : va_P G vwCl ws H) (hK : va_K G vwCl (xty K) s) (hD : va_D A ws) : ∀ U : State, U.heap = H → s.WarmedH U.vm → xPre G K av ws H.size av.toArray U := fun U hU hW => ⟨rfl, by rw [hU], by rw [hU]; exact hP, va_K.moved hW.alike hK, hD.weaken (fun _ _ _ _ => trivial)⟩
theorem x_goodV {own9 : String} {idx : Nat} {C9 : String} {y : MethodName} {cc9 : ByteArray} {n9 : Nat} {ret9 : Option FieldType} (h : Cond.methodLink own9 idx y ∈ lw_tbl ∧ Cond.instanceMethod y ∈ lw_tbl ∧ Cond.selects C9 y y ∈ lw_tbl ∧ Cond.initialized C9 ∈ lw_tbl ∧ Cond.code y cc9 n9 ret9 ∈ lw_tbl) : GoodIn lw_tbl (wsV own9 idx C9 y (Cond.code y cc9 n9 ret9 :: lw_tbl)) := by
  refine xr_goodC ?_ xr_goodIn
  intro w hw
  unfold wsV at hw
  rcases List.mem_append.mp hw with h9 | h9
  · simp only [List.mem_cons, List.not_mem_nil, or_false] at h9
    rcases h9 with rfl | rfl | rfl | rfl
    · exact h.1
    · exact h.2.1
    · exact h.2.2.1
    · exact h.2.2.2.1
  · rcases List.mem_cons.mp h9 with rfl | h9
    · exact h.2.2.2.2
    · exact h9
theorem x_goodS {own9 : String} {idx : Nat} {y : MethodName} {cc9 : ByteArray} {n9 : Nat} {ret9 : Option FieldType} (h : Cond.methodLink own9 idx y ∈ lw_tbl ∧ Cond.static y ∈ lw_tbl ∧ Cond.initialized y.cls ∈ lw_tbl ∧ Cond.code y cc9 n9 ret9 ∈ lw_tbl) : GoodIn lw_tbl (va_wsS own9 idx y (Cond.code y cc9 n9 ret9 :: lw_tbl)) := by
  refine xr_goodC ?_ xr_goodIn
  intro w hw
  unfold va_wsS at hw
  rcases List.mem_append.mp hw with h9 | h9
  · simp only [List.mem_cons, List.not_mem_nil, or_false] at h9
    rcases h9 with rfl | rfl | rfl
    · exact h.1
    · exact h.2.1
    · exact h.2.2.1
  · rcases List.mem_cons.mp h9 with rfl | h9
    · exact h.2.2.2
    · exact h9
theorem x_goodI {y : MethodName} {cc9 : ByteArray} {n9 : Nat} {ret9 : Option FieldType} (h : Cond.code y cc9 n9 ret9 ∈ lw_tbl) : GoodIn lw_tbl (Cond.code y cc9 n9 ret9 :: lw_tbl) := by
  refine xr_goodC ?_ xr_goodIn
  intro w hw
  rcases List.mem_cons.mp hw with rfl | h9
  · exact h
  · exact h9

theorem x_callV (C : xCx p s m args meth c G K A nL cc own ret) {y : MethodName} {cc9 : ByteArray} {n9 : Nat} {ret9 : Option FieldType} {fr lo mc ms idx k : Nat} {b : Nat} {C9 : String} {As rest : List Value} {Po : Option Value → va_W → Prop} (hM : xMet l y cc9 n9 ret9 fr lo mc ms G K (.ref b :: As) ws Po) (hw : Cond.methodLink own idx y ∈ lw_tbl ∧ Cond.instanceMethod y ∈ lw_tbl ∧ Cond.selects C9 y y ∈ lw_tbl ∧ Cond.initialized C9 ∈ lw_tbl ∧ Cond.code y cc9 n9 ret9 ∈ lw_tbl) (q0 : Nat) {ci : Nat} {q : vw_C} {fs : List Value} (hci : vwCl[ci]? = some q) (hq : q.1 = C9) (he : ws[q0]? = some (b, .inr (ci, fs))) (hd : y.cls = C9 ∧ y.cls ≠ "java/lang/invoke/MethodHandle" ∧ y.cls ≠ "java/lang/invoke/VarHandle" ∧ (parseMethodDescriptor y.desc).map (fun d => d.parameters.length) = some k) (hk : As.length = k) (hR : fr + 1 ≤ R.frames ∧ 8 + (n9 + 11) + lo ≤ R.locals) (hf : cells + mc ≤ R.cells ∧ slots + ms ≤ R.slots) (hW : (rest.map fun v => v.category).sum ≤ 8) (hst : st = As.reverse ++ .ref b :: rest) (hdg : decode cc n = .ok (.invokevirtual idx, 3)) (hp : pc = n) (kk : ∀ (v : Option Value) (ws' : va_W), Po v ws' → ws'.map Prod.fst = ws.map Prod.fst → xV p l e R s m args below meth c G A nL Q (cells + mc) (slots + ms) ws' (n + 3) lv (v.toList ++ rest)) : xV p l e R s m args below meth c G A nL Q cells slots ws pc lv st := by
  obtain ⟨hx, hb, hr, hlo, hml, hown, hts, hK, hA⟩ := C
  refine x_run hp hA (fun H locs ls hP hD hS hl => ?_) kk
  exact va_runV (As := As) (rest := rest) (Ts := lw_tbl) (own := own) (C := C9) (b := b) ⟨hx, hb, hml, hown, hts⟩ (hM H.size) (cwV k hts (x_goodV hw) rfl rfl rfl hd hR) ⟨xPre.blind, hq ▸ va_recv hK hP hci he, xPre.mk' hP hK hD⟩ rfl hk hl.1 hst (lv_room hW) hdg hf
theorem x_callS (C : xCx p s m args meth c G K A nL cc own ret) {y : MethodName} {cc9 : ByteArray} {n9 : Nat} {ret9 : Option FieldType} {fr lo mc ms idx k : Nat}  {As rest : List Value} {Po : Option Value → va_W → Prop} (hM : xMet l y cc9 n9 ret9 fr lo mc ms G K As ws Po) (hw : Cond.methodLink own idx y ∈ lw_tbl ∧ Cond.static y ∈ lw_tbl ∧ Cond.initialized y.cls ∈ lw_tbl ∧ Cond.code y cc9 n9 ret9 ∈ lw_tbl) (hd : y.cls ≠ "java/lang/invoke/MethodHandle" ∧ y.cls ≠ "java/lang/invoke/VarHandle" ∧ (parseMethodDescriptor y.desc).map (fun d => d.parameters.length) = some k) (hk : As.length = k) (hR : fr + 1 ≤ R.frames ∧ 8 + (n9 + 11) + lo ≤ R.locals) (hf : cells + mc ≤ R.cells ∧ slots + ms ≤ R.slots) (hW : (rest.map fun v => v.category).sum ≤ 8) (hst : st = As.reverse ++ rest) (hdg : decode cc n = .ok (.invokestatic idx, 3)) (hp : pc = n) (kk : ∀ (v : Option Value) (ws' : va_W), Po v ws' → ws'.map Prod.fst = ws.map Prod.fst → xV p l e R s m args below meth c G A nL Q (cells + mc) (slots + ms) ws' (n + 3) lv (v.toList ++ rest)) : xV p l e R s m args below meth c G A nL Q cells slots ws pc lv st := by
  obtain ⟨hx, hb, hr, hlo, hml, hown, hts, hK, hA⟩ := C
  refine x_run hp hA (fun H locs ls hP hD hS hl => ?_) kk
  exact va_runS (As := As) (rest := rest) (Ts := lw_tbl) (own := own) ⟨hx, hb, hml, hown, hts⟩ (hM H.size) (va_cwS k hts (x_goodS hw) rfl rfl rfl hd hR) ⟨xPre.blind, xPre.mk' hP hK hD⟩ rfl hk hl.1 hst (lv_room hW) hdg hf
end XF
end
