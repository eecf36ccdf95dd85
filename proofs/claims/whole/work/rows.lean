section
-- ===== PART A: goes FIRST, ahead of the names: the tables' words, and 'selects' of the private methods out of them =====
/-- a private method of a class that the tables say can be made, by its rows of tables_1 -/
def lw_okq (q : MethodName × Nat) : Prop := (q.1.cls ≠ "java/lang/invoke/MethodHandle" ∧ q.1.cls ≠ "java/lang/invoke/VarHandle") ∧ Cond.instantiable q.1.cls q.2 ∈ tables_1 ∧ Cond.privateMethod q.1 ∈ tables_1 ∧ Cond.instanceMethod q.1 ∈ tables_1
theorem lw_p0 : lw_okq (⟨"NinthStep", "shelfAt", "(I)LNinthStep$Shelf;"⟩, 12) := ⟨⟨by decide +kernel, by decide +kernel⟩, List.mem_of_getElem? (i := 20) (by decide +kernel), List.mem_of_getElem? (i := 329) (by decide +kernel), List.mem_of_getElem? (i := 330) (by decide +kernel)⟩
theorem lw_p1 : lw_okq (⟨"NinthStep", "refuse", "(I)I"⟩, 12) := ⟨⟨by decide +kernel, by decide +kernel⟩, List.mem_of_getElem? (i := 20) (by decide +kernel), List.mem_of_getElem? (i := 336) (by decide +kernel), List.mem_of_getElem? (i := 337) (by decide +kernel)⟩
theorem lw_p2 : lw_okq (⟨"NinthStep$Shelf", "holdRow", "(II)V"⟩, 3) := ⟨⟨by decide +kernel, by decide +kernel⟩, List.mem_of_getElem? (i := 269) (by decide +kernel), List.mem_of_getElem? (i := 340) (by decide +kernel), List.mem_of_getElem? (i := 341) (by decide +kernel)⟩
theorem lw_p3 : lw_okq (⟨"NinthStep$Shelf", "troubleAsRow", "()I"⟩, 3) := ⟨⟨by decide +kernel, by decide +kernel⟩, List.mem_of_getElem? (i := 269) (by decide +kernel), List.mem_of_getElem? (i := 348) (by decide +kernel), List.mem_of_getElem? (i := 349) (by decide +kernel)⟩
theorem lw_p4 : lw_okq (⟨"NinthStep$Shelf", "putCell", "(IJ)V"⟩, 3) := ⟨⟨by decide +kernel, by decide +kernel⟩, List.mem_of_getElem? (i := 269) (by decide +kernel), List.mem_of_getElem? (i := 352) (by decide +kernel), List.mem_of_getElem? (i := 353) (by decide +kernel)⟩
theorem lw_p5 : lw_okq (⟨"NinthStep$Shelf", "lowestBits", "(J)J"⟩, 3) := ⟨⟨by decide +kernel, by decide +kernel⟩, List.mem_of_getElem? (i := 269) (by decide +kernel), List.mem_of_getElem? (i := 357) (by decide +kernel), List.mem_of_getElem? (i := 358) (by decide +kernel)⟩
theorem lw_p6 : lw_okq (⟨"NinthStep$Shelf", "cellAt", "(I)J"⟩, 3) := ⟨⟨by decide +kernel, by decide +kernel⟩, List.mem_of_getElem? (i := 269) (by decide +kernel), List.mem_of_getElem? (i := 375) (by decide +kernel), List.mem_of_getElem? (i := 376) (by decide +kernel)⟩
theorem lw_p7 : lw_okq (⟨"NinthStep$World", "muleAt", "(I)LNinthStep$Mule;"⟩, 6) := ⟨⟨by decide +kernel, by decide +kernel⟩, List.mem_of_getElem? (i := 28) (by decide +kernel), List.mem_of_getElem? (i := 388) (by decide +kernel), List.mem_of_getElem? (i := 389) (by decide +kernel)⟩
theorem lw_p8 : lw_okq (⟨"NinthStep", "saidAs", "(LNinthStep$Mule;I)I"⟩, 12) := ⟨⟨by decide +kernel, by decide +kernel⟩, List.mem_of_getElem? (i := 20) (by decide +kernel), List.mem_of_getElem? (i := 401) (by decide +kernel), List.mem_of_getElem? (i := 402) (by decide +kernel)⟩
theorem lw_p9 : lw_okq (⟨"NinthStep$Ground", "highest", "()I"⟩, 5) := ⟨⟨by decide +kernel, by decide +kernel⟩, List.mem_of_getElem? (i := 34) (by decide +kernel), List.mem_of_getElem? (i := 429) (by decide +kernel), List.mem_of_getElem? (i := 430) (by decide +kernel)⟩
theorem lw_p10 : lw_okq (⟨"NinthStep", "isPlace", "(I)Z"⟩, 12) := ⟨⟨by decide +kernel, by decide +kernel⟩, List.mem_of_getElem? (i := 20) (by decide +kernel), List.mem_of_getElem? (i := 446) (by decide +kernel), List.mem_of_getElem? (i := 447) (by decide +kernel)⟩
theorem lw_p11 : lw_okq (⟨"NinthStep$Ground", "forbids", "(II)Z"⟩, 5) := ⟨⟨by decide +kernel, by decide +kernel⟩, List.mem_of_getElem? (i := 34) (by decide +kernel), List.mem_of_getElem? (i := 450) (by decide +kernel), List.mem_of_getElem? (i := 451) (by decide +kernel)⟩
theorem lw_p12 : lw_okq (⟨"NinthStep$Ground", "allOf", "(I)J"⟩, 5) := ⟨⟨by decide +kernel, by decide +kernel⟩, List.mem_of_getElem? (i := 34) (by decide +kernel), List.mem_of_getElem? (i := 457) (by decide +kernel), List.mem_of_getElem? (i := 458) (by decide +kernel)⟩
theorem lw_p13 : lw_okq (⟨"NinthStep$Ground", "mark", "(IIZ)V"⟩, 5) := ⟨⟨by decide +kernel, by decide +kernel⟩, List.mem_of_getElem? (i := 34) (by decide +kernel), List.mem_of_getElem? (i := 462) (by decide +kernel), List.mem_of_getElem? (i := 463) (by decide +kernel)⟩
theorem lw_p14 : lw_okq (⟨"NinthStep$World", "newMule", "()LNinthStep$Mule;"⟩, 6) := ⟨⟨by decide +kernel, by decide +kernel⟩, List.mem_of_getElem? (i := 28) (by decide +kernel), List.mem_of_getElem? (i := 475) (by decide +kernel), List.mem_of_getElem? (i := 476) (by decide +kernel)⟩
theorem lw_p15 : lw_okq (⟨"NinthStep$Mule", "become", "(III)V"⟩, 8) := ⟨⟨by decide +kernel, by decide +kernel⟩, List.mem_of_getElem? (i := 77) (by decide +kernel), List.mem_of_getElem? (i := 479) (by decide +kernel), List.mem_of_getElem? (i := 480) (by decide +kernel)⟩
def lw_privs_1 : List (MethodName × Nat) := [(⟨"NinthStep", "shelfAt", "(I)LNinthStep$Shelf;"⟩, 12), (⟨"NinthStep", "refuse", "(I)I"⟩, 12), (⟨"NinthStep$Shelf", "holdRow", "(II)V"⟩, 3), (⟨"NinthStep$Shelf", "troubleAsRow", "()I"⟩, 3), (⟨"NinthStep$Shelf", "putCell", "(IJ)V"⟩, 3), (⟨"NinthStep$Shelf", "lowestBits", "(J)J"⟩, 3), (⟨"NinthStep$Shelf", "cellAt", "(I)J"⟩, 3), (⟨"NinthStep$World", "muleAt", "(I)LNinthStep$Mule;"⟩, 6), (⟨"NinthStep", "saidAs", "(LNinthStep$Mule;I)I"⟩, 12), (⟨"NinthStep$Ground", "highest", "()I"⟩, 5), (⟨"NinthStep", "isPlace", "(I)Z"⟩, 12), (⟨"NinthStep$Ground", "forbids", "(II)Z"⟩, 5), (⟨"NinthStep$Ground", "allOf", "(I)J"⟩, 5), (⟨"NinthStep$Ground", "mark", "(IIZ)V"⟩, 5), (⟨"NinthStep$World", "newMule", "()LNinthStep$Mule;"⟩, 6), (⟨"NinthStep$Mule", "become", "(III)V"⟩, 8)]
theorem lw_r1 : ∀ q ∈ lw_privs_1, lw_okq q := List.forall_mem_cons.mpr ⟨lw_p0, List.forall_mem_cons.mpr ⟨lw_p1, List.forall_mem_cons.mpr ⟨lw_p2, List.forall_mem_cons.mpr ⟨lw_p3, List.forall_mem_cons.mpr ⟨lw_p4, List.forall_mem_cons.mpr ⟨lw_p5, List.forall_mem_cons.mpr ⟨lw_p6, List.forall_mem_cons.mpr ⟨lw_p7, List.forall_mem_cons.mpr ⟨lw_p8, List.forall_mem_cons.mpr ⟨lw_p9, List.forall_mem_cons.mpr ⟨lw_p10, List.forall_mem_cons.mpr ⟨lw_p11, List.forall_mem_cons.mpr ⟨lw_p12, List.forall_mem_cons.mpr ⟨lw_p13, List.forall_mem_cons.mpr ⟨lw_p14, List.forall_mem_cons.mpr ⟨lw_p15, fun _ h => absurd h List.not_mem_nil⟩⟩⟩⟩⟩⟩⟩⟩⟩⟩⟩⟩⟩⟩⟩⟩
theorem lw_p16 : lw_okq (⟨"NinthStep$Tape", "append", "(I)Z"⟩, 6) := ⟨⟨by decide +kernel, by decide +kernel⟩, List.mem_of_getElem? (i := 158) (by decide +kernel), List.mem_of_getElem? (i := 500) (by decide +kernel), List.mem_of_getElem? (i := 501) (by decide +kernel)⟩
theorem lw_p17 : lw_okq (⟨"NinthStep$World", "takeFrom", "(LNinthStep$World;)V"⟩, 6) := ⟨⟨by decide +kernel, by decide +kernel⟩, List.mem_of_getElem? (i := 28) (by decide +kernel), List.mem_of_getElem? (i := 512) (by decide +kernel), List.mem_of_getElem? (i := 513) (by decide +kernel)⟩
theorem lw_p18 : lw_okq (⟨"NinthStep$Ground", "takeFrom", "(LNinthStep$Ground;)V"⟩, 5) := ⟨⟨by decide +kernel, by decide +kernel⟩, List.mem_of_getElem? (i := 34) (by decide +kernel), List.mem_of_getElem? (i := 516) (by decide +kernel), List.mem_of_getElem? (i := 517) (by decide +kernel)⟩
theorem lw_p19 : lw_okq (⟨"NinthStep$Mule", "takeFrom", "(LNinthStep$Mule;)V"⟩, 8) := ⟨⟨by decide +kernel, by decide +kernel⟩, List.mem_of_getElem? (i := 77) (by decide +kernel), List.mem_of_getElem? (i := 520) (by decide +kernel), List.mem_of_getElem? (i := 521) (by decide +kernel)⟩
theorem lw_p20 : lw_okq (⟨"NinthStep$Tape", "readInto", "(LNinthStep$World;)I"⟩, 6) := ⟨⟨by decide +kernel, by decide +kernel⟩, List.mem_of_getElem? (i := 158) (by decide +kernel), List.mem_of_getElem? (i := 524) (by decide +kernel), List.mem_of_getElem? (i := 525) (by decide +kernel)⟩
theorem lw_p21 : lw_okq (⟨"NinthStep$Tape", "nextToken", "()V"⟩, 6) := ⟨⟨by decide +kernel, by decide +kernel⟩, List.mem_of_getElem? (i := 158) (by decide +kernel), List.mem_of_getElem? (i := 528) (by decide +kernel), List.mem_of_getElem? (i := 529) (by decide +kernel)⟩
theorem lw_p22 : lw_okq (⟨"NinthStep$Tape", "readStatement", "(LNinthStep$World;)V"⟩, 6) := ⟨⟨by decide +kernel, by decide +kernel⟩, List.mem_of_getElem? (i := 158) (by decide +kernel), List.mem_of_getElem? (i := 535) (by decide +kernel), List.mem_of_getElem? (i := 536) (by decide +kernel)⟩
theorem lw_p23 : lw_okq (⟨"NinthStep$Tape", "isWord", "(Ljava/lang/String;)Z"⟩, 6) := ⟨⟨by decide +kernel, by decide +kernel⟩, List.mem_of_getElem? (i := 158) (by decide +kernel), List.mem_of_getElem? (i := 540) (by decide +kernel), List.mem_of_getElem? (i := 541) (by decide +kernel)⟩
theorem lw_p24 : lw_okq (⟨"NinthStep$Tape", "readLength", "(LNinthStep$World;)V"⟩, 6) := ⟨⟨by decide +kernel, by decide +kernel⟩, List.mem_of_getElem? (i := 158) (by decide +kernel), List.mem_of_getElem? (i := 592) (by decide +kernel), List.mem_of_getElem? (i := 593) (by decide +kernel)⟩
theorem lw_p25 : lw_okq (⟨"NinthStep$Tape", "takeNumber", "(II)I"⟩, 6) := ⟨⟨by decide +kernel, by decide +kernel⟩, List.mem_of_getElem? (i := 158) (by decide +kernel), List.mem_of_getElem? (i := 600) (by decide +kernel), List.mem_of_getElem? (i := 601) (by decide +kernel)⟩
theorem lw_p26 : lw_okq (⟨"NinthStep$Tape", "numberRead", "()I"⟩, 6) := ⟨⟨by decide +kernel, by decide +kernel⟩, List.mem_of_getElem? (i := 158) (by decide +kernel), List.mem_of_getElem? (i := 604) (by decide +kernel), List.mem_of_getElem? (i := 605) (by decide +kernel)⟩
theorem lw_p27 : lw_okq (⟨"NinthStep$Tape", "readMark", "(LNinthStep$Ground;I)V"⟩, 6) := ⟨⟨by decide +kernel, by decide +kernel⟩, List.mem_of_getElem? (i := 158) (by decide +kernel), List.mem_of_getElem? (i := 610) (by decide +kernel), List.mem_of_getElem? (i := 611) (by decide +kernel)⟩
theorem lw_p28 : lw_okq (⟨"NinthStep$Tape", "readMule", "(LNinthStep$World;)V"⟩, 6) := ⟨⟨by decide +kernel, by decide +kernel⟩, List.mem_of_getElem? (i := 158) (by decide +kernel), List.mem_of_getElem? (i := 620) (by decide +kernel), List.mem_of_getElem? (i := 621) (by decide +kernel)⟩
theorem lw_p29 : lw_okq (⟨"NinthStep", "stopsOf", "(LNinthStep$Mule;)J"⟩, 12) := ⟨⟨by decide +kernel, by decide +kernel⟩, List.mem_of_getElem? (i := 20) (by decide +kernel), List.mem_of_getElem? (i := 641) (by decide +kernel), List.mem_of_getElem? (i := 642) (by decide +kernel)⟩
theorem lw_p30 : lw_okq (⟨"NinthStep", "stopsBy", "(LNinthStep$Mule;III)J"⟩, 12) := ⟨⟨by decide +kernel, by decide +kernel⟩, List.mem_of_getElem? (i := 20) (by decide +kernel), List.mem_of_getElem? (i := 645) (by decide +kernel), List.mem_of_getElem? (i := 646) (by decide +kernel)⟩
theorem lw_p31 : lw_okq (⟨"NinthStep$Mule", "standAt", "(III)V"⟩, 8) := ⟨⟨by decide +kernel, by decide +kernel⟩, List.mem_of_getElem? (i := 77) (by decide +kernel), List.mem_of_getElem? (i := 650) (by decide +kernel), List.mem_of_getElem? (i := 651) (by decide +kernel)⟩
def lw_privs_2 : List (MethodName × Nat) := [(⟨"NinthStep$Tape", "append", "(I)Z"⟩, 6), (⟨"NinthStep$World", "takeFrom", "(LNinthStep$World;)V"⟩, 6), (⟨"NinthStep$Ground", "takeFrom", "(LNinthStep$Ground;)V"⟩, 5), (⟨"NinthStep$Mule", "takeFrom", "(LNinthStep$Mule;)V"⟩, 8), (⟨"NinthStep$Tape", "readInto", "(LNinthStep$World;)I"⟩, 6), (⟨"NinthStep$Tape", "nextToken", "()V"⟩, 6), (⟨"NinthStep$Tape", "readStatement", "(LNinthStep$World;)V"⟩, 6), (⟨"NinthStep$Tape", "isWord", "(Ljava/lang/String;)Z"⟩, 6), (⟨"NinthStep$Tape", "readLength", "(LNinthStep$World;)V"⟩, 6), (⟨"NinthStep$Tape", "takeNumber", "(II)I"⟩, 6), (⟨"NinthStep$Tape", "numberRead", "()I"⟩, 6), (⟨"NinthStep$Tape", "readMark", "(LNinthStep$Ground;I)V"⟩, 6), (⟨"NinthStep$Tape", "readMule", "(LNinthStep$World;)V"⟩, 6), (⟨"NinthStep", "stopsOf", "(LNinthStep$Mule;)J"⟩, 12), (⟨"NinthStep", "stopsBy", "(LNinthStep$Mule;III)J"⟩, 12), (⟨"NinthStep$Mule", "standAt", "(III)V"⟩, 8)]
theorem lw_r2 : ∀ q ∈ lw_privs_2, lw_okq q := List.forall_mem_cons.mpr ⟨lw_p16, List.forall_mem_cons.mpr ⟨lw_p17, List.forall_mem_cons.mpr ⟨lw_p18, List.forall_mem_cons.mpr ⟨lw_p19, List.forall_mem_cons.mpr ⟨lw_p20, List.forall_mem_cons.mpr ⟨lw_p21, List.forall_mem_cons.mpr ⟨lw_p22, List.forall_mem_cons.mpr ⟨lw_p23, List.forall_mem_cons.mpr ⟨lw_p24, List.forall_mem_cons.mpr ⟨lw_p25, List.forall_mem_cons.mpr ⟨lw_p26, List.forall_mem_cons.mpr ⟨lw_p27, List.forall_mem_cons.mpr ⟨lw_p28, List.forall_mem_cons.mpr ⟨lw_p29, List.forall_mem_cons.mpr ⟨lw_p30, List.forall_mem_cons.mpr ⟨lw_p31, fun _ h => absurd h List.not_mem_nil⟩⟩⟩⟩⟩⟩⟩⟩⟩⟩⟩⟩⟩⟩⟩⟩
theorem lw_p32 : lw_okq (⟨"NinthStep$Mule", "makeStep", "(LNinthStep$Ground;I)Z"⟩, 8) := ⟨⟨by decide +kernel, by decide +kernel⟩, List.mem_of_getElem? (i := 77) (by decide +kernel), List.mem_of_getElem? (i := 654) (by decide +kernel), List.mem_of_getElem? (i := 655) (by decide +kernel)⟩
theorem lw_p33 : lw_okq (⟨"NinthStep$Mule", "mayStop", "(LNinthStep$Ground;)Z"⟩, 8) := ⟨⟨by decide +kernel, by decide +kernel⟩, List.mem_of_getElem? (i := 77) (by decide +kernel), List.mem_of_getElem? (i := 658) (by decide +kernel), List.mem_of_getElem? (i := 659) (by decide +kernel)⟩
theorem lw_p34 : lw_okq (⟨"NinthStep", "minutesOf", "(LNinthStep$Mule;)I"⟩, 12) := ⟨⟨by decide +kernel, by decide +kernel⟩, List.mem_of_getElem? (i := 20) (by decide +kernel), List.mem_of_getElem? (i := 670) (by decide +kernel), List.mem_of_getElem? (i := 671) (by decide +kernel)⟩
theorem lw_p35 : lw_okq (⟨"NinthStep$Mule", "arrival", "(IJ)I"⟩, 8) := ⟨⟨by decide +kernel, by decide +kernel⟩, List.mem_of_getElem? (i := 77) (by decide +kernel), List.mem_of_getElem? (i := 678) (by decide +kernel), List.mem_of_getElem? (i := 679) (by decide +kernel)⟩
theorem lw_p36 : lw_okq (⟨"NinthStep", "isGood", "(IJ)Z"⟩, 12) := ⟨⟨by decide +kernel, by decide +kernel⟩, List.mem_of_getElem? (i := 20) (by decide +kernel), List.mem_of_getElem? (i := 688) (by decide +kernel), List.mem_of_getElem? (i := 689) (by decide +kernel)⟩
theorem lw_p37 : lw_okq (⟨"NinthStep", "viewsMissed", "(IJ)J"⟩, 12) := ⟨⟨by decide +kernel, by decide +kernel⟩, List.mem_of_getElem? (i := 20) (by decide +kernel), List.mem_of_getElem? (i := 692) (by decide +kernel), List.mem_of_getElem? (i := 693) (by decide +kernel)⟩
theorem lw_p38 : lw_okq (⟨"NinthStep$TurnPlan", "make", "(LNinthStep$Mule;LNinthStep$Ground;)I"⟩, 6) := ⟨⟨by decide +kernel, by decide +kernel⟩, List.mem_of_getElem? (i := 186) (by decide +kernel), List.mem_of_getElem? (i := 709) (by decide +kernel), List.mem_of_getElem? (i := 710) (by decide +kernel)⟩
theorem lw_p39 : lw_okq (⟨"NinthStep$Mule", "cappedCount", "()I"⟩, 8) := ⟨⟨by decide +kernel, by decide +kernel⟩, List.mem_of_getElem? (i := 77) (by decide +kernel), List.mem_of_getElem? (i := 713) (by decide +kernel), List.mem_of_getElem? (i := 714) (by decide +kernel)⟩
theorem lw_p40 : lw_okq (⟨"NinthStep$TurnPlan", "hasSeen", "(II)Z"⟩, 6) := ⟨⟨by decide +kernel, by decide +kernel⟩, List.mem_of_getElem? (i := 186) (by decide +kernel), List.mem_of_getElem? (i := 725) (by decide +kernel), List.mem_of_getElem? (i := 726) (by decide +kernel)⟩
theorem lw_p41 : lw_okq (⟨"NinthStep$TurnPlan", "fillPlace", "(I)V"⟩, 6) := ⟨⟨by decide +kernel, by decide +kernel⟩, List.mem_of_getElem? (i := 186) (by decide +kernel), List.mem_of_getElem? (i := 730) (by decide +kernel), List.mem_of_getElem? (i := 731) (by decide +kernel)⟩
theorem lw_p42 : lw_okq (⟨"NinthStep$TurnPlan", "needWith", "(III)I"⟩, 6) := ⟨⟨by decide +kernel, by decide +kernel⟩, List.mem_of_getElem? (i := 186) (by decide +kernel), List.mem_of_getElem? (i := 734) (by decide +kernel), List.mem_of_getElem? (i := 735) (by decide +kernel)⟩
theorem lw_p43 : lw_okq (⟨"NinthStep$Mule", "makeTurn", "(LNinthStep$Ground;)Z"⟩, 8) := ⟨⟨by decide +kernel, by decide +kernel⟩, List.mem_of_getElem? (i := 77) (by decide +kernel), List.mem_of_getElem? (i := 739) (by decide +kernel), List.mem_of_getElem? (i := 740) (by decide +kernel)⟩
theorem lw_p44 : lw_okq (⟨"NinthStep$TurnPlan", "madeAt", "(I)I"⟩, 6) := ⟨⟨by decide +kernel, by decide +kernel⟩, List.mem_of_getElem? (i := 186) (by decide +kernel), List.mem_of_getElem? (i := 744) (by decide +kernel), List.mem_of_getElem? (i := 745) (by decide +kernel)⟩
theorem lw_p45 : lw_okq (⟨"NinthStep$TurnPlan", "fewestFirst", "(II)I"⟩, 6) := ⟨⟨by decide +kernel, by decide +kernel⟩, List.mem_of_getElem? (i := 186) (by decide +kernel), List.mem_of_getElem? (i := 748) (by decide +kernel), List.mem_of_getElem? (i := 749) (by decide +kernel)⟩
theorem lw_p46 : lw_okq (⟨"NinthStep", "firstTogether", "(LNinthStep$Mule;LNinthStep$Mule;)I"⟩, 12) := ⟨⟨by decide +kernel, by decide +kernel⟩, List.mem_of_getElem? (i := 20) (by decide +kernel), List.mem_of_getElem? (i := 761) (by decide +kernel), List.mem_of_getElem? (i := 762) (by decide +kernel)⟩
theorem lw_p47 : lw_okq (⟨"NinthStep", "mulesTold", "(LNinthStep$Shelf;I)I"⟩, 12) := ⟨⟨by decide +kernel, by decide +kernel⟩, List.mem_of_getElem? (i := 20) (by decide +kernel), List.mem_of_getElem? (i := 774) (by decide +kernel), List.mem_of_getElem? (i := 775) (by decide +kernel)⟩
def lw_privs_3 : List (MethodName × Nat) := [(⟨"NinthStep$Mule", "makeStep", "(LNinthStep$Ground;I)Z"⟩, 8), (⟨"NinthStep$Mule", "mayStop", "(LNinthStep$Ground;)Z"⟩, 8), (⟨"NinthStep", "minutesOf", "(LNinthStep$Mule;)I"⟩, 12), (⟨"NinthStep$Mule", "arrival", "(IJ)I"⟩, 8), (⟨"NinthStep", "isGood", "(IJ)Z"⟩, 12), (⟨"NinthStep", "viewsMissed", "(IJ)J"⟩, 12), (⟨"NinthStep$TurnPlan", "make", "(LNinthStep$Mule;LNinthStep$Ground;)I"⟩, 6), (⟨"NinthStep$Mule", "cappedCount", "()I"⟩, 8), (⟨"NinthStep$TurnPlan", "hasSeen", "(II)Z"⟩, 6), (⟨"NinthStep$TurnPlan", "fillPlace", "(I)V"⟩, 6), (⟨"NinthStep$TurnPlan", "needWith", "(III)I"⟩, 6), (⟨"NinthStep$Mule", "makeTurn", "(LNinthStep$Ground;)Z"⟩, 8), (⟨"NinthStep$TurnPlan", "madeAt", "(I)I"⟩, 6), (⟨"NinthStep$TurnPlan", "fewestFirst", "(II)I"⟩, 6), (⟨"NinthStep", "firstTogether", "(LNinthStep$Mule;LNinthStep$Mule;)I"⟩, 12), (⟨"NinthStep", "mulesTold", "(LNinthStep$Shelf;I)I"⟩, 12)]
theorem lw_r3 : ∀ q ∈ lw_privs_3, lw_okq q := List.forall_mem_cons.mpr ⟨lw_p32, List.forall_mem_cons.mpr ⟨lw_p33, List.forall_mem_cons.mpr ⟨lw_p34, List.forall_mem_cons.mpr ⟨lw_p35, List.forall_mem_cons.mpr ⟨lw_p36, List.forall_mem_cons.mpr ⟨lw_p37, List.forall_mem_cons.mpr ⟨lw_p38, List.forall_mem_cons.mpr ⟨lw_p39, List.forall_mem_cons.mpr ⟨lw_p40, List.forall_mem_cons.mpr ⟨lw_p41, List.forall_mem_cons.mpr ⟨lw_p42, List.forall_mem_cons.mpr ⟨lw_p43, List.forall_mem_cons.mpr ⟨lw_p44, List.forall_mem_cons.mpr ⟨lw_p45, List.forall_mem_cons.mpr ⟨lw_p46, List.forall_mem_cons.mpr ⟨lw_p47, fun _ h => absurd h List.not_mem_nil⟩⟩⟩⟩⟩⟩⟩⟩⟩⟩⟩⟩⟩⟩⟩⟩
theorem lw_p48 : lw_okq (⟨"NinthStep", "placesOfTrain", "(I)I"⟩, 12) := ⟨⟨by decide +kernel, by decide +kernel⟩, List.mem_of_getElem? (i := 20) (by decide +kernel), List.mem_of_getElem? (i := 778) (by decide +kernel), List.mem_of_getElem? (i := 779) (by decide +kernel)⟩
theorem lw_p49 : lw_okq (⟨"NinthStep", "countCrowds", "()V"⟩, 12) := ⟨⟨by decide +kernel, by decide +kernel⟩, List.mem_of_getElem? (i := 20) (by decide +kernel), List.mem_of_getElem? (i := 786) (by decide +kernel), List.mem_of_getElem? (i := 787) (by decide +kernel)⟩
theorem lw_p50 : lw_okq (⟨"NinthStep", "fullestPlace", "()I"⟩, 12) := ⟨⟨by decide +kernel, by decide +kernel⟩, List.mem_of_getElem? (i := 20) (by decide +kernel), List.mem_of_getElem? (i := 794) (by decide +kernel), List.mem_of_getElem? (i := 795) (by decide +kernel)⟩
theorem lw_p51 : lw_okq (⟨"NinthStep$StonePlan", "isAnyNeeded", "(LNinthStep$World;)Z"⟩, 10) := ⟨⟨by decide +kernel, by decide +kernel⟩, List.mem_of_getElem? (i := 213) (by decide +kernel), List.mem_of_getElem? (i := 802) (by decide +kernel), List.mem_of_getElem? (i := 803) (by decide +kernel)⟩
theorem lw_p52 : lw_okq (⟨"NinthStep$StonePlan", "fallsAsItIs", "(LNinthStep$Mule;)Z"⟩, 10) := ⟨⟨by decide +kernel, by decide +kernel⟩, List.mem_of_getElem? (i := 213) (by decide +kernel), List.mem_of_getElem? (i := 806) (by decide +kernel), List.mem_of_getElem? (i := 807) (by decide +kernel)⟩
theorem lw_p53 : lw_okq (⟨"NinthStep$StonePlan", "fallsNext", "(LNinthStep$Mule;I)Z"⟩, 10) := ⟨⟨by decide +kernel, by decide +kernel⟩, List.mem_of_getElem? (i := 213) (by decide +kernel), List.mem_of_getElem? (i := 811) (by decide +kernel), List.mem_of_getElem? (i := 812) (by decide +kernel)⟩
theorem lw_p54 : lw_okq (⟨"NinthStep$StonePlan", "isOneEnough", "(LNinthStep$World;)Z"⟩, 10) := ⟨⟨by decide +kernel, by decide +kernel⟩, List.mem_of_getElem? (i := 213) (by decide +kernel), List.mem_of_getElem? (i := 817) (by decide +kernel), List.mem_of_getElem? (i := 818) (by decide +kernel)⟩
theorem lw_p55 : lw_okq (⟨"NinthStep$StonePlan", "freePlaces", "()J"⟩, 10) := ⟨⟨by decide +kernel, by decide +kernel⟩, List.mem_of_getElem? (i := 213) (by decide +kernel), List.mem_of_getElem? (i := 821) (by decide +kernel), List.mem_of_getElem? (i := 822) (by decide +kernel)⟩
theorem lw_p56 : lw_okq (⟨"NinthStep$StonePlan", "helpersFor", "(LNinthStep$Mule;)J"⟩, 10) := ⟨⟨by decide +kernel, by decide +kernel⟩, List.mem_of_getElem? (i := 213) (by decide +kernel), List.mem_of_getElem? (i := 828) (by decide +kernel), List.mem_of_getElem? (i := 829) (by decide +kernel)⟩
theorem lw_p57 : lw_okq (⟨"NinthStep$StonePlan", "fillSafe", "(LNinthStep$Mule;)V"⟩, 10) := ⟨⟨by decide +kernel, by decide +kernel⟩, List.mem_of_getElem? (i := 213) (by decide +kernel), List.mem_of_getElem? (i := 832) (by decide +kernel), List.mem_of_getElem? (i := 833) (by decide +kernel)⟩
theorem lw_p58 : lw_okq (⟨"NinthStep$StonePlan", "isSafe", "(LNinthStep$Mule;)Z"⟩, 10) := ⟨⟨by decide +kernel, by decide +kernel⟩, List.mem_of_getElem? (i := 213) (by decide +kernel), List.mem_of_getElem? (i := 839) (by decide +kernel), List.mem_of_getElem? (i := 840) (by decide +kernel)⟩
theorem lw_p59 : lw_okq (⟨"NinthStep$StonePlan", "helpersAhead", "(LNinthStep$Mule;)J"⟩, 10) := ⟨⟨by decide +kernel, by decide +kernel⟩, List.mem_of_getElem? (i := 213) (by decide +kernel), List.mem_of_getElem? (i := 844) (by decide +kernel), List.mem_of_getElem? (i := 845) (by decide +kernel)⟩
theorem lw_p60 : lw_okq (⟨"NinthStep$StonePlan", "isPairEnough", "(LNinthStep$World;)Z"⟩, 10) := ⟨⟨by decide +kernel, by decide +kernel⟩, List.mem_of_getElem? (i := 213) (by decide +kernel), List.mem_of_getElem? (i := 850) (by decide +kernel), List.mem_of_getElem? (i := 851) (by decide +kernel)⟩
theorem lw_p61 : lw_okq (⟨"NinthStep$StonePlan", "heedSeconds", "(LNinthStep$Mule;J)V"⟩, 10) := ⟨⟨by decide +kernel, by decide +kernel⟩, List.mem_of_getElem? (i := 213) (by decide +kernel), List.mem_of_getElem? (i := 854) (by decide +kernel), List.mem_of_getElem? (i := 855) (by decide +kernel)⟩
theorem lw_p62 : lw_okq (⟨"NinthStep", "placesTold", "(LNinthStep$Shelf;I)J"⟩, 12) := ⟨⟨by decide +kernel, by decide +kernel⟩, List.mem_of_getElem? (i := 20) (by decide +kernel), List.mem_of_getElem? (i := 862) (by decide +kernel), List.mem_of_getElem? (i := 863) (by decide +kernel)⟩
theorem lw_p63 : lw_okq (⟨"NinthStep", "pairsBy", "(JZ)I"⟩, 12) := ⟨⟨by decide +kernel, by decide +kernel⟩, List.mem_of_getElem? (i := 20) (by decide +kernel), List.mem_of_getElem? (i := 866) (by decide +kernel), List.mem_of_getElem? (i := 867) (by decide +kernel)⟩
def lw_privs_4 : List (MethodName × Nat) := [(⟨"NinthStep", "placesOfTrain", "(I)I"⟩, 12), (⟨"NinthStep", "countCrowds", "()V"⟩, 12), (⟨"NinthStep", "fullestPlace", "()I"⟩, 12), (⟨"NinthStep$StonePlan", "isAnyNeeded", "(LNinthStep$World;)Z"⟩, 10), (⟨"NinthStep$StonePlan", "fallsAsItIs", "(LNinthStep$Mule;)Z"⟩, 10), (⟨"NinthStep$StonePlan", "fallsNext", "(LNinthStep$Mule;I)Z"⟩, 10), (⟨"NinthStep$StonePlan", "isOneEnough", "(LNinthStep$World;)Z"⟩, 10), (⟨"NinthStep$StonePlan", "freePlaces", "()J"⟩, 10), (⟨"NinthStep$StonePlan", "helpersFor", "(LNinthStep$Mule;)J"⟩, 10), (⟨"NinthStep$StonePlan", "fillSafe", "(LNinthStep$Mule;)V"⟩, 10), (⟨"NinthStep$StonePlan", "isSafe", "(LNinthStep$Mule;)Z"⟩, 10), (⟨"NinthStep$StonePlan", "helpersAhead", "(LNinthStep$Mule;)J"⟩, 10), (⟨"NinthStep$StonePlan", "isPairEnough", "(LNinthStep$World;)Z"⟩, 10), (⟨"NinthStep$StonePlan", "heedSeconds", "(LNinthStep$Mule;J)V"⟩, 10), (⟨"NinthStep", "placesTold", "(LNinthStep$Shelf;I)J"⟩, 12), (⟨"NinthStep", "pairsBy", "(JZ)I"⟩, 12)]
theorem lw_r4 : ∀ q ∈ lw_privs_4, lw_okq q := List.forall_mem_cons.mpr ⟨lw_p48, List.forall_mem_cons.mpr ⟨lw_p49, List.forall_mem_cons.mpr ⟨lw_p50, List.forall_mem_cons.mpr ⟨lw_p51, List.forall_mem_cons.mpr ⟨lw_p52, List.forall_mem_cons.mpr ⟨lw_p53, List.forall_mem_cons.mpr ⟨lw_p54, List.forall_mem_cons.mpr ⟨lw_p55, List.forall_mem_cons.mpr ⟨lw_p56, List.forall_mem_cons.mpr ⟨lw_p57, List.forall_mem_cons.mpr ⟨lw_p58, List.forall_mem_cons.mpr ⟨lw_p59, List.forall_mem_cons.mpr ⟨lw_p60, List.forall_mem_cons.mpr ⟨lw_p61, List.forall_mem_cons.mpr ⟨lw_p62, List.forall_mem_cons.mpr ⟨lw_p63, fun _ h => absurd h List.not_mem_nil⟩⟩⟩⟩⟩⟩⟩⟩⟩⟩⟩⟩⟩⟩⟩⟩
theorem lw_p64 : lw_okq (⟨"NinthStep", "wouldBeSeen", "(IIJ)Z"⟩, 12) := ⟨⟨by decide +kernel, by decide +kernel⟩, List.mem_of_getElem? (i := 20) (by decide +kernel), List.mem_of_getElem? (i := 870) (by decide +kernel), List.mem_of_getElem? (i := 871) (by decide +kernel)⟩
theorem lw_p65 : lw_okq (⟨"NinthStep$Chance", "unfallen", "(LNinthStep$Mule;LNinthStep$Ground;I)I"⟩, 2) := ⟨⟨by decide +kernel, by decide +kernel⟩, List.mem_of_getElem? (i := 255) (by decide +kernel), List.mem_of_getElem? (i := 879) (by decide +kernel), List.mem_of_getElem? (i := 880) (by decide +kernel)⟩
theorem lw_p66 : lw_okq (⟨"NinthStep$Chance", "spread", "(III)V"⟩, 2) := ⟨⟨by decide +kernel, by decide +kernel⟩, List.mem_of_getElem? (i := 255) (by decide +kernel), List.mem_of_getElem? (i := 887) (by decide +kernel), List.mem_of_getElem? (i := 888) (by decide +kernel)⟩
theorem lw_p67 : lw_okq (⟨"NinthStep$World", "stepInTruth", "(LNinthStep$Mule;I)V"⟩, 6) := ⟨⟨by decide +kernel, by decide +kernel⟩, List.mem_of_getElem? (i := 28) (by decide +kernel), List.mem_of_getElem? (i := 913) (by decide +kernel), List.mem_of_getElem? (i := 914) (by decide +kernel)⟩
theorem lw_p68 : lw_okq (⟨"NinthStep$World", "restInTruth", "(LNinthStep$Mule;)V"⟩, 6) := ⟨⟨by decide +kernel, by decide +kernel⟩, List.mem_of_getElem? (i := 28) (by decide +kernel), List.mem_of_getElem? (i := 918) (by decide +kernel), List.mem_of_getElem? (i := 919) (by decide +kernel)⟩
theorem lw_p69 : lw_okq (⟨"NinthStep$World", "turnInTruth", "(LNinthStep$Mule;)Z"⟩, 6) := ⟨⟨by decide +kernel, by decide +kernel⟩, List.mem_of_getElem? (i := 28) (by decide +kernel), List.mem_of_getElem? (i := 927) (by decide +kernel), List.mem_of_getElem? (i := 928) (by decide +kernel)⟩
theorem lw_p70 : lw_okq (⟨"NinthStep$World", "slipToEnd", "(LNinthStep$Mule;)V"⟩, 6) := ⟨⟨by decide +kernel, by decide +kernel⟩, List.mem_of_getElem? (i := 28) (by decide +kernel), List.mem_of_getElem? (i := 936) (by decide +kernel), List.mem_of_getElem? (i := 937) (by decide +kernel)⟩
theorem lw_p71 : lw_okq (⟨"NinthStep$World", "draw", "(I)I"⟩, 6) := ⟨⟨by decide +kernel, by decide +kernel⟩, List.mem_of_getElem? (i := 28) (by decide +kernel), List.mem_of_getElem? (i := 940) (by decide +kernel), List.mem_of_getElem? (i := 941) (by decide +kernel)⟩
theorem lw_p72 : lw_okq (⟨"NinthStep", "shelvesInUse", "()I"⟩, 12) := ⟨⟨by decide +kernel, by decide +kernel⟩, List.mem_of_getElem? (i := 20) (by decide +kernel), List.mem_of_getElem? (i := 966) (by decide +kernel), List.mem_of_getElem? (i := 967) (by decide +kernel)⟩
theorem lw_p73 : lw_okq (⟨"NinthStepModel", "no", "(I)I"⟩, 31) := ⟨⟨by decide +kernel, by decide +kernel⟩, List.mem_of_getElem? (i := 970) (by decide +kernel), List.mem_of_getElem? (i := 1077) (by decide +kernel), List.mem_of_getElem? (i := 1078) (by decide +kernel)⟩
theorem lw_p74 : lw_okq (⟨"NinthStepModel", "noRow", "(I)I"⟩, 31) := ⟨⟨by decide +kernel, by decide +kernel⟩, List.mem_of_getElem? (i := 970) (by decide +kernel), List.mem_of_getElem? (i := 1085) (by decide +kernel), List.mem_of_getElem? (i := 1086) (by decide +kernel)⟩
theorem lw_p75 : lw_okq (⟨"NinthStepModel", "isRow", "(I)Z"⟩, 31) := ⟨⟨by decide +kernel, by decide +kernel⟩, List.mem_of_getElem? (i := 970) (by decide +kernel), List.mem_of_getElem? (i := 1093) (by decide +kernel), List.mem_of_getElem? (i := 1094) (by decide +kernel)⟩
theorem lw_p76 : lw_okq (⟨"NinthStepModel", "isMule", "(I)Z"⟩, 31) := ⟨⟨by decide +kernel, by decide +kernel⟩, List.mem_of_getElem? (i := 970) (by decide +kernel), List.mem_of_getElem? (i := 1109) (by decide +kernel), List.mem_of_getElem? (i := 1110) (by decide +kernel)⟩
theorem lw_p77 : lw_okq (⟨"NinthStepModel", "rest", "(I)I"⟩, 31) := ⟨⟨by decide +kernel, by decide +kernel⟩, List.mem_of_getElem? (i := 970) (by decide +kernel), List.mem_of_getElem? (i := 1120) (by decide +kernel), List.mem_of_getElem? (i := 1121) (by decide +kernel)⟩
theorem lw_p78 : lw_okq (⟨"NinthStepModel", "aheadOf", "(II)I"⟩, 31) := ⟨⟨by decide +kernel, by decide +kernel⟩, List.mem_of_getElem? (i := 970) (by decide +kernel), List.mem_of_getElem? (i := 1124) (by decide +kernel), List.mem_of_getElem? (i := 1125) (by decide +kernel)⟩
theorem lw_p79 : lw_okq (⟨"NinthStepModel", "isThere", "(II)Z"⟩, 31) := ⟨⟨by decide +kernel, by decide +kernel⟩, List.mem_of_getElem? (i := 970) (by decide +kernel), List.mem_of_getElem? (i := 1128) (by decide +kernel), List.mem_of_getElem? (i := 1129) (by decide +kernel)⟩
def lw_privs_5 : List (MethodName × Nat) := [(⟨"NinthStep", "wouldBeSeen", "(IIJ)Z"⟩, 12), (⟨"NinthStep$Chance", "unfallen", "(LNinthStep$Mule;LNinthStep$Ground;I)I"⟩, 2), (⟨"NinthStep$Chance", "spread", "(III)V"⟩, 2), (⟨"NinthStep$World", "stepInTruth", "(LNinthStep$Mule;I)V"⟩, 6), (⟨"NinthStep$World", "restInTruth", "(LNinthStep$Mule;)V"⟩, 6), (⟨"NinthStep$World", "turnInTruth", "(LNinthStep$Mule;)Z"⟩, 6), (⟨"NinthStep$World", "slipToEnd", "(LNinthStep$Mule;)V"⟩, 6), (⟨"NinthStep$World", "draw", "(I)I"⟩, 6), (⟨"NinthStep", "shelvesInUse", "()I"⟩, 12), (⟨"NinthStepModel", "no", "(I)I"⟩, 31), (⟨"NinthStepModel", "noRow", "(I)I"⟩, 31), (⟨"NinthStepModel", "isRow", "(I)Z"⟩, 31), (⟨"NinthStepModel", "isMule", "(I)Z"⟩, 31), (⟨"NinthStepModel", "rest", "(I)I"⟩, 31), (⟨"NinthStepModel", "aheadOf", "(II)I"⟩, 31), (⟨"NinthStepModel", "isThere", "(II)Z"⟩, 31)]
theorem lw_r5 : ∀ q ∈ lw_privs_5, lw_okq q := List.forall_mem_cons.mpr ⟨lw_p64, List.forall_mem_cons.mpr ⟨lw_p65, List.forall_mem_cons.mpr ⟨lw_p66, List.forall_mem_cons.mpr ⟨lw_p67, List.forall_mem_cons.mpr ⟨lw_p68, List.forall_mem_cons.mpr ⟨lw_p69, List.forall_mem_cons.mpr ⟨lw_p70, List.forall_mem_cons.mpr ⟨lw_p71, List.forall_mem_cons.mpr ⟨lw_p72, List.forall_mem_cons.mpr ⟨lw_p73, List.forall_mem_cons.mpr ⟨lw_p74, List.forall_mem_cons.mpr ⟨lw_p75, List.forall_mem_cons.mpr ⟨lw_p76, List.forall_mem_cons.mpr ⟨lw_p77, List.forall_mem_cons.mpr ⟨lw_p78, List.forall_mem_cons.mpr ⟨lw_p79, fun _ h => absurd h List.not_mem_nil⟩⟩⟩⟩⟩⟩⟩⟩⟩⟩⟩⟩⟩⟩⟩⟩
theorem lw_p80 : lw_okq (⟨"NinthStepModel", "highest", "()I"⟩, 31) := ⟨⟨by decide +kernel, by decide +kernel⟩, List.mem_of_getElem? (i := 970) (by decide +kernel), List.mem_of_getElem? (i := 1136) (by decide +kernel), List.mem_of_getElem? (i := 1137) (by decide +kernel)⟩
theorem lw_p81 : lw_okq (⟨"NinthStepModel", "longer", "(I)V"⟩, 31) := ⟨⟨by decide +kernel, by decide +kernel⟩, List.mem_of_getElem? (i := 970) (by decide +kernel), List.mem_of_getElem? (i := 1140) (by decide +kernel), List.mem_of_getElem? (i := 1141) (by decide +kernel)⟩
theorem lw_p82 : lw_okq (⟨"NinthStepModel", "isPlace", "(I)Z"⟩, 31) := ⟨⟨by decide +kernel, by decide +kernel⟩, List.mem_of_getElem? (i := 970) (by decide +kernel), List.mem_of_getElem? (i := 1148) (by decide +kernel), List.mem_of_getElem? (i := 1149) (by decide +kernel)⟩
theorem lw_p83 : lw_okq (⟨"NinthStepModel", "canBe", "(II)Z"⟩, 31) := ⟨⟨by decide +kernel, by decide +kernel⟩, List.mem_of_getElem? (i := 970) (by decide +kernel), List.mem_of_getElem? (i := 1152) (by decide +kernel), List.mem_of_getElem? (i := 1153) (by decide +kernel)⟩
theorem lw_p84 : lw_okq (⟨"NinthStepModel", "newMule", "(III)I"⟩, 31) := ⟨⟨by decide +kernel, by decide +kernel⟩, List.mem_of_getElem? (i := 970) (by decide +kernel), List.mem_of_getElem? (i := 1160) (by decide +kernel), List.mem_of_getElem? (i := 1161) (by decide +kernel)⟩
theorem lw_p85 : lw_okq (⟨"NinthStepModel", "keep", "([I)V"⟩, 31) := ⟨⟨by decide +kernel, by decide +kernel⟩, List.mem_of_getElem? (i := 970) (by decide +kernel), List.mem_of_getElem? (i := 1188) (by decide +kernel), List.mem_of_getElem? (i := 1189) (by decide +kernel)⟩
theorem lw_p86 : lw_okq (⟨"NinthStepModel", "next", "()V"⟩, 31) := ⟨⟨by decide +kernel, by decide +kernel⟩, List.mem_of_getElem? (i := 970) (by decide +kernel), List.mem_of_getElem? (i := 1192) (by decide +kernel), List.mem_of_getElem? (i := 1193) (by decide +kernel)⟩
theorem lw_p87 : lw_okq (⟨"NinthStepModel", "statement", "()Z"⟩, 31) := ⟨⟨by decide +kernel, by decide +kernel⟩, List.mem_of_getElem? (i := 970) (by decide +kernel), List.mem_of_getElem? (i := 1202) (by decide +kernel), List.mem_of_getElem? (i := 1203) (by decide +kernel)⟩
theorem lw_p88 : lw_okq (⟨"NinthStepModel", "isWord", "(Ljava/lang/String;)Z"⟩, 31) := ⟨⟨by decide +kernel, by decide +kernel⟩, List.mem_of_getElem? (i := 970) (by decide +kernel), List.mem_of_getElem? (i := 1207) (by decide +kernel), List.mem_of_getElem? (i := 1208) (by decide +kernel)⟩
theorem lw_p89 : lw_okq (⟨"NinthStepModel", "number", "(II)Z"⟩, 31) := ⟨⟨by decide +kernel, by decide +kernel⟩, List.mem_of_getElem? (i := 970) (by decide +kernel), List.mem_of_getElem? (i := 1213) (by decide +kernel), List.mem_of_getElem? (i := 1214) (by decide +kernel)⟩
theorem lw_p90 : lw_okq (⟨"NinthStepModel", "again", "([I)V"⟩, 31) := ⟨⟨by decide +kernel, by decide +kernel⟩, List.mem_of_getElem? (i := 970) (by decide +kernel), List.mem_of_getElem? (i := 1224) (by decide +kernel), List.mem_of_getElem? (i := 1225) (by decide +kernel)⟩
theorem lw_p91 : lw_okq (⟨"NinthStepModel", "begins", "(I)V"⟩, 31) := ⟨⟨by decide +kernel, by decide +kernel⟩, List.mem_of_getElem? (i := 970) (by decide +kernel), List.mem_of_getElem? (i := 1240) (by decide +kernel), List.mem_of_getElem? (i := 1241) (by decide +kernel)⟩
theorem lw_p92 : lw_okq (⟨"NinthStepModel", "stepped", "(Z)Z"⟩, 31) := ⟨⟨by decide +kernel, by decide +kernel⟩, List.mem_of_getElem? (i := 970) (by decide +kernel), List.mem_of_getElem? (i := 1244) (by decide +kernel), List.mem_of_getElem? (i := 1245) (by decide +kernel)⟩
theorem lw_p93 : lw_okq (⟨"NinthStepModel", "stopsHere", "()Z"⟩, 31) := ⟨⟨by decide +kernel, by decide +kernel⟩, List.mem_of_getElem? (i := 970) (by decide +kernel), List.mem_of_getElem? (i := 1248) (by decide +kernel), List.mem_of_getElem? (i := 1249) (by decide +kernel)⟩
theorem lw_p94 : lw_okq (⟨"NinthStepModel", "minutesOf", "(I)I"⟩, 31) := ⟨⟨by decide +kernel, by decide +kernel⟩, List.mem_of_getElem? (i := 970) (by decide +kernel), List.mem_of_getElem? (i := 1257) (by decide +kernel), List.mem_of_getElem? (i := 1258) (by decide +kernel)⟩
theorem lw_p95 : lw_okq (⟨"NinthStepModel", "afterAll", "(II)I"⟩, 31) := ⟨⟨by decide +kernel, by decide +kernel⟩, List.mem_of_getElem? (i := 970) (by decide +kernel), List.mem_of_getElem? (i := 1265) (by decide +kernel), List.mem_of_getElem? (i := 1266) (by decide +kernel)⟩
def lw_privs_6 : List (MethodName × Nat) := [(⟨"NinthStepModel", "highest", "()I"⟩, 31), (⟨"NinthStepModel", "longer", "(I)V"⟩, 31), (⟨"NinthStepModel", "isPlace", "(I)Z"⟩, 31), (⟨"NinthStepModel", "canBe", "(II)Z"⟩, 31), (⟨"NinthStepModel", "newMule", "(III)I"⟩, 31), (⟨"NinthStepModel", "keep", "([I)V"⟩, 31), (⟨"NinthStepModel", "next", "()V"⟩, 31), (⟨"NinthStepModel", "statement", "()Z"⟩, 31), (⟨"NinthStepModel", "isWord", "(Ljava/lang/String;)Z"⟩, 31), (⟨"NinthStepModel", "number", "(II)Z"⟩, 31), (⟨"NinthStepModel", "again", "([I)V"⟩, 31), (⟨"NinthStepModel", "begins", "(I)V"⟩, 31), (⟨"NinthStepModel", "stepped", "(Z)Z"⟩, 31), (⟨"NinthStepModel", "stopsHere", "()Z"⟩, 31), (⟨"NinthStepModel", "minutesOf", "(I)I"⟩, 31), (⟨"NinthStepModel", "afterAll", "(II)I"⟩, 31)]
theorem lw_r6 : ∀ q ∈ lw_privs_6, lw_okq q := List.forall_mem_cons.mpr ⟨lw_p80, List.forall_mem_cons.mpr ⟨lw_p81, List.forall_mem_cons.mpr ⟨lw_p82, List.forall_mem_cons.mpr ⟨lw_p83, List.forall_mem_cons.mpr ⟨lw_p84, List.forall_mem_cons.mpr ⟨lw_p85, List.forall_mem_cons.mpr ⟨lw_p86, List.forall_mem_cons.mpr ⟨lw_p87, List.forall_mem_cons.mpr ⟨lw_p88, List.forall_mem_cons.mpr ⟨lw_p89, List.forall_mem_cons.mpr ⟨lw_p90, List.forall_mem_cons.mpr ⟨lw_p91, List.forall_mem_cons.mpr ⟨lw_p92, List.forall_mem_cons.mpr ⟨lw_p93, List.forall_mem_cons.mpr ⟨lw_p94, List.forall_mem_cons.mpr ⟨lw_p95, fun _ h => absurd h List.not_mem_nil⟩⟩⟩⟩⟩⟩⟩⟩⟩⟩⟩⟩⟩⟩⟩⟩
theorem lw_p96 : lw_okq (⟨"NinthStepModel", "isGood", "(I)Z"⟩, 31) := ⟨⟨by decide +kernel, by decide +kernel⟩, List.mem_of_getElem? (i := 970) (by decide +kernel), List.mem_of_getElem? (i := 1273) (by decide +kernel), List.mem_of_getElem? (i := 1274) (by decide +kernel)⟩
theorem lw_p97 : lw_okq (⟨"NinthStepModel", "journey", "(II)I"⟩, 31) := ⟨⟨by decide +kernel, by decide +kernel⟩, List.mem_of_getElem? (i := 970) (by decide +kernel), List.mem_of_getElem? (i := 1277) (by decide +kernel), List.mem_of_getElem? (i := 1278) (by decide +kernel)⟩
theorem lw_p98 : lw_okq (⟨"NinthStepModel", "turnsOf", "(I)I"⟩, 31) := ⟨⟨by decide +kernel, by decide +kernel⟩, List.mem_of_getElem? (i := 970) (by decide +kernel), List.mem_of_getElem? (i := 1293) (by decide +kernel), List.mem_of_getElem? (i := 1294) (by decide +kernel)⟩
theorem lw_p99 : lw_okq (⟨"NinthStepModel", "turning", "(IZ)I"⟩, 31) := ⟨⟨by decide +kernel, by decide +kernel⟩, List.mem_of_getElem? (i := 970) (by decide +kernel), List.mem_of_getElem? (i := 1297) (by decide +kernel), List.mem_of_getElem? (i := 1298) (by decide +kernel)⟩
theorem lw_p100 : lw_okq (⟨"NinthStepModel", "stopsAt", "(III)Z"⟩, 31) := ⟨⟨by decide +kernel, by decide +kernel⟩, List.mem_of_getElem? (i := 970) (by decide +kernel), List.mem_of_getElem? (i := 1306) (by decide +kernel), List.mem_of_getElem? (i := 1307) (by decide +kernel)⟩
theorem lw_p101 : lw_okq (⟨"NinthStepModel", "crowdAt", "(I)I"⟩, 31) := ⟨⟨by decide +kernel, by decide +kernel⟩, List.mem_of_getElem? (i := 970) (by decide +kernel), List.mem_of_getElem? (i := 1326) (by decide +kernel), List.mem_of_getElem? (i := 1327) (by decide +kernel)⟩
theorem lw_p102 : lw_okq (⟨"NinthStepModel", "newStones", "()I"⟩, 31) := ⟨⟨by decide +kernel, by decide +kernel⟩, List.mem_of_getElem? (i := 970) (by decide +kernel), List.mem_of_getElem? (i := 1338) (by decide +kernel), List.mem_of_getElem? (i := 1339) (by decide +kernel)⟩
theorem lw_p103 : lw_okq (⟨"NinthStepModel", "noneFalls", "()Z"⟩, 31) := ⟨⟨by decide +kernel, by decide +kernel⟩, List.mem_of_getElem? (i := 970) (by decide +kernel), List.mem_of_getElem? (i := 1342) (by decide +kernel), List.mem_of_getElem? (i := 1343) (by decide +kernel)⟩
theorem lw_p104 : lw_okq (⟨"NinthStepModel", "rests", "(I)V"⟩, 31) := ⟨⟨by decide +kernel, by decide +kernel⟩, List.mem_of_getElem? (i := 970) (by decide +kernel), List.mem_of_getElem? (i := 1372) (by decide +kernel), List.mem_of_getElem? (i := 1373) (by decide +kernel)⟩
theorem lw_p105 : lw_okq (⟨"NinthStepModel", "stays", "(I)V"⟩, 31) := ⟨⟨by decide +kernel, by decide +kernel⟩, List.mem_of_getElem? (i := 970) (by decide +kernel), List.mem_of_getElem? (i := 1376) (by decide +kernel), List.mem_of_getElem? (i := 1377) (by decide +kernel)⟩
theorem lw_p106 : lw_okq (⟨"NinthStepModel", "draw", "(I)I"⟩, 31) := ⟨⟨by decide +kernel, by decide +kernel⟩, List.mem_of_getElem? (i := 970) (by decide +kernel), List.mem_of_getElem? (i := 1388) (by decide +kernel), List.mem_of_getElem? (i := 1389) (by decide +kernel)⟩
theorem lw_p107 : lw_okq (⟨"NinthStepModel", "those", "(I)I"⟩, 31) := ⟨⟨by decide +kernel, by decide +kernel⟩, List.mem_of_getElem? (i := 970) (by decide +kernel), List.mem_of_getElem? (i := 1413) (by decide +kernel), List.mem_of_getElem? (i := 1414) (by decide +kernel)⟩
def lw_privs_7 : List (MethodName × Nat) := [(⟨"NinthStepModel", "isGood", "(I)Z"⟩, 31), (⟨"NinthStepModel", "journey", "(II)I"⟩, 31), (⟨"NinthStepModel", "turnsOf", "(I)I"⟩, 31), (⟨"NinthStepModel", "turning", "(IZ)I"⟩, 31), (⟨"NinthStepModel", "stopsAt", "(III)Z"⟩, 31), (⟨"NinthStepModel", "crowdAt", "(I)I"⟩, 31), (⟨"NinthStepModel", "newStones", "()I"⟩, 31), (⟨"NinthStepModel", "noneFalls", "()Z"⟩, 31), (⟨"NinthStepModel", "rests", "(I)V"⟩, 31), (⟨"NinthStepModel", "stays", "(I)V"⟩, 31), (⟨"NinthStepModel", "draw", "(I)I"⟩, 31), (⟨"NinthStepModel", "those", "(I)I"⟩, 31)]
theorem lw_r7 : ∀ q ∈ lw_privs_7, lw_okq q := List.forall_mem_cons.mpr ⟨lw_p96, List.forall_mem_cons.mpr ⟨lw_p97, List.forall_mem_cons.mpr ⟨lw_p98, List.forall_mem_cons.mpr ⟨lw_p99, List.forall_mem_cons.mpr ⟨lw_p100, List.forall_mem_cons.mpr ⟨lw_p101, List.forall_mem_cons.mpr ⟨lw_p102, List.forall_mem_cons.mpr ⟨lw_p103, List.forall_mem_cons.mpr ⟨lw_p104, List.forall_mem_cons.mpr ⟨lw_p105, List.forall_mem_cons.mpr ⟨lw_p106, List.forall_mem_cons.mpr ⟨lw_p107, fun _ h => absurd h List.not_mem_nil⟩⟩⟩⟩⟩⟩⟩⟩⟩⟩⟩⟩
def lw_privs : List (MethodName × Nat) := lw_privs_1 ++ (lw_privs_2 ++ (lw_privs_3 ++ (lw_privs_4 ++ (lw_privs_5 ++ (lw_privs_6 ++ (lw_privs_7))))))
def lw_tbl : List Cond := k2_sels lw_privs ++ tables_1
theorem lw_privs_ok : ∀ q ∈ lw_privs, lw_okq q := by
  show ∀ q ∈ lw_privs_1 ++ (lw_privs_2 ++ (lw_privs_3 ++ (lw_privs_4 ++ (lw_privs_5 ++ (lw_privs_6 ++ (lw_privs_7)))))), lw_okq q
  exact List.forall_mem_append.mpr ⟨lw_r1, List.forall_mem_append.mpr ⟨lw_r2, List.forall_mem_append.mpr ⟨lw_r3, List.forall_mem_append.mpr ⟨lw_r4, List.forall_mem_append.mpr ⟨lw_r5, List.forall_mem_append.mpr ⟨lw_r6, lw_r7⟩⟩⟩⟩⟩⟩
-- ===== end of PART A; then your names; then what follows =====
end
section
def nR_0 : String := "NinthStep$Chance"
def nT_0 : u_T := fun k => match k with
  | 0 => ("NinthStep$Chance", "parts", "[I", true)
  | _ => ("NinthStep$Chance", "next", "[I", true)
def ny_0 : Nat → FieldType := fun k => match k with
  | 0 => (.array .int)
  | _ => (.array .int)
theorem nnm_0 : ∀ a, a < 2 → ∀ b, b < 2 → a ≠ b → (nT_0 a).2.1 ≠ (nT_0 b).2.1 := by decide +kernel
theorem nty_0 : ∀ k, k < 2 → parseFieldDescriptor (nT_0 k).2.2.1 = some (ny_0 k) := by decide +kernel
def nR_1 : String := "NinthStep$Ground"
def nT_1 : u_T := fun k => match k with
  | 0 => ("NinthStep$Ground", "end", "I", false)
  | 1 => ("NinthStep$Ground", "stones", "J", false)
  | 2 => ("NinthStep$Ground", "inns", "J", false)
  | 3 => ("NinthStep$Ground", "cliffs", "J", false)
  | _ => ("NinthStep$Ground", "views", "J", false)
def ny_1 : Nat → FieldType := fun k => match k with
  | 0 => .int
  | 1 => .long
  | 2 => .long
  | 3 => .long
  | _ => .long
theorem nnm_1 : ∀ a, a < 5 → ∀ b, b < 5 → a ≠ b → (nT_1 a).2.1 ≠ (nT_1 b).2.1 := by decide +kernel
theorem nty_1 : ∀ k, k < 5 → parseFieldDescriptor (nT_1 k).2.2.1 = some (ny_1 k) := by decide +kernel
def nR_2 : String := "NinthStep$Mule"
def nT_2 : u_T := fun k => match k with
  | 0 => ("NinthStep$Mule", "kind", "I", false)
  | 1 => ("NinthStep$Mule", "number", "I", false)
  | 2 => ("NinthStep$Mule", "at", "I", false)
  | 3 => ("NinthStep$Mule", "count", "I", false)
  | 4 => ("NinthStep$Mule", "rested", "I", false)
  | 5 => ("NinthStep$Mule", "a", "I", false)
  | 6 => ("NinthStep$Mule", "restTime", "I", false)
  | _ => ("NinthStep$Mule", "stoneWeight", "I", false)
def ny_2 : Nat → FieldType := fun k => match k with
  | 0 => .int
  | 1 => .int
  | 2 => .int
  | 3 => .int
  | 4 => .int
  | 5 => .int
  | 6 => .int
  | _ => .int
theorem nnm_2 : ∀ a, a < 8 → ∀ b, b < 8 → a ≠ b → (nT_2 a).2.1 ≠ (nT_2 b).2.1 := by decide +kernel
theorem nty_2 : ∀ k, k < 8 → parseFieldDescriptor (nT_2 k).2.2.1 = some (ny_2 k) := by decide +kernel
def nR_3 : String := "NinthStep$Shelf"
def nT_3 : u_T := fun k => match k with
  | 0 => ("NinthStep$Shelf", "held", "I", false)
  | 1 => ("NinthStep$Shelf", "size", "I", false)
  | _ => ("NinthStep$Shelf", "cells", "[J", true)
def ny_3 : Nat → FieldType := fun k => match k with
  | 0 => .int
  | 1 => .int
  | _ => (.array .long)
theorem nnm_3 : ∀ a, a < 3 → ∀ b, b < 3 → a ≠ b → (nT_3 a).2.1 ≠ (nT_3 b).2.1 := by decide +kernel
theorem nty_3 : ∀ k, k < 3 → parseFieldDescriptor (nT_3 k).2.2.1 = some (ny_3 k) := by decide +kernel
def nR_4 : String := "NinthStep$StonePlan"
def nT_4 : u_T := fun k => match k with
  | 0 => ("NinthStep$StonePlan", "safe", "[J", true)
  | 1 => ("NinthStep$StonePlan", "seconds", "[J", true)
  | 2 => ("NinthStep$StonePlan", "numberAt", "[I", true)
  | 3 => ("NinthStep$StonePlan", "outer", "LNinthStep$Mule;", true)
  | 4 => ("NinthStep$StonePlan", "branch", "LNinthStep$Mule;", true)
  | 5 => ("NinthStep$StonePlan", "inner", "LNinthStep$Mule;", true)
  | 6 => ("NinthStep$StonePlan", "trial", "LNinthStep$Mule;", true)
  | 7 => ("NinthStep$StonePlan", "ground", "LNinthStep$Ground;", false)
  | 8 => ("NinthStep$StonePlan", "first", "I", false)
  | _ => ("NinthStep$StonePlan", "second", "I", false)
def ny_4 : Nat → FieldType := fun k => match k with
  | 0 => (.array .long)
  | 1 => (.array .long)
  | 2 => (.array .int)
  | 3 => (.object "NinthStep$Mule")
  | 4 => (.object "NinthStep$Mule")
  | 5 => (.object "NinthStep$Mule")
  | 6 => (.object "NinthStep$Mule")
  | 7 => (.object "NinthStep$Ground")
  | 8 => .int
  | _ => .int
theorem nnm_4 : ∀ a, a < 10 → ∀ b, b < 10 → a ≠ b → (nT_4 a).2.1 ≠ (nT_4 b).2.1 := by decide +kernel
theorem nty_4 : ∀ k, k < 10 → parseFieldDescriptor (nT_4 k).2.2.1 = some (ny_4 k) := by decide +kernel
def nR_5 : String := "NinthStep$Tape"
def nT_5 : u_T := fun k => match k with
  | 0 => ("NinthStep$Tape", "bytes", "[I", true)
  | 1 => ("NinthStep$Tape", "size", "I", false)
  | 2 => ("NinthStep$Tape", "fault", "I", false)
  | 3 => ("NinthStep$Tape", "sort", "I", false)
  | 4 => ("NinthStep$Tape", "from", "I", false)
  | _ => ("NinthStep$Tape", "behind", "I", false)
def ny_5 : Nat → FieldType := fun k => match k with
  | 0 => (.array .int)
  | 1 => .int
  | 2 => .int
  | 3 => .int
  | 4 => .int
  | _ => .int
theorem nnm_5 : ∀ a, a < 6 → ∀ b, b < 6 → a ≠ b → (nT_5 a).2.1 ≠ (nT_5 b).2.1 := by decide +kernel
theorem nty_5 : ∀ k, k < 6 → parseFieldDescriptor (nT_5 k).2.2.1 = some (ny_5 k) := by decide +kernel
def nR_6 : String := "NinthStep$TurnPlan"
def nT_6 : u_T := fun k => match k with
  | 0 => ("NinthStep$TurnPlan", "needed", "[I", true)
  | 1 => ("NinthStep$TurnPlan", "numberAt", "[I", true)
  | 2 => ("NinthStep$TurnPlan", "trial", "LNinthStep$Mule;", true)
  | 3 => ("NinthStep$TurnPlan", "ground", "LNinthStep$Ground;", false)
  | 4 => ("NinthStep$TurnPlan", "start", "I", false)
  | _ => ("NinthStep$TurnPlan", "firstCount", "I", false)
def ny_6 : Nat → FieldType := fun k => match k with
  | 0 => (.array .int)
  | 1 => (.array .int)
  | 2 => (.object "NinthStep$Mule")
  | 3 => (.object "NinthStep$Ground")
  | 4 => .int
  | _ => .int
theorem nnm_6 : ∀ a, a < 6 → ∀ b, b < 6 → a ≠ b → (nT_6 a).2.1 ≠ (nT_6 b).2.1 := by decide +kernel
theorem nty_6 : ∀ k, k < 6 → parseFieldDescriptor (nT_6 k).2.2.1 = some (ny_6 k) := by decide +kernel
def nR_7 : String := "NinthStep$World"
def nT_7 : u_T := fun k => match k with
  | 0 => ("NinthStep$World", "ground", "LNinthStep$Ground;", true)
  | 1 => ("NinthStep$World", "mules", "[LNinthStep$Mule;", true)
  | 2 => ("NinthStep$World", "herd", "I", false)
  | 3 => ("NinthStep$World", "slipping", "I", false)
  | 4 => ("NinthStep$World", "fell", "I", false)
  | _ => ("NinthStep$World", "seedNow", "I", false)
def ny_7 : Nat → FieldType := fun k => match k with
  | 0 => (.object "NinthStep$Ground")
  | 1 => (.array (.object "NinthStep$Mule"))
  | 2 => .int
  | 3 => .int
  | 4 => .int
  | _ => .int
theorem nnm_7 : ∀ a, a < 6 → ∀ b, b < 6 → a ≠ b → (nT_7 a).2.1 ≠ (nT_7 b).2.1 := by decide +kernel
theorem nty_7 : ∀ k, k < 6 → parseFieldDescriptor (nT_7 k).2.2.1 = some (ny_7 k) := by decide +kernel
def nR_8 : String := "NinthStep"
def nT_8 : u_T := fun k => match k with
  | 0 => ("NinthStep", "now", "LNinthStep$World;", true)
  | 1 => ("NinthStep", "kept", "LNinthStep$World;", true)
  | 2 => ("NinthStep", "draft", "LNinthStep$World;", true)
  | 3 => ("NinthStep", "shelves", "[LNinthStep$Shelf;", true)
  | 4 => ("NinthStep", "tape", "LNinthStep$Tape;", true)
  | 5 => ("NinthStep", "turnPlan", "LNinthStep$TurnPlan;", true)
  | 6 => ("NinthStep", "stonePlan", "LNinthStep$StonePlan;", true)
  | 7 => ("NinthStep", "chance", "LNinthStep$Chance;", true)
  | 8 => ("NinthStep", "walker", "LNinthStep$Mule;", true)
  | 9 => ("NinthStep", "crowds", "[I", true)
  | 10 => ("NinthStep", "refusals", "[I", true)
  | _ => ("NinthStep", "isKept", "Z", false)
def ny_8 : Nat → FieldType := fun k => match k with
  | 0 => (.object "NinthStep$World")
  | 1 => (.object "NinthStep$World")
  | 2 => (.object "NinthStep$World")
  | 3 => (.array (.object "NinthStep$Shelf"))
  | 4 => (.object "NinthStep$Tape")
  | 5 => (.object "NinthStep$TurnPlan")
  | 6 => (.object "NinthStep$StonePlan")
  | 7 => (.object "NinthStep$Chance")
  | 8 => (.object "NinthStep$Mule")
  | 9 => (.array .int)
  | 10 => (.array .int)
  | _ => .boolean
theorem nnm_8 : ∀ a, a < 12 → ∀ b, b < 12 → a ≠ b → (nT_8 a).2.1 ≠ (nT_8 b).2.1 := by decide +kernel
theorem nty_8 : ∀ k, k < 12 → parseFieldDescriptor (nT_8 k).2.2.1 = some (ny_8 k) := by decide +kernel
def nR_9 : String := "NinthStepModel"
def nT_9 : u_T := fun k => match k with
  | 0 => ("NinthStepModel", "holding", "[I", true)
  | 1 => ("NinthStepModel", "rowLength", "[I", true)
  | 2 => ("NinthStepModel", "rowOf", "[J", true)
  | 3 => ("NinthStepModel", "end", "I", false)
  | 4 => ("NinthStepModel", "there", "[I", true)
  | 5 => ("NinthStepModel", "mules", "I", false)
  | 6 => ("NinthStepModel", "kind", "[I", true)
  | 7 => ("NinthStepModel", "number", "[I", true)
  | 8 => ("NinthStepModel", "place", "[I", true)
  | 9 => ("NinthStepModel", "count", "[I", true)
  | 10 => ("NinthStepModel", "rested", "[I", true)
  | 11 => ("NinthStepModel", "own", "[I", true)
  | 12 => ("NinthStepModel", "slip", "I", false)
  | 13 => ("NinthStepModel", "fell", "I", false)
  | 14 => ("NinthStepModel", "seed", "I", false)
  | 15 => ("NinthStepModel", "taped", "I", false)
  | 16 => ("NinthStepModel", "tape", "[I", true)
  | 17 => ("NinthStepModel", "at", "I", false)
  | 18 => ("NinthStepModel", "token", "I", false)
  | 19 => ("NinthStepModel", "sort", "I", false)
  | 20 => ("NinthStepModel", "value", "I", false)
  | 21 => ("NinthStepModel", "refusals", "[I", true)
  | 22 => ("NinthStepModel", "imaged", "Z", false)
  | 23 => ("NinthStepModel", "old", "[I", true)
  | 24 => ("NinthStepModel", "ahead", "[I", true)
  | 25 => ("NinthStepModel", "goer", "I", false)
  | 26 => ("NinthStepModel", "every", "I", false)
  | 27 => ("NinthStepModel", "here", "I", false)
  | 28 => ("NinthStepModel", "steps", "I", false)
  | 29 => ("NinthStepModel", "fewest", "[I", true)
  | _ => ("NinthStepModel", "turned", "[I", true)
def ny_9 : Nat → FieldType := fun k => match k with
  | 0 => (.array .int)
  | 1 => (.array .int)
  | 2 => (.array .long)
  | 3 => .int
  | 4 => (.array .int)
  | 5 => .int
  | 6 => (.array .int)
  | 7 => (.array .int)
  | 8 => (.array .int)
  | 9 => (.array .int)
  | 10 => (.array .int)
  | 11 => (.array .int)
  | 12 => .int
  | 13 => .int
  | 14 => .int
  | 15 => .int
  | 16 => (.array .int)
  | 17 => .int
  | 18 => .int
  | 19 => .int
  | 20 => .int
  | 21 => (.array .int)
  | 22 => .boolean
  | 23 => (.array .int)
  | 24 => (.array .int)
  | 25 => .int
  | 26 => .int
  | 27 => .int
  | 28 => .int
  | 29 => (.array .int)
  | _ => (.array .int)
theorem nnm_9 : ∀ a, a < 31 → ∀ b, b < 31 → a ≠ b → (nT_9 a).2.1 ≠ (nT_9 b).2.1 := by decide +kernel
theorem nty_9 : ∀ k, k < 31 → parseFieldDescriptor (nT_9 k).2.2.1 = some (ny_9 k) := by decide +kernel
def ns_cl : List vw_C := [(nR_0, nT_0, 2), (nR_1, nT_1, 5), (nR_2, nT_2, 8), (nR_3, nT_3, 3), (nR_4, nT_4, 10), (nR_5, nT_5, 6), (nR_6, nT_6, 6), (nR_7, nT_7, 6), (nR_8, nT_8, 12), (nR_9, nT_9, 31)]
def ns_ft : Nat → List Nat := fun ci => match ci with
  | 0 => [2, 2]
  | 1 => [0, 1, 1, 1, 1]
  | 2 => [0, 0, 0, 0, 0, 0, 0, 0]
  | 3 => [0, 0, 2]
  | 4 => [2, 2, 2, 2, 2, 2, 2, 2, 0, 0]
  | 5 => [2, 0, 0, 0, 0, 0]
  | 6 => [2, 2, 2, 2, 0, 0]
  | 7 => [2, 2, 0, 0, 0, 0]
  | 8 => [2, 2, 2, 2, 2, 2, 2, 2, 2, 2, 2, 0]
  | 9 => [2, 2, 2, 0, 2, 0, 2, 2, 2, 2, 2, 2, 0, 0, 0, 0, 2, 0, 0, 0, 0, 2, 0, 2, 2, 0, 0, 0, 0, 2, 2]
  | _ => []
def ns_kL : List Nat := [8, 7, 1, 12, 2, 2, 2, 2, 2, 2, 7, 1, 12, 2, 2, 2, 2, 2, 2, 7, 1, 12, 2, 2, 2, 2, 2, 2, 13, 5, 10, 6, 10, 10, 2, 4, 11, 11, 10, 2, 2, 2, 2, 0, 10, 10, 2, 10, 10, 3, 11, 3, 11, 3, 11, 3, 11, 3, 11, 3, 11, 3, 11, 3, 11, 9, 10, 10, 11, 10, 10, 10, 10, 10, 10, 10, 10, 10, 10, 10, 10, 10]
def ns_lL : List Nat := [0, 0, 0, 6, 0, 0, 0, 0, 0, 0, 0, 0, 6, 0, 0, 0, 0, 0, 0, 0, 0, 6, 0, 0, 0, 0, 0, 0, 8, 0, 250, 0, 3904, 61, 0, 0, 61, 61, 61, 0, 0, 0, 0, 0, 65, 65, 0, 61, 5, 0, 40, 0, 40, 0, 40, 0, 40, 0, 40, 0, 40, 0, 40, 0, 40, 0, 8, 8, 320, 61, 6, 6, 6, 6, 6, 6, 250, 7, 102, 102, 8000, 61]
def ns_kd (a : Nat) : Nat := ns_kL.getD a 99
def ns_ln (a : Nat) : Nat := ns_lL.getD a 0
def ns_N : Nat := 82
theorem ns_kd_lt {a k : Nat} (h : ns_kd a = k) (hk : k < 99) : a < ns_N := by
  rcases Nat.lt_or_ge a ns_N with h1 | h1
  · exact h1
  · exfalso
    have h2 : ns_kd a = 99 := by
      unfold ns_kd
      rw [List.getD_eq_getElem?_getD, List.getElem?_eq_none (show ns_kL.length ≤ a from h1)]
      rfl
    omega
end
section
/-! the memory of the whole system: ints, longs and references of every cell, by the cell's number and the place in it -/
abbrev ns_St : Type := (Nat → Nat → Int32) × (Nat → Nat → Int64) × (Nat → Nat → Option Nat)
/-- where the cells begin, the classes, the array classes, the heap at the start -/
abbrev ns_G : Type := Nat × va_G × (Nat → ClassId) × Heap
def ns_rf (b : Nat) (x : Option Nat) : Option Nat := x.map (fun a => b + a)
def ns_fv (b : Nat) (σ : ns_St) (a k t : Nat) : Value := if t = 0 then .int (σ.1 a k) else if t = 1 then .long (σ.2.1 a k) else va_rf (ns_rf b (σ.2.2 a k))
def ns_fl (b : Nat) (σ : ns_St) (a ci : Nat) : List Value := (ns_ft ci).mapIdx (fun k t => ns_fv b σ a k t)
def ns_cE (G : ns_G) (σ : ns_St) (a : Nat) : va_E :=
  if ns_kd a < 10 then .inr (ns_kd a, ns_fl G.1 σ a (ns_kd a))
  else .inl (G.2.2.1 (ns_kd a), ns_ln a, if ns_kd a = 10 then .inl (σ.1 a) else if ns_kd a = 11 then .inr (.inl (σ.2.1 a)) else .inr (.inr (.inr (.inr (fun k => ns_rf G.1 (σ.2.2 a k))))))
def ns_wl (G : ns_G) (n : Nat) (σ : ns_St) : va_W := (List.range n).map (fun k => (G.1 + k, ns_cE G σ k))
def ns_Wd (G : ns_G) (n : Nat) (σ : ns_St) (H : Heap) : Prop := H.size = G.1 + n ∧ va_P G.2.1 ns_cl (ns_wl G n σ) H ∧ ∀ q, q < G.1 → H[q]? = G.2.2.2[q]?
abbrev ns_A (G : ns_G) : Nat → Prop := fun q => G.1 ≤ q
def ns_tys (G : ns_G) : List (ClassId × FieldType) := [(G.2.2.1 10, .int), (G.2.2.1 11, .long), (G.2.2.1 12, .object "NinthStep$Mule"), (G.2.2.1 13, .object "NinthStep$Shelf")]
def ns_pI (σ : ns_St) (a k : Nat) (v : Int32) : ns_St := (va_up σ.1 a (va_up (σ.1 a) k v), σ.2.1, σ.2.2)
def ns_pJ (σ : ns_St) (a k : Nat) (v : Int64) : ns_St := (σ.1, va_up σ.2.1 a (va_up (σ.2.1 a) k v), σ.2.2)
def ns_pR (σ : ns_St) (a k : Nat) (v : Option Nat) : ns_St := (σ.1, σ.2.1, va_up σ.2.2 a (va_up (σ.2.2 a) k v))
theorem ns_wl_at (G : ns_G) {n : Nat} (σ : ns_St) {a : Nat} (h : a < n) : (ns_wl G n σ)[a]? = some (G.1 + a, ns_cE G σ a) := by
  simp [ns_wl, h]
theorem ns_wl_len (G : ns_G) (n : Nat) (σ : ns_St) : (ns_wl G n σ).length = n := by simp [ns_wl]
theorem ns_wD (G : ns_G) (n : Nat) (σ : ns_St) : va_D (ns_A G) (ns_wl G n σ) := by
  have key : ∀ (k : Nat) (q : Nat × va_E), (ns_wl G n σ)[k]? = some q → q.1 = G.1 + k := by
    intro k q hk
    have hl : k < n := by
      have := (List.getElem?_eq_some_iff.mp hk).1
      rwa [ns_wl_len] at this
    rw [ns_wl_at G σ hl] at hk
    cases hk
    rfl
  refine ⟨fun i j p q hi hj h => ?_, fun k q hk => ?_⟩
  · have h1 := key i p hi
    have h2 := key j q hj
    omega
  · have h1 := key k q hk
    show G.1 ≤ q.1
    omega
/-- one cell has changed -/
theorem ns_set {G : ns_G} {n : Nat} {σ σ' : ns_St} {H H' : Heap} {a : Nat} (hW : ns_Wd G n σ H) (hsz : H'.size = H.size) (hoth : ∀ q, q ≠ G.1 + a → H'[q]? = H[q]?)
    (hnew : va_at G.2.1 ns_cl (G.1 + a, ns_cE G σ' a) H') (hsame : ∀ b, b ≠ a → ns_cE G σ' b = ns_cE G σ b) : ns_Wd G n σ' H' := by
  obtain ⟨h1, h2, h3⟩ := hW
  refine ⟨by rw [hsz]; exact h1, fun k q hk => ?_, fun q hq => by rw [hoth q (by omega)]; exact h3 q hq⟩
  have hl : k < n := by
    have := (List.getElem?_eq_some_iff.mp hk).1
    rwa [ns_wl_len] at this
  rw [ns_wl_at G σ' hl] at hk
  cases hk
  by_cases hka : k = a
  · subst hka; exact hnew
  · have := h2 k _ (ns_wl_at G σ hl)
    rw [hsame k hka]
    exact this.kept (hoth _ (by show G.1 + k ≠ G.1 + a; omega))
/-- a new cell -/
theorem ns_push {G : ns_G} {n : Nat} {σ σ' : ns_St} {H H' : Heap} (hW : ns_Wd G n σ H) (hsz : H'.size = G.1 + n + 1) (hoth : ∀ q, q < G.1 + n → H'[q]? = H[q]?)
    (hnew : va_at G.2.1 ns_cl (G.1 + n, ns_cE G σ' n) H') (hsame : ∀ b, b ≠ n → ns_cE G σ' b = ns_cE G σ b) : ns_Wd G (n + 1) σ' H' := by
  obtain ⟨h1, h2, h3⟩ := hW
  refine ⟨by omega, fun k q hk => ?_, fun q hq => by rw [hoth q (by omega)]; exact h3 q hq⟩
  have hl : k < n + 1 := by
    have := (List.getElem?_eq_some_iff.mp hk).1
    rwa [ns_wl_len] at this
  rw [ns_wl_at G σ' hl] at hk
  cases hk
  by_cases hka : k = n
  · subst hka; exact hnew
  · have := h2 k _ (ns_wl_at G σ (by omega))
    rw [hsame k hka]
    exact this.kept (hoth _ (by show G.1 + k < G.1 + n; omega))
theorem ns_cE_obj (G : ns_G) (σ : ns_St) {a ci : Nat} (h : ns_kd a = ci) (hci : ci < 10) : ns_cE G σ a = .inr (ci, ns_fl G.1 σ a ci) := by
  subst h; simp [ns_cE, hci]
theorem ns_cE_I (G : ns_G) (σ : ns_St) {a : Nat} (h : ns_kd a = 10) : ns_cE G σ a = .inl (G.2.2.1 10, ns_ln a, .inl (σ.1 a)) := by
  simp [ns_cE, h]
theorem ns_cE_J (G : ns_G) (σ : ns_St) {a : Nat} (h : ns_kd a = 11) : ns_cE G σ a = .inl (G.2.2.1 11, ns_ln a, .inr (.inl (σ.2.1 a))) := by
  simp [ns_cE, h]
theorem ns_cE_R (G : ns_G) (σ : ns_St) {a k : Nat} (h : ns_kd a = k) (hk : k = 12 ∨ k = 13) : ns_cE G σ a = .inl (G.2.2.1 k, ns_ln a, .inr (.inr (.inr (.inr (fun k => ns_rf G.1 (σ.2.2 a k)))))) := by
  subst h; rcases hk with hk | hk <;> simp [ns_cE, hk]
theorem ns_fl_at (b : Nat) (σ : ns_St) (a ci k t : Nat) (h : (ns_ft ci)[k]? = some t) : (ns_fl b σ a ci)[k]? = some (ns_fv b σ a k t) := by
  simp [ns_fl, List.getElem?_mapIdx, h]
theorem ns_cE_ne {G : ns_G} {σ σ' : ns_St} {b : Nat} (h1 : σ'.1 b = σ.1 b) (h2 : σ'.2.1 b = σ.2.1 b) (h3 : σ'.2.2 b = σ.2.2 b) : ns_cE G σ' b = ns_cE G σ b := by
  simp only [ns_cE, ns_fl, ns_fv, h1, h2, h3]
theorem ns_pI_ne {G : ns_G} {σ : ns_St} {a k : Nat} {v : Int32} : ∀ b, b ≠ a → ns_cE G (ns_pI σ a k v) b = ns_cE G σ b := fun b h => ns_cE_ne (va_up_ne _ _ h) rfl rfl
theorem ns_pJ_ne {G : ns_G} {σ : ns_St} {a k : Nat} {v : Int64} : ∀ b, b ≠ a → ns_cE G (ns_pJ σ a k v) b = ns_cE G σ b := fun b h => ns_cE_ne rfl (va_up_ne _ _ h) rfl
theorem ns_pR_ne {G : ns_G} {σ : ns_St} {a k : Nat} {v : Option Nat} : ∀ b, b ≠ a → ns_cE G (ns_pR σ a k v) b = ns_cE G σ b := fun b h => ns_cE_ne rfl rfl (va_up_ne _ _ h)
theorem ns_fl_set (b : Nat) {σ σ' : ns_St} (a ci k t : Nat) (h : (ns_ft ci)[k]? = some t) (hne : ∀ j t', j ≠ k → ns_fv b σ' a j t' = ns_fv b σ a j t') : ns_fl b σ' a ci = (ns_fl b σ a ci).set k (ns_fv b σ' a k t) := by
  apply List.ext_getElem?
  intro j
  rw [List.getElem?_set]
  by_cases hj : k = j
  · subst hj
    rw [ns_fl_at b σ' a ci k t h]
    have hl : k < (ns_fl b σ a ci).length := (List.getElem?_eq_some_iff.mp (ns_fl_at b σ a ci k t h)).1
    simp [hl]
  · rw [if_neg hj]
    simp only [ns_fl, List.getElem?_mapIdx]
    cases (ns_ft ci)[j]? with
    | none => rfl
    | some t' => simp [hne j t' (Ne.symm hj)]
theorem ns_fl_pI (b : Nat) (σ : ns_St) (a ci k : Nat) (v : Int32) (h : (ns_ft ci)[k]? = some 0) : ns_fl b (ns_pI σ a k v) a ci = (ns_fl b σ a ci).set k (.int v) := by
  have := ns_fl_set b (σ := σ) (σ' := ns_pI σ a k v) a ci k 0 h (fun j t' hj => by simp [ns_fv, ns_pI, va_up, hj])
  rw [this]
  simp [ns_fv, ns_pI, va_up]
theorem ns_fl_pJ (b : Nat) (σ : ns_St) (a ci k : Nat) (v : Int64) (h : (ns_ft ci)[k]? = some 1) : ns_fl b (ns_pJ σ a k v) a ci = (ns_fl b σ a ci).set k (.long v) := by
  have := ns_fl_set b (σ := σ) (σ' := ns_pJ σ a k v) a ci k 1 h (fun j t' hj => by simp [ns_fv, ns_pJ, va_up, hj])
  rw [this]
  simp [ns_fv, ns_pJ, va_up]
theorem ns_fl_pR (b : Nat) (σ : ns_St) (a ci k : Nat) (v : Option Nat) (h : (ns_ft ci)[k]? = some 2) : ns_fl b (ns_pR σ a k v) a ci = (ns_fl b σ a ci).set k (va_rf (ns_rf b v)) := by
  have := ns_fl_set b (σ := σ) (σ' := ns_pR σ a k v) a ci k 2 h (fun j t' hj => by simp [ns_fv, ns_pR, va_up, hj])
  rw [this]
  simp [ns_fv, ns_pR, va_up]
def ns_isNest (w : Cond) : Bool := match w with
  | .fieldLinkNest .. => true
  | .methodLinkNest .. => true
  | _ => false
def ns_TB : List Cond := lw_tbl.filter goodWord
def ns_NB : List Cond := lw_tbl.filter ns_isNest
theorem ns_tb {w : Cond} (h : w ∈ tables_1) (hg : goodWord w = true) : w ∈ ns_TB := List.mem_filter.mpr ⟨List.mem_append_right _ h, hg⟩
theorem ns_tbS {w : Cond} (h : w ∈ k2_sels lw_privs) (hg : goodWord w = true) : w ∈ ns_TB := List.mem_filter.mpr ⟨List.mem_append_left _ h, hg⟩
theorem ns_nb {w : Cond} (h : w ∈ tables_1) (hg : ns_isNest w = true) : w ∈ ns_NB := List.mem_filter.mpr ⟨List.mem_append_right _ h, hg⟩
/-- what stays so in every state: the classes, the nest mates' links -/
def ns_K (G : ns_G) (U : State) : Prop := va_K G.2.1 ns_cl (ns_tys G) U ∧ (∀ w ∈ ns_NB, va_Nw w U) ∧ va_AO "NinthStep$Mule" U ∧ va_AO "NinthStep$Shelf" U
theorem ns_K.warm {G : ns_G} {s U : State} (hW : s.WarmedH U.vm) (h : ns_K G s) : ns_K G U := by
  refine ⟨va_K.moved hW.alike h.1, fun w hw => ?_, va_AO.moved hW.alike h.2.2.1, va_AO.moved hW.alike h.2.2.2⟩
  have h1 := h.2.1 w hw
  have h2 := (List.mem_filter.mp hw).2
  cases w with
  | fieldLinkNest a i b n d hh => exact va_Nw.warmF hW h1
  | methodLinkNest a i x hh => exact va_Nw.warmM hW h1
  | _ => cases h2
theorem ns_K.same {G : ns_G} {s U : State} (hvm : s.vm = U.vm) (h : ns_K G s) : ns_K G U := by
  have ha : s.vm.Alike U.vm := by rw [hvm]; exact Vm.Alike.refl _
  refine ⟨va_K.moved ha h.1, fun w hw => ?_, va_AO.moved ha h.2.2.1, va_AO.moved ha h.2.2.2⟩
  have h1 := h.2.1 w hw
  have h2 := (List.mem_filter.mp hw).2
  cases w with
  | fieldLinkNest a i b n d hh => exact va_Nw.same rfl hvm h1
  | methodLinkNest a i x hh => exact va_Nw.same rfl hvm h1
  | _ => cases h2
def ns_Cx (G : ns_G) (p : Program) (s : State) (m : MethodId) (args : Array Value) (meth : Method) (c : Code) (cc : ByteArray) (own : String) (nL : Nat) : Prop :=
  p.tables.exec = Jvm.exec ∧ c.code = cc ∧ c.maxLocals = nL ∧ s.vm.findClass own = some m.cls ∧ (∀ w ∈ ns_TB, w.before args s = true) ∧ ns_K G s ∧ meth.locks = false
/-- the machine, at pc with these locals and this stack, the memory σ of n cells in the heap, comes to Q -/
def VV (G : ns_G) (p : Program) (l : Launch) (e : Env) (R : Room) (s : State) (m : MethodId) (args : Array Value) (below : List Frame) (meth : Method) (c : Code) (nL cells slots : Nat) (Q : State → Prop) (n : Nat) (σ : ns_St) (pc : Nat) (lv : List (Nat × Value)) (st : List Value) : Prop :=
  ∀ (H : Heap) (locs : List Loc) (ls : Array Slot), ns_Wd G n σ H → va_S (ns_A G) s.heap H locs → lv_has ls nL lv → W p l e R s m args below meth c H locs cells slots Q (F0 m pc ls st)
def ns_Qc (G : ns_G) (o : Option Value) (n : Nat) (σ : ns_St) : Array Value → State → Outcome → State → Prop := fun _ st oc t => oc = .returned o ∧ ns_Wd G n σ t.heap ∧ va_F (ns_A G) st t
/-- a method's contract: with these arguments, in this memory, it answers o and leaves that memory -/
def ns_ok (G : ns_G) (l : Launch) (y : MethodName) (cc : ByteArray) (maxL : Nat) (ret : Option FieldType) (fr lo mc ms : Nat) (av : List Value) (n : Nat) (σ : ns_St) (o : Option Value) (n' : Nat) (σ' : ns_St) : Prop :=
  Met l y (.code y cc maxL ret :: ns_TB) { frames := fr, cells := mc, slots := ms, locals := lo } (va_Pc av (fun U => ns_Wd G n σ U.heap ∧ ns_K G U)) (ns_Qc G o n' σ') mc ms (ns_A G)
def bnd {α β : Type} (v : α) (f : α → Option β) : Option β := f v
theorem bnd_e {α β : Type} {v : α} {f : α → Option β} {r : Option β} (h : bnd v f = r) : ∃ x, x = v ∧ f x = r := ⟨v, rfl, h⟩
def grd {β : Type} (c : Prop) [Decidable c] (f : Option β) : Option β := if c then f else none
theorem grd_e {β : Type} {c : Prop} [Decidable c] {f : Option β} {r : β} (h : grd c f = some r) : c ∧ f = some r := by
  unfold grd at h
  by_cases hc : c
  · rw [if_pos hc] at h; exact ⟨hc, h⟩
  · rw [if_neg hc] at h; cases h
def drf {β : Type} (x : Option Nat) (f : Nat → Option β) : Option β := x.bind f
theorem drf_e {β : Type} {x : Option Nat} {f : Nat → Option β} {r : β} (h : drf x f = some r) : ∃ b, x = some b ∧ f b = some r := Option.bind_eq_some_iff.mp h
def cll {α β : Type} (x : Option α) (f : α → Option β) : Option β := x.bind f
theorem cll_e {α β : Type} {x : Option α} {f : α → Option β} {r : β} (h : cll x f = some r) : ∃ b, x = some b ∧ f b = some r := Option.bind_eq_some_iff.mp h
def onul {β : Type} (x : Option Nat) (a : Option β) (f : Nat → Option β) : Option β := match x with
  | none => a
  | some b => f b
def ite2 {β : Type} (c : Prop) [Decidable c] (a b : Option β) : Option β := if c then a else b
theorem ite2_t {β : Type} {c : Prop} [Decidable c] {a b r : Option β} (h : ite2 c a b = r) (hc : c) : a = r := by rw [ite2, if_pos hc] at h; exact h
theorem ite2_f {β : Type} {c : Prop} [Decidable c] {a b r : Option β} (h : ite2 c a b = r) (hc : ¬ c) : b = r := by rw [ite2, if_neg hc] at h; exact h
abbrev ns_ix (i : Int32) : Nat := i.toNatClampNeg
abbrev ns_in (i : Int32) (n : Nat) : Prop := ¬ (i < 0 ∨ n ≤ i.toNatClampNeg)
def ns_F : Nat := 10000
def cl2 {α β : Type} (x : Option (α × ns_St)) (f : α → ns_St → Option β) : Option β := x.bind (fun q => f q.1 q.2)
theorem cl2_e {α β : Type} {x : Option (α × ns_St)} {f : α → ns_St → Option β} {r : β} (h : cl2 x f = some r) : ∃ a b, x = some (a, b) ∧ f a b = some r := by
  obtain ⟨q, h1, h2⟩ := Option.bind_eq_some_iff.mp h
  exact ⟨q.1, q.2, h1, h2⟩
theorem onul_n {β : Type} {a : Option β} {f : Nat → Option β} {r : Option β} (h : onul none a f = r) : a = r := h
theorem onul_s {β : Type} {b : Nat} {a : Option β} {f : Nat → Option β} {r : Option β} (h : onul (some b) a f = r) : f b = r := h
theorem ns_z01 {x : Int32} (h : x = 0 ∨ x = 1) : narrow .boolean (.int x) = .int x := by rcases h with rfl | rfl <;> rfl
theorem ns_out (x : Int32) (lo hi : Int) (h : ∀ k : Int, lo ≤ k → k ≤ hi → ¬ x = Int32.ofInt k) : x.toInt < lo ∨ hi < x.toInt := by
  rcases Int.lt_or_le x.toInt lo with h1 | h1
  · exact Or.inl h1
  · rcases Int.lt_or_le hi x.toInt with h2 | h2
    · exact Or.inr h2
    · exact absurd (by simp) (h x.toInt h1 h2)
theorem nin_0 : ∀ w ∈ u_ws nR_0 nT_0 2, w ∈ ns_TB := by decide +kernel
theorem nin_1 : ∀ w ∈ u_ws nR_1 nT_1 5, w ∈ ns_TB := by decide +kernel
theorem nin_2 : ∀ w ∈ u_ws nR_2 nT_2 8, w ∈ ns_TB := by decide +kernel
theorem nin_3 : ∀ w ∈ u_ws nR_3 nT_3 3, w ∈ ns_TB := by decide +kernel
theorem nin_4 : ∀ w ∈ u_ws nR_4 nT_4 10, w ∈ ns_TB := by decide +kernel
theorem nin_5 : ∀ w ∈ u_ws nR_5 nT_5 6, w ∈ ns_TB := by decide +kernel
theorem nin_6 : ∀ w ∈ u_ws nR_6 nT_6 6, w ∈ ns_TB := by decide +kernel
theorem nin_7 : ∀ w ∈ u_ws nR_7 nT_7 6, w ∈ ns_TB := by decide +kernel
theorem nin_8 : ∀ w ∈ u_ws nR_8 nT_8 12, w ∈ ns_TB := by decide +kernel
theorem nin_9 : ∀ w ∈ u_ws nR_9 nT_9 31, w ∈ ns_TB := by decide +kernel
theorem mt_1 {w : Cond} (h : w ∈ tables_1_1) : w ∈ tables_1 := List.mem_append_left _ h
theorem mt_2 {w : Cond} (h : w ∈ tables_1_2) : w ∈ tables_1 := List.mem_append_right _ (List.mem_append_left _ h)
theorem mt_3 {w : Cond} (h : w ∈ tables_1_3) : w ∈ tables_1 := List.mem_append_right _ (List.mem_append_right _ (List.mem_append_left _ h))
theorem mt_4 {w : Cond} (h : w ∈ tables_1_4) : w ∈ tables_1 := List.mem_append_right _ (List.mem_append_right _ (List.mem_append_right _ (List.mem_append_left _ h)))
theorem mt_5 {w : Cond} (h : w ∈ tables_1_5) : w ∈ tables_1 := List.mem_append_right _ (List.mem_append_right _ (List.mem_append_right _ (List.mem_append_right _ (List.mem_append_left _ h))))
theorem mt_6 {w : Cond} (h : w ∈ tables_1_6) : w ∈ tables_1 := List.mem_append_right _ (List.mem_append_right _ (List.mem_append_right _ (List.mem_append_right _ (List.mem_append_right _ (h)))))
end
section
section ROWS
variable {G : ns_G} {p : Program} {l : Launch} {e : Env} {R : Room} {s : State} {m : MethodId} {args : Array Value} {below : List Frame} {meth : Method} {c : Code} {cc : ByteArray} {own : String} {nL cells slots : Nat} {Q : State → Prop} {n : Nat} {σ : ns_St} {pc : Nat} {lv : List (Nat × Value)} {st : List Value}
theorem v_open {y : MethodName} {maxL : Nat} {ret : Option FieldType} {fr lo mc ms : Nat} {av : List Value} {o : Option Value} {n' : Nat} {σ' : ns_St} {lv : List (Nat × Value)} (hy : plainName y.cls = true) (hlen : (lg_sl av).length ≤ maxL) (hlv : lv_args 0 av = lv)
    (body : ∀ (p : Program) (e : Env) (s : State) (m : MethodId) (below : List Frame) (meth : Method) (c : Code), ns_Cx G p s m av.toArray meth c cc y.cls maxL → meth.sig.returnType = ret → meth.name = y.name →
      VV G p l e { frames := fr, cells := mc, slots := ms, locals := lo } s m av.toArray below meth c maxL 0 0 (MQ below (ns_Qc G o n' σ') av.toArray s mc ms (ns_A G)) n σ 0 lv []) : ns_ok G l y cc maxL ret fr lo mc ms av n σ o n' σ' := by
  refine Met.ofW (cc := cc) (maxL := maxL) (ret := ret) hy rfl ?_
  intro p e s m args below meth c s₁ B hml hv
  obtain ⟨rfl, hWd, hK⟩ := hv
  have hts := atoms_spec (ws := (.code y cc maxL ret :: ns_TB)) B.pre
  have hl := lv_entry av (n := maxL) hlen
  rw [hlv] at hl
  rw [lg_entry_eq]
  exact body p e s m below meth c ⟨B.exec, B.bytes, hml, findClass_of_methodNamed B.named, fun w hw => hts w (List.mem_cons_of_mem _ hw), hK, B.notSynchronized⟩ B.returns (name_of_methodNamed B.named B.method).1 s.heap [] _ hWd va_S.rf hl
theorem v_openF {y : MethodName} {maxL : Nat} {ret : Option FieldType} {fr lo mc ms : Nat} {av : List Value} {o : Option Value} {n' : Nat} {σ' : ns_St} {lv : List (Nat × Value)} (hy : plainFor y = true) (hlen : (lg_sl av).length ≤ maxL) (hlv : lv_args 0 av = lv)
    (body : ∀ (p : Program) (e : Env) (s : State) (m : MethodId) (below : List Frame) (meth : Method) (c : Code), ns_Cx G p s m av.toArray meth c cc y.cls maxL → meth.sig.returnType = ret → meth.name = y.name →
      VV G p l e { frames := fr, cells := mc, slots := ms, locals := lo } s m av.toArray below meth c maxL 0 0 (MQ below (ns_Qc G o n' σ') av.toArray s mc ms (ns_A G)) n σ 0 lv []) : ns_ok G l y cc maxL ret fr lo mc ms av n σ o n' σ' := by
  refine va_MetF (cc := cc) (maxL := maxL) (ret := ret) hy rfl ?_
  intro p e s m args below meth c s₁ B hml hv
  obtain ⟨rfl, hWd, hK⟩ := hv
  have hts := atoms_spec (ws := (.code y cc maxL ret :: ns_TB)) B.pre
  have hl := lv_entry av (n := maxL) hlen
  rw [hlv] at hl
  rw [lg_entry_eq]
  exact body p e s m below meth c ⟨B.exec, B.bytes, hml, findClass_of_methodNamed B.named, fun w hw => hts w (List.mem_cons_of_mem _ hw), hK, B.notSynchronized⟩ B.returns (name_of_methodNamed B.named B.method).1 s.heap [] _ hWd va_S.rf hl
theorem v_sub {lv' : List (Nat × Value)} (ks : List Nat) (hl : lv_pick lv ks = lv') (k : VV G p l e R s m args below meth c nL cells slots Q n σ pc lv' st) : VV G p l e R s m args below meth c nL cells slots Q n σ pc lv st :=
  fun H locs ls a b d => k H locs ls a b (lv_sub d ks hl)
theorem v_nmI {x y : Int32} (h : y = x) (k : VV G p l e R s m args below meth c nL cells slots Q n σ pc lv (.int y :: st)) : VV G p l e R s m args below meth c nL cells slots Q n σ pc lv (.int x :: st) := h ▸ k
theorem v_nmJ {x y : Int64} (h : y = x) (k : VV G p l e R s m args below meth c nL cells slots Q n σ pc lv (.long y :: st)) : VV G p l e R s m args below meth c nL cells slots Q n σ pc lv (.long x :: st) := h ▸ k
theorem v_iconst (C : ns_Cx G p s m args meth c cc own nL) (i : Int) (x : Int32) (hx : Int32.ofInt i = x) (pc' : Nat) (hp : pc + 1 = pc') (hd : decode cc pc = .ok (.iconst i, 1)) (k : VV G p l e R s m args below meth c nL cells slots Q n σ pc' lv (.int x :: st)) : VV G p l e R s m args below meth c nL cells slots Q n σ pc lv st := by
  subst hp; exact fun H locs ls a b d => lv_iconst C.1 C.2.1 hd hx (k H locs ls a b d)
theorem v_bipush (C : ns_Cx G p s m args meth c cc own nL) (i : Int) (x : Int32) (hx : (Int8.ofInt i).toInt32 = x) (pc' : Nat) (hp : pc + 2 = pc') (hd : decode cc pc = .ok (.bipush i, 2)) (k : VV G p l e R s m args below meth c nL cells slots Q n σ pc' lv (.int x :: st)) : VV G p l e R s m args below meth c nL cells slots Q n σ pc lv st := by
  subst hp; exact fun H locs ls a b d => lv_bipush C.1 C.2.1 hd hx (k H locs ls a b d)
theorem v_sipush (C : ns_Cx G p s m args meth c cc own nL) (i : Int) (x : Int32) (hx : (Int16.ofInt i).toInt32 = x) (pc' : Nat) (hp : pc + 3 = pc') (hd : decode cc pc = .ok (.sipush i, 3)) (k : VV G p l e R s m args below meth c nL cells slots Q n σ pc' lv (.int x :: st)) : VV G p l e R s m args below meth c nL cells slots Q n σ pc lv st := by
  subst hp; exact fun H locs ls a b d => lv_sipush C.1 C.2.1 hd hx (k H locs ls a b d)
theorem v_lconst (C : ns_Cx G p s m args meth c cc own nL) (i : Fin 2) (x : Int64) (hx : Int64.ofNat (i : Nat) = x) (pc' : Nat) (hp : pc + 1 = pc') (hd : decode cc pc = .ok (.lconst i, 1)) (k : VV G p l e R s m args below meth c nL cells slots Q n σ pc' lv (.long x :: st)) : VV G p l e R s m args below meth c nL cells slots Q n σ pc lv st := by
  subst hp; exact fun H locs ls a b d => lv_lconst C.1 C.2.1 hd hx (k H locs ls a b d)
theorem v_ldc (C : ns_Cx G p s m args meth c cc own nL) (i : Nat) (x : Int32) (hw : Jvm.Cond.constant own i x ∈ ns_TB) (pc' : Nat) (hp : pc + 2 = pc') (hd : decode cc pc = .ok (.ldc i, 2)) (k : VV G p l e R s m args below meth c nL cells slots Q n σ pc' lv (.int x :: st)) : VV G p l e R s m args below meth c nL cells slots Q n σ pc lv st := by
  subst hp; exact fun H locs ls a b d => lv_ldc C.1 C.2.1 C.2.2.2.1 (C.2.2.2.2.1 _ hw) hd (k H locs ls a b d)
theorem v_ldcw (C : ns_Cx G p s m args meth c cc own nL) (i : Nat) (x : Int32) (hw : Jvm.Cond.constant own i x ∈ ns_TB) (pc' : Nat) (hp : pc + 3 = pc') (hd : decode cc pc = .ok (.ldc_w i, 3)) (k : VV G p l e R s m args below meth c nL cells slots Q n σ pc' lv (.int x :: st)) : VV G p l e R s m args below meth c nL cells slots Q n σ pc lv st := by
  subst hp; exact fun H locs ls a b d => lv_ldcw C.1 C.2.1 C.2.2.2.1 (C.2.2.2.2.1 _ hw) hd (k H locs ls a b d)
theorem v_ldc2 (C : ns_Cx G p s m args meth c cc own nL) (i : Nat) (x : Int64) (hw : Jvm.Cond.constantLong own i x ∈ ns_TB) (pc' : Nat) (hp : pc + 3 = pc') (hd : decode cc pc = .ok (.ldc2_w i, 3)) (k : VV G p l e R s m args below meth c nL cells slots Q n σ pc' lv (.long x :: st)) : VV G p l e R s m args below meth c nL cells slots Q n σ pc lv st := by
  subst hp; exact fun H locs ls a b d => lv_ldc2 C.1 C.2.1 C.2.2.2.1 (C.2.2.2.2.1 _ hw) hd (k H locs ls a b d)
theorem v_null (C : ns_Cx G p s m args meth c cc own nL) (pc' : Nat) (hp : pc + 1 = pc') (hd : decode cc pc = .ok (.aconst_null, 1)) (k : VV G p l e R s m args below meth c nL cells slots Q n σ pc' lv (.null :: st)) : VV G p l e R s m args below meth c nL cells slots Q n σ pc lv st := by
  subst hp; exact fun H locs ls a b d => lv_null C.1 C.2.1 hd (k H locs ls a b d)
theorem v_iload_n (C : ns_Cx G p s m args meth c cc own nL) (i : Fin 4) (q : Nat) {x : Int32} (hl : lv[q]? = some ((i : Nat), .int x)) (pc' : Nat) (hp : pc + 1 = pc') (hd : decode cc pc = .ok (.iload_n i, 1)) (k : VV G p l e R s m args below meth c nL cells slots Q n σ pc' lv (.int x :: st)) : VV G p l e R s m args below meth c nL cells slots Q n σ pc lv st := by
  subst hp; exact fun H locs ls a b d => lv_iload_n C.1 C.2.1 hd rfl (lv_at d q hl) (k H locs ls a b d)
theorem v_iload (C : ns_Cx G p s m args meth c cc own nL) (i : Nat) (q : Nat) {x : Int32} (hl : lv[q]? = some (i, .int x)) (pc' : Nat) (hp : pc + 2 = pc') (hd : decode cc pc = .ok (.iload i, 2)) (k : VV G p l e R s m args below meth c nL cells slots Q n σ pc' lv (.int x :: st)) : VV G p l e R s m args below meth c nL cells slots Q n σ pc lv st := by
  subst hp; exact fun H locs ls a b d => lv_iload C.1 C.2.1 hd (lv_at d q hl) (k H locs ls a b d)
theorem v_lload_n (C : ns_Cx G p s m args meth c cc own nL) (i : Fin 4) (q : Nat) {x : Int64} (hl : lv[q]? = some ((i : Nat), .long x)) (pc' : Nat) (hp : pc + 1 = pc') (hd : decode cc pc = .ok (.lload_n i, 1)) (k : VV G p l e R s m args below meth c nL cells slots Q n σ pc' lv (.long x :: st)) : VV G p l e R s m args below meth c nL cells slots Q n σ pc lv st := by
  subst hp; exact fun H locs ls a b d => lv_lload_n C.1 C.2.1 hd rfl (lv_at d q hl) (k H locs ls a b d)
theorem v_lload (C : ns_Cx G p s m args meth c cc own nL) (i : Nat) (q : Nat) {x : Int64} (hl : lv[q]? = some (i, .long x)) (pc' : Nat) (hp : pc + 2 = pc') (hd : decode cc pc = .ok (.lload i, 2)) (k : VV G p l e R s m args below meth c nL cells slots Q n σ pc' lv (.long x :: st)) : VV G p l e R s m args below meth c nL cells slots Q n σ pc lv st := by
  subst hp; exact fun H locs ls a b d => lv_lload C.1 C.2.1 hd (lv_at d q hl) (k H locs ls a b d)
theorem v_aload_n (C : ns_Cx G p s m args meth c cc own nL) (i : Fin 4) (q : Nat) {x : Nat} (hl : lv[q]? = some ((i : Nat), .ref x)) (pc' : Nat) (hp : pc + 1 = pc') (hd : decode cc pc = .ok (.aload_n i, 1)) (k : VV G p l e R s m args below meth c nL cells slots Q n σ pc' lv (.ref x :: st)) : VV G p l e R s m args below meth c nL cells slots Q n σ pc lv st := by
  subst hp; exact fun H locs ls a b d => lv_aload_n C.1 C.2.1 hd rfl (lv_at d q hl) (k H locs ls a b d)
theorem v_aload_nN (C : ns_Cx G p s m args meth c cc own nL) (i : Fin 4) (q : Nat) (hl : lv[q]? = some ((i : Nat), .null)) (pc' : Nat) (hp : pc + 1 = pc') (hd : decode cc pc = .ok (.aload_n i, 1)) (k : VV G p l e R s m args below meth c nL cells slots Q n σ pc' lv (.null :: st)) : VV G p l e R s m args below meth c nL cells slots Q n σ pc lv st := by
  subst hp; exact fun H locs ls a b d => lv_aload_nN C.1 C.2.1 hd rfl (lv_at d q hl) (k H locs ls a b d)
theorem v_aload (C : ns_Cx G p s m args meth c cc own nL) (i : Nat) (q : Nat) {x : Nat} (hl : lv[q]? = some (i, .ref x)) (pc' : Nat) (hp : pc + 2 = pc') (hd : decode cc pc = .ok (.aload i, 2)) (k : VV G p l e R s m args below meth c nL cells slots Q n σ pc' lv (.ref x :: st)) : VV G p l e R s m args below meth c nL cells slots Q n σ pc lv st := by
  subst hp; exact fun H locs ls a b d => lv_aload C.1 C.2.1 hd (lv_at d q hl) (k H locs ls a b d)
theorem v_aloadN (C : ns_Cx G p s m args meth c cc own nL) (i : Nat) (q : Nat) (hl : lv[q]? = some (i, .null)) (pc' : Nat) (hp : pc + 2 = pc') (hd : decode cc pc = .ok (.aload i, 2)) (k : VV G p l e R s m args below meth c nL cells slots Q n σ pc' lv (.null :: st)) : VV G p l e R s m args below meth c nL cells slots Q n σ pc lv st := by
  subst hp; exact fun H locs ls a b d => lv_aloadN C.1 C.2.1 hd (lv_at d q hl) (k H locs ls a b d)
theorem v_istore_n (C : ns_Cx G p s m args meth c cc own nL) (i : Fin 4) {x : Int32} (lv' : List (Nat × Value)) (hn : (i : Nat) < nL) (hl : ((i : Nat), Value.int x) :: lv.filter (fun q => !(q.1 == (i : Nat)) && !(q.1 + 1 == (i : Nat) && q.2.category == 2)) = lv') (pc' : Nat) (hp : pc + 1 = pc') (hd : decode cc pc = .ok (.istore_n i, 1)) (k : VV G p l e R s m args below meth c nL cells slots Q n σ pc' lv' st) : VV G p l e R s m args below meth c nL cells slots Q n σ pc lv (.int x :: st) := by
  subst hp; exact fun H locs ls a b d => lv_istore_n C.1 C.2.1 hd rfl d hn hl (fun ls' d' => k H locs ls' a b d')
theorem v_istore (C : ns_Cx G p s m args meth c cc own nL) (i : Nat) {x : Int32} (lv' : List (Nat × Value)) (hn : i < nL) (hl : (i, Value.int x) :: lv.filter (fun q => !(q.1 == i) && !(q.1 + 1 == i && q.2.category == 2)) = lv') (pc' : Nat) (hp : pc + 2 = pc') (hd : decode cc pc = .ok (.istore i, 2)) (k : VV G p l e R s m args below meth c nL cells slots Q n σ pc' lv' st) : VV G p l e R s m args below meth c nL cells slots Q n σ pc lv (.int x :: st) := by
  subst hp; exact fun H locs ls a b d => lv_istore C.1 C.2.1 hd d hn hl (fun ls' d' => k H locs ls' a b d')
theorem v_lstore_n (C : ns_Cx G p s m args meth c cc own nL) (i : Fin 4) {x : Int64} (lv' : List (Nat × Value)) (hn : (i : Nat) + 1 < nL) (hl : ((i : Nat), Value.long x) :: lv.filter (fun q => !(q.1 == (i : Nat)) && (!(q.1 == (i : Nat) + 1) && !(q.1 + 1 == (i : Nat) && q.2.category == 2))) = lv') (pc' : Nat) (hp : pc + 1 = pc') (hd : decode cc pc = .ok (.lstore_n i, 1)) (k : VV G p l e R s m args below meth c nL cells slots Q n σ pc' lv' st) : VV G p l e R s m args below meth c nL cells slots Q n σ pc lv (.long x :: st) := by
  subst hp; exact fun H locs ls a b d => lv_lstore_n C.1 C.2.1 hd rfl d hn hl (fun ls' d' => k H locs ls' a b d')
theorem v_lstore (C : ns_Cx G p s m args meth c cc own nL) (i : Nat) {x : Int64} (lv' : List (Nat × Value)) (hn : i + 1 < nL) (hl : (i, Value.long x) :: lv.filter (fun q => !(q.1 == i) && (!(q.1 == i + 1) && !(q.1 + 1 == i && q.2.category == 2))) = lv') (pc' : Nat) (hp : pc + 2 = pc') (hd : decode cc pc = .ok (.lstore i, 2)) (k : VV G p l e R s m args below meth c nL cells slots Q n σ pc' lv' st) : VV G p l e R s m args below meth c nL cells slots Q n σ pc lv (.long x :: st) := by
  subst hp; exact fun H locs ls a b d => lv_lstore C.1 C.2.1 hd d hn hl (fun ls' d' => k H locs ls' a b d')
theorem v_astore_n (C : ns_Cx G p s m args meth c cc own nL) (i : Fin 4) {x : Nat} (lv' : List (Nat × Value)) (hn : (i : Nat) < nL) (hl : ((i : Nat), Value.ref x) :: lv.filter (fun q => !(q.1 == (i : Nat)) && !(q.1 + 1 == (i : Nat) && q.2.category == 2)) = lv') (pc' : Nat) (hp : pc + 1 = pc') (hd : decode cc pc = .ok (.astore_n i, 1)) (k : VV G p l e R s m args below meth c nL cells slots Q n σ pc' lv' st) : VV G p l e R s m args below meth c nL cells slots Q n σ pc lv (.ref x :: st) := by
  subst hp; exact fun H locs ls a b d => lv_astore_n C.1 C.2.1 hd rfl d hn hl (fun ls' d' => k H locs ls' a b d')
theorem v_astore_nN (C : ns_Cx G p s m args meth c cc own nL) (i : Fin 4) (lv' : List (Nat × Value)) (hn : (i : Nat) < nL) (hl : ((i : Nat), Value.null) :: lv.filter (fun q => !(q.1 == (i : Nat)) && !(q.1 + 1 == (i : Nat) && q.2.category == 2)) = lv') (pc' : Nat) (hp : pc + 1 = pc') (hd : decode cc pc = .ok (.astore_n i, 1)) (k : VV G p l e R s m args below meth c nL cells slots Q n σ pc' lv' st) : VV G p l e R s m args below meth c nL cells slots Q n σ pc lv (.null :: st) := by
  subst hp; exact fun H locs ls a b d => lv_astore_nN C.1 C.2.1 hd rfl d hn hl (fun ls' d' => k H locs ls' a b d')
theorem v_astore (C : ns_Cx G p s m args meth c cc own nL) (i : Nat) {x : Nat} (lv' : List (Nat × Value)) (hn : i < nL) (hl : (i, Value.ref x) :: lv.filter (fun q => !(q.1 == i) && !(q.1 + 1 == i && q.2.category == 2)) = lv') (pc' : Nat) (hp : pc + 2 = pc') (hd : decode cc pc = .ok (.astore i, 2)) (k : VV G p l e R s m args below meth c nL cells slots Q n σ pc' lv' st) : VV G p l e R s m args below meth c nL cells slots Q n σ pc lv (.ref x :: st) := by
  subst hp; exact fun H locs ls a b d => lv_astore C.1 C.2.1 hd d hn hl (fun ls' d' => k H locs ls' a b d')
theorem v_astoreN (C : ns_Cx G p s m args meth c cc own nL) (i : Nat) (lv' : List (Nat × Value)) (hn : i < nL) (hl : (i, Value.null) :: lv.filter (fun q => !(q.1 == i) && !(q.1 + 1 == i && q.2.category == 2)) = lv') (pc' : Nat) (hp : pc + 2 = pc') (hd : decode cc pc = .ok (.astore i, 2)) (k : VV G p l e R s m args below meth c nL cells slots Q n σ pc' lv' st) : VV G p l e R s m args below meth c nL cells slots Q n σ pc lv (.null :: st) := by
  subst hp; exact fun H locs ls a b d => lv_astoreN C.1 C.2.1 hd d hn hl (fun ls' d' => k H locs ls' a b d')
theorem v_iinc (C : ns_Cx G p s m args meth c cc own nL) (i : Nat) (dx : Int) (q : Nat) {x : Int32} (y : Int32) (hk : lv[q]? = some (i, .int x)) (hv : y = x + Int32.ofInt dx) (lv' : List (Nat × Value)) (hn : i < nL) (hl : (i, Value.int y) :: lv.filter (fun q => !(q.1 == i) && !(q.1 + 1 == i && q.2.category == 2)) = lv') (pc' : Nat) (hp : pc + 3 = pc') (hd : decode cc pc = .ok (.iinc i dx, 3)) (k : VV G p l e R s m args below meth c nL cells slots Q n σ pc' lv' st) : VV G p l e R s m args below meth c nL cells slots Q n σ pc lv st := by
  subst hp; exact fun H locs ls a b d => lv_iinc C.1 C.2.1 hd d hk hv.symm hn hl (fun ls' d' => k H locs ls' a b d')
theorem v_iadd (C : ns_Cx G p s m args meth c cc own nL) {x : Int32} {y : Int32} (pc' : Nat) (hp : pc + 1 = pc') (hd : decode cc pc = .ok (.iadd, 1)) (k : VV G p l e R s m args below meth c nL cells slots Q n σ pc' lv (.int (x + y) :: st)) : VV G p l e R s m args below meth c nL cells slots Q n σ pc lv (.int y :: .int x :: st) := by
  subst hp; exact fun H locs ls a b d => lv_iadd C.1 C.2.1 hd (k H locs ls a b d)
theorem v_isub (C : ns_Cx G p s m args meth c cc own nL) {x : Int32} {y : Int32} (pc' : Nat) (hp : pc + 1 = pc') (hd : decode cc pc = .ok (.isub, 1)) (k : VV G p l e R s m args below meth c nL cells slots Q n σ pc' lv (.int (x - y) :: st)) : VV G p l e R s m args below meth c nL cells slots Q n σ pc lv (.int y :: .int x :: st) := by
  subst hp; exact fun H locs ls a b d => lv_isub C.1 C.2.1 hd (k H locs ls a b d)
theorem v_imul (C : ns_Cx G p s m args meth c cc own nL) {x : Int32} {y : Int32} (pc' : Nat) (hp : pc + 1 = pc') (hd : decode cc pc = .ok (.imul, 1)) (k : VV G p l e R s m args below meth c nL cells slots Q n σ pc' lv (.int (x * y) :: st)) : VV G p l e R s m args below meth c nL cells slots Q n σ pc lv (.int y :: .int x :: st) := by
  subst hp; exact fun H locs ls a b d => lv_imul C.1 C.2.1 hd (k H locs ls a b d)
theorem v_iand (C : ns_Cx G p s m args meth c cc own nL) {x : Int32} {y : Int32} (pc' : Nat) (hp : pc + 1 = pc') (hd : decode cc pc = .ok (.iand, 1)) (k : VV G p l e R s m args below meth c nL cells slots Q n σ pc' lv (.int (x &&& y) :: st)) : VV G p l e R s m args below meth c nL cells slots Q n σ pc lv (.int y :: .int x :: st) := by
  subst hp; exact fun H locs ls a b d => lv_iand C.1 C.2.1 hd (k H locs ls a b d)
theorem v_ior (C : ns_Cx G p s m args meth c cc own nL) {x : Int32} {y : Int32} (pc' : Nat) (hp : pc + 1 = pc') (hd : decode cc pc = .ok (.ior, 1)) (k : VV G p l e R s m args below meth c nL cells slots Q n σ pc' lv (.int (x ||| y) :: st)) : VV G p l e R s m args below meth c nL cells slots Q n σ pc lv (.int y :: .int x :: st) := by
  subst hp; exact fun H locs ls a b d => lv_ior C.1 C.2.1 hd (k H locs ls a b d)
theorem v_ixor (C : ns_Cx G p s m args meth c cc own nL) {x : Int32} {y : Int32} (pc' : Nat) (hp : pc + 1 = pc') (hd : decode cc pc = .ok (.ixor, 1)) (k : VV G p l e R s m args below meth c nL cells slots Q n σ pc' lv (.int (x ^^^ y) :: st)) : VV G p l e R s m args below meth c nL cells slots Q n σ pc lv (.int y :: .int x :: st) := by
  subst hp; exact fun H locs ls a b d => lv_ixor C.1 C.2.1 hd (k H locs ls a b d)
theorem v_ladd (C : ns_Cx G p s m args meth c cc own nL) {x : Int64} {y : Int64} (pc' : Nat) (hp : pc + 1 = pc') (hd : decode cc pc = .ok (.ladd, 1)) (k : VV G p l e R s m args below meth c nL cells slots Q n σ pc' lv (.long (x + y) :: st)) : VV G p l e R s m args below meth c nL cells slots Q n σ pc lv (.long y :: .long x :: st) := by
  subst hp; exact fun H locs ls a b d => lv_ladd C.1 C.2.1 hd (k H locs ls a b d)
theorem v_lsub (C : ns_Cx G p s m args meth c cc own nL) {x : Int64} {y : Int64} (pc' : Nat) (hp : pc + 1 = pc') (hd : decode cc pc = .ok (.lsub, 1)) (k : VV G p l e R s m args below meth c nL cells slots Q n σ pc' lv (.long (x - y) :: st)) : VV G p l e R s m args below meth c nL cells slots Q n σ pc lv (.long y :: .long x :: st) := by
  subst hp; exact fun H locs ls a b d => lv_lsub C.1 C.2.1 hd (k H locs ls a b d)
theorem v_lmul (C : ns_Cx G p s m args meth c cc own nL) {x : Int64} {y : Int64} (pc' : Nat) (hp : pc + 1 = pc') (hd : decode cc pc = .ok (.lmul, 1)) (k : VV G p l e R s m args below meth c nL cells slots Q n σ pc' lv (.long (x * y) :: st)) : VV G p l e R s m args below meth c nL cells slots Q n σ pc lv (.long y :: .long x :: st) := by
  subst hp; exact fun H locs ls a b d => lv_lmul C.1 C.2.1 hd (k H locs ls a b d)
theorem v_land (C : ns_Cx G p s m args meth c cc own nL) {x : Int64} {y : Int64} (pc' : Nat) (hp : pc + 1 = pc') (hd : decode cc pc = .ok (.land, 1)) (k : VV G p l e R s m args below meth c nL cells slots Q n σ pc' lv (.long (x &&& y) :: st)) : VV G p l e R s m args below meth c nL cells slots Q n σ pc lv (.long y :: .long x :: st) := by
  subst hp; exact fun H locs ls a b d => lv_land C.1 C.2.1 hd (k H locs ls a b d)
theorem v_lor (C : ns_Cx G p s m args meth c cc own nL) {x : Int64} {y : Int64} (pc' : Nat) (hp : pc + 1 = pc') (hd : decode cc pc = .ok (.lor, 1)) (k : VV G p l e R s m args below meth c nL cells slots Q n σ pc' lv (.long (x ||| y) :: st)) : VV G p l e R s m args below meth c nL cells slots Q n σ pc lv (.long y :: .long x :: st) := by
  subst hp; exact fun H locs ls a b d => lv_lor C.1 C.2.1 hd (k H locs ls a b d)
theorem v_lxor (C : ns_Cx G p s m args meth c cc own nL) {x : Int64} {y : Int64} (pc' : Nat) (hp : pc + 1 = pc') (hd : decode cc pc = .ok (.lxor, 1)) (k : VV G p l e R s m args below meth c nL cells slots Q n σ pc' lv (.long (x ^^^ y) :: st)) : VV G p l e R s m args below meth c nL cells slots Q n σ pc lv (.long y :: .long x :: st) := by
  subst hp; exact fun H locs ls a b d => lv_lxor C.1 C.2.1 hd (k H locs ls a b d)
theorem v_idiv (C : ns_Cx G p s m args meth c cc own nL) {x : Int32} {y : Int32} (hne : ¬ y = 0) (pc' : Nat) (hp : pc + 1 = pc') (hd : decode cc pc = .ok (.idiv, 1)) (k : VV G p l e R s m args below meth c nL cells slots Q n σ pc' lv (.int (x / y) :: st)) : VV G p l e R s m args below meth c nL cells slots Q n σ pc lv (.int y :: .int x :: st) := by
  subst hp; exact fun H locs ls a b d => lv_idiv C.1 C.2.1 hd hne (k H locs ls a b d)
theorem v_irem (C : ns_Cx G p s m args meth c cc own nL) {x : Int32} {y : Int32} (hne : ¬ y = 0) (pc' : Nat) (hp : pc + 1 = pc') (hd : decode cc pc = .ok (.irem, 1)) (k : VV G p l e R s m args below meth c nL cells slots Q n σ pc' lv (.int (x - x / y * y) :: st)) : VV G p l e R s m args below meth c nL cells slots Q n σ pc lv (.int y :: .int x :: st) := by
  subst hp; exact fun H locs ls a b d => lv_irem C.1 C.2.1 hd hne (k H locs ls a b d)
theorem v_ldiv (C : ns_Cx G p s m args meth c cc own nL) {x : Int64} {y : Int64} (hne : ¬ y = 0) (pc' : Nat) (hp : pc + 1 = pc') (hd : decode cc pc = .ok (.ldiv, 1)) (k : VV G p l e R s m args below meth c nL cells slots Q n σ pc' lv (.long (x / y) :: st)) : VV G p l e R s m args below meth c nL cells slots Q n σ pc lv (.long y :: .long x :: st) := by
  subst hp; exact fun H locs ls a b d => lv_ldiv C.1 C.2.1 hd hne (k H locs ls a b d)
theorem v_ishl (C : ns_Cx G p s m args meth c cc own nL) {x : Int32} {y : Int32} (pc' : Nat) (hp : pc + 1 = pc') (hd : decode cc pc = .ok (.ishl, 1)) (k : VV G p l e R s m args below meth c nL cells slots Q n σ pc' lv (.int (x <<< (y &&& 31)) :: st)) : VV G p l e R s m args below meth c nL cells slots Q n σ pc lv (.int y :: .int x :: st) := by
  subst hp; exact fun H locs ls a b d => lv_ishl C.1 C.2.1 hd (k H locs ls a b d)
theorem v_ishr (C : ns_Cx G p s m args meth c cc own nL) {x : Int32} {y : Int32} (pc' : Nat) (hp : pc + 1 = pc') (hd : decode cc pc = .ok (.ishr, 1)) (k : VV G p l e R s m args below meth c nL cells slots Q n σ pc' lv (.int (x >>> (y &&& 31)) :: st)) : VV G p l e R s m args below meth c nL cells slots Q n σ pc lv (.int y :: .int x :: st) := by
  subst hp; exact fun H locs ls a b d => lv_ishr C.1 C.2.1 hd (k H locs ls a b d)
theorem v_iushr (C : ns_Cx G p s m args meth c cc own nL) {x : Int32} {y : Int32} (pc' : Nat) (hp : pc + 1 = pc') (hd : decode cc pc = .ok (.iushr, 1)) (k : VV G p l e R s m args below meth c nL cells slots Q n σ pc' lv (.int ((x.toUInt32 >>> (y.toUInt32 &&& Int32.toUInt32 31)).toInt32) :: st)) : VV G p l e R s m args below meth c nL cells slots Q n σ pc lv (.int y :: .int x :: st) := by
  subst hp; exact fun H locs ls a b d => lv_iushr C.1 C.2.1 hd rfl (k H locs ls a b d)
theorem v_lushr (C : ns_Cx G p s m args meth c cc own nL) {x : Int64} {y : Int32} (pc' : Nat) (hp : pc + 1 = pc') (hd : decode cc pc = .ok (.lushr, 1)) (k : VV G p l e R s m args below meth c nL cells slots Q n σ pc' lv (.long ((x.toUInt64 >>> (y.toInt64.toUInt64 &&& Int64.toUInt64 63)).toInt64) :: st)) : VV G p l e R s m args below meth c nL cells slots Q n σ pc lv (.int y :: .long x :: st) := by
  subst hp; exact fun H locs ls a b d => lv_lushr C.1 C.2.1 hd rfl (k H locs ls a b d)
theorem v_lshl (C : ns_Cx G p s m args meth c cc own nL) {x : Int64} {y : Int32} (pc' : Nat) (hp : pc + 1 = pc') (hd : decode cc pc = .ok (.lshl, 1)) (k : VV G p l e R s m args below meth c nL cells slots Q n σ pc' lv (.long (x <<< (y.toInt64 &&& 63)) :: st)) : VV G p l e R s m args below meth c nL cells slots Q n σ pc lv (.int y :: .long x :: st) := by
  subst hp; exact fun H locs ls a b d => lv_lshl C.1 C.2.1 hd rfl (k H locs ls a b d)
theorem v_lshr (C : ns_Cx G p s m args meth c cc own nL) {x : Int64} {y : Int32} (pc' : Nat) (hp : pc + 1 = pc') (hd : decode cc pc = .ok (.lshr, 1)) (k : VV G p l e R s m args below meth c nL cells slots Q n σ pc' lv (.long (x >>> (y.toInt64 &&& 63)) :: st)) : VV G p l e R s m args below meth c nL cells slots Q n σ pc lv (.int y :: .long x :: st) := by
  subst hp; exact fun H locs ls a b d => lv_lshr C.1 C.2.1 hd rfl (k H locs ls a b d)
theorem v_ineg (C : ns_Cx G p s m args meth c cc own nL) {x : Int32} (pc' : Nat) (hp : pc + 1 = pc') (hd : decode cc pc = .ok (.ineg, 1)) (k : VV G p l e R s m args below meth c nL cells slots Q n σ pc' lv (.int (-x) :: st)) : VV G p l e R s m args below meth c nL cells slots Q n σ pc lv (.int x :: st) := by
  subst hp; exact fun H locs ls a b d => lv_ineg C.1 C.2.1 hd (k H locs ls a b d)
theorem v_i2l (C : ns_Cx G p s m args meth c cc own nL) {x : Int32} (pc' : Nat) (hp : pc + 1 = pc') (hd : decode cc pc = .ok (.i2l, 1)) (k : VV G p l e R s m args below meth c nL cells slots Q n σ pc' lv (.long (x.toInt64) :: st)) : VV G p l e R s m args below meth c nL cells slots Q n σ pc lv (.int x :: st) := by
  subst hp; exact fun H locs ls a b d => lv_i2l C.1 C.2.1 hd rfl (k H locs ls a b d)
theorem v_l2i (C : ns_Cx G p s m args meth c cc own nL) {x : Int64} (pc' : Nat) (hp : pc + 1 = pc') (hd : decode cc pc = .ok (.l2i, 1)) (k : VV G p l e R s m args below meth c nL cells slots Q n σ pc' lv (.int (x.toInt32) :: st)) : VV G p l e R s m args below meth c nL cells slots Q n σ pc lv (.long x :: st) := by
  subst hp; exact fun H locs ls a b d => lv_l2i C.1 C.2.1 hd rfl (k H locs ls a b d)
theorem v_i2b (C : ns_Cx G p s m args meth c cc own nL) {x : Int32} (pc' : Nat) (hp : pc + 1 = pc') (hd : decode cc pc = .ok (.i2b, 1)) (k : VV G p l e R s m args below meth c nL cells slots Q n σ pc' lv (.int (x.toInt8.toInt32) :: st)) : VV G p l e R s m args below meth c nL cells slots Q n σ pc lv (.int x :: st) := by
  subst hp; exact fun H locs ls a b d => lv_i2b C.1 C.2.1 hd rfl (k H locs ls a b d)
theorem v_i2s (C : ns_Cx G p s m args meth c cc own nL) {x : Int32} (pc' : Nat) (hp : pc + 1 = pc') (hd : decode cc pc = .ok (.i2s, 1)) (k : VV G p l e R s m args below meth c nL cells slots Q n σ pc' lv (.int (x.toInt16.toInt32) :: st)) : VV G p l e R s m args below meth c nL cells slots Q n σ pc lv (.int x :: st) := by
  subst hp; exact fun H locs ls a b d => lv_i2s C.1 C.2.1 hd rfl (k H locs ls a b d)
theorem v_lneg (C : ns_Cx G p s m args meth c cc own nL) {x : Int64} (pc' : Nat) (hp : pc + 1 = pc') (hd : decode cc pc = .ok (.lneg, 1)) (k : VV G p l e R s m args below meth c nL cells slots Q n σ pc' lv (.long (-x) :: st)) : VV G p l e R s m args below meth c nL cells slots Q n σ pc lv (.long x :: st) := by
  subst hp; exact fun H locs ls a b d => lv_lneg C.1 C.2.1 hd (k H locs ls a b d)
theorem v_lcmp (C : ns_Cx G p s m args meth c cc own nL) {x y : Int64} (pc' : Nat) (hp : pc + 1 = pc') (hd : decode cc pc = .ok (.lcmp, 1)) (k : VV G p l e R s m args below meth c nL cells slots Q n σ pc' lv (.int (lg_cmp x y) :: st)) : VV G p l e R s m args below meth c nL cells slots Q n σ pc lv (.long y :: .long x :: st) := by
  subst hp; exact fun H locs ls a b d => W.lcmp C.1 C.2.1 hd (k H locs ls a b d)
theorem v_dup (C : ns_Cx G p s m args meth c cc own nL) {va : Value} (hva : va.category = 1) (pc' : Nat) (hp : pc + 1 = pc') (hd : decode cc pc = .ok (.dup, 1)) (k : VV G p l e R s m args below meth c nL cells slots Q n σ pc' lv (va :: va :: st)) : VV G p l e R s m args below meth c nL cells slots Q n σ pc lv (va :: st) := by
  subst hp; exact fun H locs ls a b d => lv_dup C.1 C.2.1 hd hva (k H locs ls a b d)
theorem v_pop (C : ns_Cx G p s m args meth c cc own nL) {va : Value} (hva : va.category = 1) (pc' : Nat) (hp : pc + 1 = pc') (hd : decode cc pc = .ok (.pop, 1)) (k : VV G p l e R s m args below meth c nL cells slots Q n σ pc' lv (st)) : VV G p l e R s m args below meth c nL cells slots Q n σ pc lv (va :: st) := by
  subst hp; exact fun H locs ls a b d => lv_pop C.1 C.2.1 hd hva (k H locs ls a b d)
theorem v_dup_x1 (C : ns_Cx G p s m args meth c cc own nL) {va vb : Value} (hva : va.category = 1) (hvb : vb.category = 1) (pc' : Nat) (hp : pc + 1 = pc') (hd : decode cc pc = .ok (.dup_x1, 1)) (k : VV G p l e R s m args below meth c nL cells slots Q n σ pc' lv (va :: vb :: va :: st)) : VV G p l e R s m args below meth c nL cells slots Q n σ pc lv (va :: vb :: st) := by
  subst hp; exact fun H locs ls a b d => lv_dup_x1 C.1 C.2.1 hd hva hvb (k H locs ls a b d)
theorem v_dup_x2 (C : ns_Cx G p s m args meth c cc own nL) {va vb vc : Value} (hva : va.category = 1) (hvb : vb.category = 1) (hvc : vc.category = 1) (pc' : Nat) (hp : pc + 1 = pc') (hd : decode cc pc = .ok (.dup_x2, 1)) (k : VV G p l e R s m args below meth c nL cells slots Q n σ pc' lv (va :: vb :: vc :: va :: st)) : VV G p l e R s m args below meth c nL cells slots Q n σ pc lv (va :: vb :: vc :: st) := by
  subst hp; exact fun H locs ls a b d => lv_dup_x2 C.1 C.2.1 hd hva hvb hvc (k H locs ls a b d)
theorem v_dup2_11 (C : ns_Cx G p s m args meth c cc own nL) {va vb : Value} (hva : va.category = 1) (hvb : vb.category = 1) (pc' : Nat) (hp : pc + 1 = pc') (hd : decode cc pc = .ok (.dup2, 1)) (k : VV G p l e R s m args below meth c nL cells slots Q n σ pc' lv (va :: vb :: va :: vb :: st)) : VV G p l e R s m args below meth c nL cells slots Q n σ pc lv (va :: vb :: st) := by
  subst hp; exact fun H locs ls a b d => lv_dup2_11 C.1 C.2.1 hd hva hvb (k H locs ls a b d)
theorem v_dup2_2 (C : ns_Cx G p s m args meth c cc own nL) {va : Value} (hva : va.category = 2) (pc' : Nat) (hp : pc + 1 = pc') (hd : decode cc pc = .ok (.dup2, 1)) (k : VV G p l e R s m args below meth c nL cells slots Q n σ pc' lv (va :: va :: st)) : VV G p l e R s m args below meth c nL cells slots Q n σ pc lv (va :: st) := by
  subst hp; exact fun H locs ls a b d => lv_dup2_2 C.1 C.2.1 hd hva (k H locs ls a b d)
theorem v_pop2_2 (C : ns_Cx G p s m args meth c cc own nL) {va : Value} (hva : va.category = 2) (pc' : Nat) (hp : pc + 1 = pc') (hd : decode cc pc = .ok (.pop2, 1)) (k : VV G p l e R s m args below meth c nL cells slots Q n σ pc' lv (st)) : VV G p l e R s m args below meth c nL cells slots Q n σ pc lv (va :: st) := by
  subst hp; exact fun H locs ls a b d => lv_pop2_2 C.1 C.2.1 hd hva (k H locs ls a b d)
theorem v_if_eq (C : ns_Cx G p s m args meth c cc own nL) {x : Int32} (tgt : Nat) (pc' : Nat) (hp : pc + 3 = pc') (hd : decode cc pc = .ok (.ifCond .eq ((tgt : Int) - (pc : Int)), 3)) (kt : x = 0 → VV G p l e R s m args below meth c nL cells slots Q n σ tgt lv st) (kf : ¬ x = 0 → VV G p l e R s m args below meth c nL cells slots Q n σ pc' lv st) : VV G p l e R s m args below meth c nL cells slots Q n σ pc lv (.int x :: st) := by
  subst hp; exact fun H locs ls a b d => lv_if_eq C.1 C.2.1 hd (by omega) (fun h => kt h H locs ls a b d) (fun h => kf h H locs ls a b d)
theorem v_icmp_eq (C : ns_Cx G p s m args meth c cc own nL) {x y : Int32} (tgt : Nat) (pc' : Nat) (hp : pc + 3 = pc') (hd : decode cc pc = .ok (.if_icmp .eq ((tgt : Int) - (pc : Int)), 3)) (kt : x = y → VV G p l e R s m args below meth c nL cells slots Q n σ tgt lv st) (kf : ¬ x = y → VV G p l e R s m args below meth c nL cells slots Q n σ pc' lv st) : VV G p l e R s m args below meth c nL cells slots Q n σ pc lv (.int y :: .int x :: st) := by
  subst hp; exact fun H locs ls a b d => lv_icmp_eq C.1 C.2.1 hd (by omega) (fun h => kt h H locs ls a b d) (fun h => kf h H locs ls a b d)
theorem v_if_ne (C : ns_Cx G p s m args meth c cc own nL) {x : Int32} (tgt : Nat) (pc' : Nat) (hp : pc + 3 = pc') (hd : decode cc pc = .ok (.ifCond .ne ((tgt : Int) - (pc : Int)), 3)) (kt : ¬ x = 0 → VV G p l e R s m args below meth c nL cells slots Q n σ tgt lv st) (kf : x = 0 → VV G p l e R s m args below meth c nL cells slots Q n σ pc' lv st) : VV G p l e R s m args below meth c nL cells slots Q n σ pc lv (.int x :: st) := by
  subst hp; exact fun H locs ls a b d => lv_if_ne C.1 C.2.1 hd (by omega) (fun h => kt h H locs ls a b d) (fun h => kf h H locs ls a b d)
theorem v_icmp_ne (C : ns_Cx G p s m args meth c cc own nL) {x y : Int32} (tgt : Nat) (pc' : Nat) (hp : pc + 3 = pc') (hd : decode cc pc = .ok (.if_icmp .ne ((tgt : Int) - (pc : Int)), 3)) (kt : ¬ x = y → VV G p l e R s m args below meth c nL cells slots Q n σ tgt lv st) (kf : x = y → VV G p l e R s m args below meth c nL cells slots Q n σ pc' lv st) : VV G p l e R s m args below meth c nL cells slots Q n σ pc lv (.int y :: .int x :: st) := by
  subst hp; exact fun H locs ls a b d => lv_icmp_ne C.1 C.2.1 hd (by omega) (fun h => kt h H locs ls a b d) (fun h => kf h H locs ls a b d)
theorem v_if_lt (C : ns_Cx G p s m args meth c cc own nL) {x : Int32} (tgt : Nat) (pc' : Nat) (hp : pc + 3 = pc') (hd : decode cc pc = .ok (.ifCond .lt ((tgt : Int) - (pc : Int)), 3)) (kt : x < 0 → VV G p l e R s m args below meth c nL cells slots Q n σ tgt lv st) (kf : ¬ x < 0 → VV G p l e R s m args below meth c nL cells slots Q n σ pc' lv st) : VV G p l e R s m args below meth c nL cells slots Q n σ pc lv (.int x :: st) := by
  subst hp; exact fun H locs ls a b d => lv_if_lt C.1 C.2.1 hd (by omega) (fun h => kt h H locs ls a b d) (fun h => kf h H locs ls a b d)
theorem v_icmp_lt (C : ns_Cx G p s m args meth c cc own nL) {x y : Int32} (tgt : Nat) (pc' : Nat) (hp : pc + 3 = pc') (hd : decode cc pc = .ok (.if_icmp .lt ((tgt : Int) - (pc : Int)), 3)) (kt : x < y → VV G p l e R s m args below meth c nL cells slots Q n σ tgt lv st) (kf : ¬ x < y → VV G p l e R s m args below meth c nL cells slots Q n σ pc' lv st) : VV G p l e R s m args below meth c nL cells slots Q n σ pc lv (.int y :: .int x :: st) := by
  subst hp; exact fun H locs ls a b d => lv_icmp_lt C.1 C.2.1 hd (by omega) (fun h => kt h H locs ls a b d) (fun h => kf h H locs ls a b d)
theorem v_if_ge (C : ns_Cx G p s m args meth c cc own nL) {x : Int32} (tgt : Nat) (pc' : Nat) (hp : pc + 3 = pc') (hd : decode cc pc = .ok (.ifCond .ge ((tgt : Int) - (pc : Int)), 3)) (kt : 0 ≤ x → VV G p l e R s m args below meth c nL cells slots Q n σ tgt lv st) (kf : ¬ 0 ≤ x → VV G p l e R s m args below meth c nL cells slots Q n σ pc' lv st) : VV G p l e R s m args below meth c nL cells slots Q n σ pc lv (.int x :: st) := by
  subst hp; exact fun H locs ls a b d => lv_if_ge C.1 C.2.1 hd (by omega) (fun h => kt h H locs ls a b d) (fun h => kf h H locs ls a b d)
theorem v_icmp_ge (C : ns_Cx G p s m args meth c cc own nL) {x y : Int32} (tgt : Nat) (pc' : Nat) (hp : pc + 3 = pc') (hd : decode cc pc = .ok (.if_icmp .ge ((tgt : Int) - (pc : Int)), 3)) (kt : y ≤ x → VV G p l e R s m args below meth c nL cells slots Q n σ tgt lv st) (kf : ¬ y ≤ x → VV G p l e R s m args below meth c nL cells slots Q n σ pc' lv st) : VV G p l e R s m args below meth c nL cells slots Q n σ pc lv (.int y :: .int x :: st) := by
  subst hp; exact fun H locs ls a b d => lv_icmp_ge C.1 C.2.1 hd (by omega) (fun h => kt h H locs ls a b d) (fun h => kf h H locs ls a b d)
theorem v_if_gt (C : ns_Cx G p s m args meth c cc own nL) {x : Int32} (tgt : Nat) (pc' : Nat) (hp : pc + 3 = pc') (hd : decode cc pc = .ok (.ifCond .gt ((tgt : Int) - (pc : Int)), 3)) (kt : 0 < x → VV G p l e R s m args below meth c nL cells slots Q n σ tgt lv st) (kf : ¬ 0 < x → VV G p l e R s m args below meth c nL cells slots Q n σ pc' lv st) : VV G p l e R s m args below meth c nL cells slots Q n σ pc lv (.int x :: st) := by
  subst hp; exact fun H locs ls a b d => lv_if_gt C.1 C.2.1 hd (by omega) (fun h => kt h H locs ls a b d) (fun h => kf h H locs ls a b d)
theorem v_icmp_gt (C : ns_Cx G p s m args meth c cc own nL) {x y : Int32} (tgt : Nat) (pc' : Nat) (hp : pc + 3 = pc') (hd : decode cc pc = .ok (.if_icmp .gt ((tgt : Int) - (pc : Int)), 3)) (kt : y < x → VV G p l e R s m args below meth c nL cells slots Q n σ tgt lv st) (kf : ¬ y < x → VV G p l e R s m args below meth c nL cells slots Q n σ pc' lv st) : VV G p l e R s m args below meth c nL cells slots Q n σ pc lv (.int y :: .int x :: st) := by
  subst hp; exact fun H locs ls a b d => lv_icmp_gt C.1 C.2.1 hd (by omega) (fun h => kt h H locs ls a b d) (fun h => kf h H locs ls a b d)
theorem v_if_le (C : ns_Cx G p s m args meth c cc own nL) {x : Int32} (tgt : Nat) (pc' : Nat) (hp : pc + 3 = pc') (hd : decode cc pc = .ok (.ifCond .le ((tgt : Int) - (pc : Int)), 3)) (kt : x ≤ 0 → VV G p l e R s m args below meth c nL cells slots Q n σ tgt lv st) (kf : ¬ x ≤ 0 → VV G p l e R s m args below meth c nL cells slots Q n σ pc' lv st) : VV G p l e R s m args below meth c nL cells slots Q n σ pc lv (.int x :: st) := by
  subst hp; exact fun H locs ls a b d => lv_if_le C.1 C.2.1 hd (by omega) (fun h => kt h H locs ls a b d) (fun h => kf h H locs ls a b d)
theorem v_icmp_le (C : ns_Cx G p s m args meth c cc own nL) {x y : Int32} (tgt : Nat) (pc' : Nat) (hp : pc + 3 = pc') (hd : decode cc pc = .ok (.if_icmp .le ((tgt : Int) - (pc : Int)), 3)) (kt : x ≤ y → VV G p l e R s m args below meth c nL cells slots Q n σ tgt lv st) (kf : ¬ x ≤ y → VV G p l e R s m args below meth c nL cells slots Q n σ pc' lv st) : VV G p l e R s m args below meth c nL cells slots Q n σ pc lv (.int y :: .int x :: st) := by
  subst hp; exact fun H locs ls a b d => lv_icmp_le C.1 C.2.1 hd (by omega) (fun h => kt h H locs ls a b d) (fun h => kf h H locs ls a b d)
theorem v_goto (C : ns_Cx G p s m args meth c cc own nL) (tgt : Nat) (hd : decode cc pc = .ok (.goto ((tgt : Int) - (pc : Int)), 3)) (k : VV G p l e R s m args below meth c nL cells slots Q n σ tgt lv st) : VV G p l e R s m args below meth c nL cells slots Q n σ pc lv st :=
  fun H locs ls a b d => lv_goto C.1 C.2.1 hd (by omega) (k H locs ls a b d)
theorem v_ifnull (C : ns_Cx G p s m args meth c cc own nL) {x : Nat} (tgt : Nat) (pc' : Nat) (hp : pc + 3 = pc') (hd : decode cc pc = .ok (.ifnull ((tgt : Int) - (pc : Int)), 3)) (k : VV G p l e R s m args below meth c nL cells slots Q n σ pc' lv st) : VV G p l e R s m args below meth c nL cells slots Q n σ pc lv (.ref x :: st) := by
  subst hp; exact fun H locs ls a b d => lv_ifnull C.1 C.2.1 hd (k H locs ls a b d)
theorem v_ifnullN (C : ns_Cx G p s m args meth c cc own nL) (tgt : Nat) (hd : decode cc pc = .ok (.ifnull ((tgt : Int) - (pc : Int)), 3)) (k : VV G p l e R s m args below meth c nL cells slots Q n σ tgt lv st) : VV G p l e R s m args below meth c nL cells slots Q n σ pc lv (.null :: st) :=
  fun H locs ls a b d => lv_ifnullN C.1 C.2.1 hd (by omega) (k H locs ls a b d)
theorem v_ifnonnull (C : ns_Cx G p s m args meth c cc own nL) {x : Nat} (tgt : Nat) (hd : decode cc pc = .ok (.ifnonnull ((tgt : Int) - (pc : Int)), 3)) (k : VV G p l e R s m args below meth c nL cells slots Q n σ tgt lv st) : VV G p l e R s m args below meth c nL cells slots Q n σ pc lv (.ref x :: st) :=
  fun H locs ls a b d => lv_ifnonnull C.1 C.2.1 hd (by omega) (k H locs ls a b d)
theorem v_ifnonnullN (C : ns_Cx G p s m args meth c cc own nL) (tgt : Nat) (pc' : Nat) (hp : pc + 3 = pc') (hd : decode cc pc = .ok (.ifnonnull ((tgt : Int) - (pc : Int)), 3)) (k : VV G p l e R s m args below meth c nL cells slots Q n σ pc' lv st) : VV G p l e R s m args below meth c nL cells slots Q n σ pc lv (.null :: st) := by
  subst hp; exact fun H locs ls a b d => lv_ifnonnullN C.1 C.2.1 hd (k H locs ls a b d)
/-! fields -/
theorem ns_get0 {H : Heap} (hW : ns_Wd G n σ H) {a ci k t : Nat} (ha : a < n) (hk : ns_kd a = ci) (hci : ci < 10) (ht : (ns_ft ci)[k]? = some t) :
    (ns_wl G n σ)[a]? = some (G.1 + a, .inr (ci, ns_fl G.1 σ a ci)) ∧ (ns_fl G.1 σ a ci)[k]? = some (ns_fv G.1 σ a k t) :=
  ⟨by rw [ns_wl_at G σ ha, ns_cE_obj G σ hk hci], ns_fl_at G.1 σ a ci k t ht⟩
theorem v_get (C : ns_Cx G p s m args meth c cc own nL) {a : Nat} (ci : Nat) {Cn : String} {T : u_T} {N : Nat} (hc : ns_cl[ci]? = some (Cn, T, N)) (hin : ∀ w ∈ u_ws Cn T N, w ∈ ns_TB) (k t : Nat) (v : Value) (ha : a < n) (hkd : ns_kd a = ci) (hci : ci < 10) (hkN : k < N) (ht : (ns_ft ci)[k]? = some t) (hv : ns_fv G.1 σ a k t = v) (i : Nat) {ref : String} (hw : Cond.fieldLink own i ref (T k).2.1 (T k).2.2.1 ∈ ns_TB) (href : (T k).1 = ref) (pc' : Nat) (hp : pc + 3 = pc') (hd : decode cc pc = .ok (.getfield i, 3)) (kk : VV G p l e R s m args below meth c nL cells slots Q n σ pc' lv (v :: st)) : VV G p l e R s m args below meth c nL cells slots Q n σ pc lv (.ref (G.1 + a) :: st) := by
  subst hp; subst href; subst hv
  intro H locs ls hW hS hl
  obtain ⟨h1, h2⟩ := ns_get0 hW ha hkd hci ht
  exact va_get C.1 C.2.1 C.2.2.2.2.1 hin C.2.2.2.1 C.2.2.2.2.2.1.1 hW.2.1 a h1 hc k hkN (C.2.2.2.2.1 _ hw) (fun _ h => h) h2 hd (kk H locs ls hW hS hl)
theorem v_getN (C : ns_Cx G p s m args meth c cc own nL) {a : Nat} (ci : Nat) {Cn host : String} {T : u_T} {N : Nat} (hc : ns_cl[ci]? = some (Cn, T, N)) (hin : ∀ w ∈ u_ws Cn T N, w ∈ ns_TB) (k t : Nat) (v : Value) (ha : a < n) (hkd : ns_kd a = ci) (hci : ci < 10) (hkN : k < N) (ht : (ns_ft ci)[k]? = some t) (hv : ns_fv G.1 σ a k t = v) (i : Nat) {ref : String} (hw : Cond.fieldLinkNest own i ref (T k).2.1 (T k).2.2.1 host ∈ ns_NB) (href : (T k).1 = ref) (pc' : Nat) (hp : pc + 3 = pc') (hd : decode cc pc = .ok (.getfield i, 3)) (kk : VV G p l e R s m args below meth c nL cells slots Q n σ pc' lv (v :: st)) : VV G p l e R s m args below meth c nL cells slots Q n σ pc lv (.ref (G.1 + a) :: st) := by
  subst hp; subst href; subst hv
  intro H locs ls hW hS hl
  obtain ⟨h1, h2⟩ := ns_get0 hW ha hkd hci ht
  exact va_getN C.1 C.2.1 C.2.2.2.2.1 hin C.2.2.2.1 C.2.2.2.2.2.1.1 hW.2.1 a h1 hc k hkN (va_Nw.use rfl (C.2.2.2.2.2.1.2.1 _ hw)) (fun _ h => h) h2 hd (kk H locs ls hW hS hl)
/-- the cell behind a store into a field -/
theorem ns_put0 {H' : Heap} {cell : Cell} {σ' : ns_St} {a ci k : Nat} {Cn : String} {T : u_T} {N : Nat} {v : Value} {iS : Nat → Nat} (hc : ns_cl[ci]? = some (Cn, T, N)) (hkd : ns_kd a = ci) (hci : ci < 10) (hkN : k < N)
    (hcls : cell.cls = G.2.1.1 ci) (hvm : cell.vm = .none) (hiS : iS = G.2.1.2 ci) (hslots : ∀ j, j < N → cell.slots[iS j]? = some (vp_V (ns_fl G.1 σ a ci) j)) (hap : ∀ x y, x < N → y < N → x ≠ y → iS x ≠ iS y)
    (hlen : k < (ns_fl G.1 σ a ci).length) (e1 : H'[G.1 + a]? = some (cell.setSlot (iS k) v)) (hfl : ns_fl G.1 σ' a ci = (ns_fl G.1 σ a ci).set k v) : va_at G.2.1 ns_cl (G.1 + a, ns_cE G σ' a) H' := by
  subst hiS
  rw [ns_cE_obj G σ' hkd hci, hfl]
  exact ⟨_, hc, t_OB.to (V := updV (vp_V (ns_fl G.1 σ a ci)) k v) ⟨_, e1, hcls, hvm, t_set hslots hap hkN v⟩ (fun j _ => vp_updV_set hlen v j)⟩
theorem v_put (C : ns_Cx G p s m args meth c cc own nL) {a : Nat} {σ' : ns_St} (ci : Nat) {Cn : String} {T : u_T} {N : Nat} (hc : ns_cl[ci]? = some (Cn, T, N)) (hin : ∀ w ∈ u_ws Cn T N, w ∈ ns_TB) (ty0 : Nat → FieldType) (hty : ∀ k, k < N → parseFieldDescriptor (T k).2.2.1 = some (ty0 k)) (hnm : ∀ a, a < N → ∀ b, b < N → a ≠ b → (T a).2.1 ≠ (T b).2.1) (k t : Nat) {v : Value} (ha : a < n) (hkd : ns_kd a = ci) (hci : ci < 10) (hkN : k < N) (ht : (ns_ft ci)[k]? = some t) (hfin : (T k).2.2.2 = false) (hn : narrow (ty0 k) v = v) (hfit : fits (ty0 k) v = true) (hfl : ns_fl G.1 σ' a ci = (ns_fl G.1 σ a ci).set k v) (hne : ∀ b, b ≠ a → ns_cE G σ' b = ns_cE G σ b) (i : Nat) {ref : String} (hw : Cond.fieldLink own i ref (T k).2.1 (T k).2.2.1 ∈ ns_TB) (href : (T k).1 = ref) (pc' : Nat) (hp : pc + 3 = pc') (hd : decode cc pc = .ok (.putfield i, 3)) (kk : VV G p l e R s m args below meth c nL cells slots Q n σ' pc' lv st) : VV G p l e R s m args below meth c nL cells slots Q n σ pc lv (v :: .ref (G.1 + a) :: st) := by
  subst hp; subst href
  intro H locs ls hW hS hl
  obtain ⟨h1, h2⟩ := ns_get0 hW ha hkd hci ht
  have hK := C.2.2.2.2.2.1.1
  have hts := C.2.2.2.2.1
  have hap := va_apart (own := own) hts hin ty0 hty hnm hK hc
  obtain ⟨r, q0, cell, q1, q2, q3, q4⟩ := hW.2.1 a _ h1
  have hr : r = (Cn, T, N) := Option.some.inj (q0.symm.trans hc)
  subst hr
  obtain ⟨hSl, hfc, kC, hkC, hkind⟩ := hK.1 ci _ hc
  obtain ⟨cf, kf, fi, f, hi, hsl⟩ := hSl k hkN
  have hlay := hts _ (hin _ (u_in_lay hkN))
  unfold u_lay at hlay
  rw [if_neg (by rw [hfin]; decide)] at hlay
  have hst := (u_facts hfc hkC (u_lays hts hin hkN) hi).1
  have h6 := u_store hfc hkC hkind hlay hi (hty k hkN) hn hfit
  refine W.putK C.1 C.2.1 (f := f) ⟨C.2.2.2.1, hts _ hw, ⟨_, _, _, hi⟩, hst⟩ (by rw [q2]; exact h6) q1 q3 (by rw [hsl]; exact k2_hasslot (q4 k hkN)) rfl rfl hd fun H' e1 e2 e3 => ?_
  rw [hsl] at e1 ⊢
  exact kk H' _ ls (ns_set hW e2 e3 (ns_put0 hc hkd hci hkN q2 q3 rfl q4 hap (List.getElem?_eq_some_iff.mp h2).1 e1 hfl) hne) (hS.put e2 e3 (Nat.le_add_right _ _)) hl
theorem v_putN (C : ns_Cx G p s m args meth c cc own nL) {a : Nat} {σ' : ns_St} (ci : Nat) {Cn host : String} {T : u_T} {N : Nat} (hc : ns_cl[ci]? = some (Cn, T, N)) (hin : ∀ w ∈ u_ws Cn T N, w ∈ ns_TB) (ty0 : Nat → FieldType) (hty : ∀ k, k < N → parseFieldDescriptor (T k).2.2.1 = some (ty0 k)) (hnm : ∀ a, a < N → ∀ b, b < N → a ≠ b → (T a).2.1 ≠ (T b).2.1) (k t : Nat) {v : Value} (ha : a < n) (hkd : ns_kd a = ci) (hci : ci < 10) (hkN : k < N) (ht : (ns_ft ci)[k]? = some t) (hfin : (T k).2.2.2 = false) (hn : narrow (ty0 k) v = v) (hfit : fits (ty0 k) v = true) (hfl : ns_fl G.1 σ' a ci = (ns_fl G.1 σ a ci).set k v) (hne : ∀ b, b ≠ a → ns_cE G σ' b = ns_cE G σ b) (i : Nat) {ref : String} (hw : Cond.fieldLinkNest own i ref (T k).2.1 (T k).2.2.1 host ∈ ns_NB) (href : (T k).1 = ref) (pc' : Nat) (hp : pc + 3 = pc') (hd : decode cc pc = .ok (.putfield i, 3)) (kk : VV G p l e R s m args below meth c nL cells slots Q n σ' pc' lv st) : VV G p l e R s m args below meth c nL cells slots Q n σ pc lv (v :: .ref (G.1 + a) :: st) := by
  subst hp; subst href
  intro H locs ls hW hS hl
  obtain ⟨h1, h2⟩ := ns_get0 hW ha hkd hci ht
  have hK := C.2.2.2.2.2.1.1
  have hts := C.2.2.2.2.1
  have hap := va_apart (own := own) hts hin ty0 hty hnm hK hc
  obtain ⟨r, q0, cell, q1, q2, q3, q4⟩ := hW.2.1 a _ h1
  have hr : r = (Cn, T, N) := Option.some.inj (q0.symm.trans hc)
  subst hr
  obtain ⟨hSl, hfc, kC, hkC, hkind⟩ := hK.1 ci _ hc
  obtain ⟨cf, kf, fi, f, hi, hsl⟩ := hSl k hkN
  have hlay := hts _ (hin _ (u_in_lay hkN))
  unfold u_lay at hlay
  rw [if_neg (by rw [hfin]; decide)] at hlay
  have hst := (u_facts hfc hkC (u_lays hts hin hkN) hi).1
  have h6 := u_store hfc hkC hkind hlay hi (hty k hkN) hn hfit
  refine va_WputK C.1 C.2.1 (f := f) C.2.2.2.1 (va_Nw.use rfl (C.2.2.2.2.2.1.2.1 _ hw)) hi hst (by rw [q2]; exact h6) q1 q3 (by rw [hsl]; exact k2_hasslot (q4 k hkN)) rfl rfl hd fun H' e1 e2 e3 => ?_
  rw [hsl] at e1 ⊢
  exact kk H' _ ls (ns_set hW e2 e3 (ns_put0 hc hkd hci hkN q2 q3 rfl q4 hap (List.getElem?_eq_some_iff.mp h2).1 e1 hfl) hne) (hS.put e2 e3 (Nat.le_add_right _ _)) hl
theorem v_putF (C : ns_Cx G p s m args meth c cc own nL) (hname : meth.name = "<init>") {a : Nat} {σ' : ns_St} (ci : Nat) {Cn : String} {T : u_T} {N : Nat} (hc : ns_cl[ci]? = some (Cn, T, N)) (hin : ∀ w ∈ u_ws Cn T N, w ∈ ns_TB) (ty0 : Nat → FieldType) (hty : ∀ k, k < N → parseFieldDescriptor (T k).2.2.1 = some (ty0 k)) (hnm : ∀ a, a < N → ∀ b, b < N → a ≠ b → (T a).2.1 ≠ (T b).2.1) (k t : Nat) {v : Value} (ha : a < n) (hkd : ns_kd a = ci) (hci : ci < 10) (hkN : k < N) (ht : (ns_ft ci)[k]? = some t) (hfin : (T k).2.2.2 = true) (hn : narrow (ty0 k) v = v) (hfit : fits (ty0 k) v = true) (hfl : ns_fl G.1 σ' a ci = (ns_fl G.1 σ a ci).set k v) (hne : ∀ b, b ≠ a → ns_cE G σ' b = ns_cE G σ b) (i : Nat) {ref : String} (hw : Cond.fieldLink own i ref (T k).2.1 (T k).2.2.1 ∈ ns_TB) (href : (T k).1 = ref) (hdecl : (T k).1 = own) (pc' : Nat) (hp : pc + 3 = pc') (hd : decode cc pc = .ok (.putfield i, 3)) (kk : VV G p l e R s m args below meth c nL cells slots Q n σ' pc' lv st) : VV G p l e R s m args below meth c nL cells slots Q n σ pc lv (v :: .ref (G.1 + a) :: st) := by
  subst hp; subst href
  intro H locs ls hW hS hl
  obtain ⟨h1, h2⟩ := ns_get0 hW ha hkd hci ht
  have hK := C.2.2.2.2.2.1.1
  have hts := C.2.2.2.2.1
  have hap := va_apart (own := own) hts hin ty0 hty hnm hK hc
  obtain ⟨r, q0, cell, q1, q2, q3, q4⟩ := hW.2.1 a _ h1
  have hr : r = (Cn, T, N) := Option.some.inj (q0.symm.trans hc)
  subst hr
  obtain ⟨hSl, hfc, kC, hkC, hkind⟩ := hK.1 ci _ hc
  obtain ⟨cf, kf, fi, f, hi, hsl⟩ := hSl k hkN
  have hlay := hts _ (hin _ (u_in_lay hkN))
  unfold u_lay at hlay
  rw [if_pos hfin] at hlay
  have hst := (u_facts hfc hkC (u_lays hts hin hkN) hi).1
  have hown := C.2.2.2.1
  have hcf : m.cls = cf := by
    obtain ⟨_, _, c', _, _, _, -, -, hf', -, -, -, hown2, -⟩ := Cond.laysFinal_spec hlay
    have e1 : c' = cf := by have := hi.symm.trans hf'; simp at this; exact this.1.symm
    rw [hdecl] at hown2
    rw [← e1]; exact Option.some.inj (hown.symm.trans hown2)
  have h6 := u_fits hfc hkC hkind (Or.inr hlay) hi (hty k hkN) hn hfit
  refine W.putFinK C.1 C.2.1 hown (hts _ hw) hi hst hcf hname (by rw [q2]; exact h6) q1 q3 (by rw [hsl]; exact k2_hasslot (q4 k hkN)) rfl rfl hd fun H' e1 e2 e3 => ?_
  rw [hsl] at e1 ⊢
  exact kk H' _ ls (ns_set hW e2 e3 (ns_put0 hc hkd hci hkN q2 q3 rfl q4 hap (List.getElem?_eq_some_iff.mp h2).1 e1 hfl) hne) (hS.put e2 e3 (Nat.le_add_right _ _)) hl
/-! arrays -/
theorem v_iald (C : ns_Cx G p s m args meth c cc own nL) {a : Nat} {i : Int32} (ha : a < n) (hkd : ns_kd a = 10) (hi : vp_in i (ns_ln a)) (pc' : Nat) (hp : pc + 1 = pc') (hd : decode cc pc = .ok (.iaload, 1)) (kk : VV G p l e R s m args below meth c nL cells slots Q n σ pc' lv (.int (σ.1 a (ns_ix i)) :: st)) : VV G p l e R s m args below meth c nL cells slots Q n σ pc lv (.int i :: .ref (G.1 + a) :: st) := by
  subst hp
  intro H locs ls hW hS hl
  exact va_iald C.1 C.2.1 C.2.2.2.2.2.1.1 hW.2.1 a 0 (by rw [ns_wl_at G σ ha, ns_cE_I G σ hkd]) rfl hi hd (kk H locs ls hW hS hl)
theorem v_lald (C : ns_Cx G p s m args meth c cc own nL) {a : Nat} {i : Int32} (ha : a < n) (hkd : ns_kd a = 11) (hi : vp_in i (ns_ln a)) (pc' : Nat) (hp : pc + 1 = pc') (hd : decode cc pc = .ok (.laload, 1)) (kk : VV G p l e R s m args below meth c nL cells slots Q n σ pc' lv (.long (σ.2.1 a (ns_ix i)) :: st)) : VV G p l e R s m args below meth c nL cells slots Q n σ pc lv (.int i :: .ref (G.1 + a) :: st) := by
  subst hp
  intro H locs ls hW hS hl
  exact va_lald C.1 C.2.1 C.2.2.2.2.2.1.1 hW.2.1 a 1 (by rw [ns_wl_at G σ ha, ns_cE_J G σ hkd]) rfl hi hd (kk H locs ls hW hS hl)
theorem v_aald (C : ns_Cx G p s m args meth c cc own nL) {a b : Nat} {i : Int32} (kd : Nat) (hk : kd = 12 ∨ kd = 13) (ha : a < n) (hkd : ns_kd a = kd) (hi : vp_in i (ns_ln a)) (hb : σ.2.2 a (ns_ix i) = some b) (pc' : Nat) (hp : pc + 1 = pc') (hd : decode cc pc = .ok (.aaload, 1)) (kk : VV G p l e R s m args below meth c nL cells slots Q n σ pc' lv (.ref (G.1 + b) :: st)) : VV G p l e R s m args below meth c nL cells slots Q n σ pc lv (.int i :: .ref (G.1 + a) :: st) := by
  subst hp
  intro H locs ls hW hS hl
  have key := kk H locs ls hW hS hl
  rcases hk with rfl | rfl
  · refine va_aldq C.1 C.2.1 C.2.2.2.2.2.1.1 hW.2.1 a 2 (by rw [ns_wl_at G σ ha, ns_cE_R G σ hkd (Or.inl rfl)]) rfl hi hd ?_
    show W p l e R s m args below meth c H locs cells slots Q (F0 m (pc + 1) ls (va_rf (ns_rf G.1 (σ.2.2 a (ns_ix i))) :: st))
    rw [hb]; exact key
  · refine va_aldq C.1 C.2.1 C.2.2.2.2.2.1.1 hW.2.1 a 3 (by rw [ns_wl_at G σ ha, ns_cE_R G σ hkd (Or.inr rfl)]) rfl hi hd ?_
    show W p l e R s m args below meth c H locs cells slots Q (F0 m (pc + 1) ls (va_rf (ns_rf G.1 (σ.2.2 a (ns_ix i))) :: st))
    rw [hb]; exact key
theorem v_alenI (C : ns_Cx G p s m args meth c cc own nL) {a : Nat} (x : Int32) (ha : a < n) (hkd : ns_kd a = 10) (hx : x = Int32.ofNat (ns_ln a)) (pc' : Nat) (hp : pc + 1 = pc') (hd : decode cc pc = .ok (.arraylength, 1)) (kk : VV G p l e R s m args below meth c nL cells slots Q n σ pc' lv (.int x :: st)) : VV G p l e R s m args below meth c nL cells slots Q n σ pc lv (.ref (G.1 + a) :: st) := by
  subst hp; subst hx
  intro H locs ls hW hS hl
  exact va_alen C.1 C.2.1 C.2.2.2.2.2.1.1 hW.2.1 a 0 (by rw [ns_wl_at G σ ha, ns_cE_I G σ hkd]) rfl rfl hd (kk H locs ls hW hS hl)
theorem v_iast (C : ns_Cx G p s m args meth c cc own nL) {a : Nat} {i x : Int32} {σ' : ns_St} (hσ : σ' = ns_pI σ a (ns_ix i) x) (ha : a < n) (hkd : ns_kd a = 10) (hi : vp_in i (ns_ln a)) (pc' : Nat) (hp : pc + 1 = pc') (hd : decode cc pc = .ok (.iastore, 1)) (kk : VV G p l e R s m args below meth c nL cells slots Q n σ' pc' lv st) : VV G p l e R s m args below meth c nL cells slots Q n σ pc lv (.int x :: .int i :: .ref (G.1 + a) :: st) := by
  subst hp; subst hσ
  intro H locs ls hW hS hl
  have h00 := hW.2.1 a (G.1 + a, .inl (G.2.2.1 10, ns_ln a, .inl (σ.1 a))) (by rw [ns_wl_at G σ ha, ns_cE_I G σ hkd])
  have h0 : H[G.1 + a]? = some (arrV (G.2.2.1 10) (ns_ln a) (fun j => .int (σ.1 a j))) := h00
  refine W.iast C.1 C.2.1 h0 ((C.2.2.2.2.2.1.1.2 0 _ rfl).1 (ns_ln a) (fun j => .int (σ.1 a j))) (fun q => by cases q) (by rw [arrV_size]; exact hi) rfl rfl hd fun H1 e1 z oq => ?_
  refine kk H1 _ ls (ns_set hW z oq ?_ ns_pI_ne) (hS.put z oq (Nat.le_add_right _ _)) hl
  rw [ns_cE_I G _ hkd]
  show H1[G.1 + a]? = some (vp_cell _ _)
  rw [vp_cell_i, e1, arrV_store]
  congr 2
  funext q
  by_cases hq : q = i.toNatClampNeg
  · subst hq; simp [updV, ns_pI, va_up]
  · simp [updV, ns_pI, va_up, hq]
theorem v_last (C : ns_Cx G p s m args meth c cc own nL) {a : Nat} {i : Int32} {x : Int64} {σ' : ns_St} (hσ : σ' = ns_pJ σ a (ns_ix i) x) (ha : a < n) (hkd : ns_kd a = 11) (hi : vp_in i (ns_ln a)) (pc' : Nat) (hp : pc + 1 = pc') (hd : decode cc pc = .ok (.lastore, 1)) (kk : VV G p l e R s m args below meth c nL cells slots Q n σ' pc' lv st) : VV G p l e R s m args below meth c nL cells slots Q n σ pc lv (.long x :: .int i :: .ref (G.1 + a) :: st) := by
  subst hp; subst hσ
  intro H locs ls hW hS hl
  have h00 := hW.2.1 a (G.1 + a, .inl (G.2.2.1 11, ns_ln a, .inr (.inl (σ.2.1 a)))) (by rw [ns_wl_at G σ ha, ns_cE_J G σ hkd])
  have h0 : H[G.1 + a]? = some (arrV (G.2.2.1 11) (ns_ln a) (fun j => .long (σ.2.1 a j))) := h00
  refine W.last C.1 C.2.1 h0 ((C.2.2.2.2.2.1.1.2 1 _ rfl).1 (ns_ln a) (fun j => .long (σ.2.1 a j))) (fun q => by cases q) (by rw [arrV_size]; exact hi) rfl rfl hd fun H1 e1 z oq => ?_
  refine kk H1 _ ls (ns_set hW z oq ?_ ns_pJ_ne) (hS.put z oq (Nat.le_add_right _ _)) hl
  rw [ns_cE_J G _ hkd]
  show H1[G.1 + a]? = some (vp_cell _ _)
  rw [vp_cell_l, e1, arrV_store]
  congr 2
  funext q
  by_cases hq : q = i.toNatClampNeg
  · subst hq; simp [updV, ns_pJ, va_up]
  · simp [updV, ns_pJ, va_up, hq]
/-! returns -/
theorem v_iret (C : ns_Cx G p s m args meth c cc own nL) (hr : meth.sig.returnType = some .int) {x : Int32} (hd : decode cc pc = .ok (.ireturn, 1)) : VV G p l e R s m args below meth c nL cells slots (MQ below (ns_Qc G (some (.int x)) n σ) args s cells slots (ns_A G)) n σ pc lv [.int x] :=
  fun H locs ls hW hS hl => W.iret C.1 C.2.1 hr (fun t ht hw => ⟨rfl, by rw [ht]; exact hW, hS.F ht⟩) hS.2.2 hd C.2.2.2.2.2.2
theorem v_zret (C : ns_Cx G p s m args meth c cc own nL) (hr : meth.sig.returnType = some .boolean) {x : Int32} (hn : narrow .boolean (.int x) = .int x) (hd : decode cc pc = .ok (.ireturn, 1)) : VV G p l e R s m args below meth c nL cells slots (MQ below (ns_Qc G (some (.int x)) n σ) args s cells slots (ns_A G)) n σ pc lv [.int x] :=
  fun H locs ls hW hS hl => W.zret C.1 C.2.1 hr hn (fun t ht hw => ⟨rfl, by rw [ht]; exact hW, hS.F ht⟩) hS.2.2 hd C.2.2.2.2.2.2
theorem v_lret (C : ns_Cx G p s m args meth c cc own nL) (hr : meth.sig.returnType = some .long) {x : Int64} (hd : decode cc pc = .ok (.lreturn, 1)) : VV G p l e R s m args below meth c nL cells slots (MQ below (ns_Qc G (some (.long x)) n σ) args s cells slots (ns_A G)) n σ pc lv [.long x] :=
  fun H locs ls hW hS hl => W.lret C.1 C.2.1 hr (fun t ht hw => ⟨rfl, by rw [ht]; exact hW, hS.F ht⟩) hS.2.2 hd C.2.2.2.2.2.2
theorem v_vret (C : ns_Cx G p s m args meth c cc own nL) (hr : meth.sig.returnType = none) (hd : decode cc pc = .ok (.return_, 1)) : VV G p l e R s m args below meth c nL cells slots (MQ below (ns_Qc G none n σ) args s cells slots (ns_A G)) n σ pc lv [] :=
  fun H locs ls hW hS hl => W.vret C.1 C.2.1 hr (fun t ht hw => ⟨rfl, by rw [ht]; exact hW, hS.F ht⟩) hS.2.2 hd C.2.2.2.2.2.2
theorem v_aret (C : ns_Cx G p s m args meth c cc own nL) {nm : String} (hr : meth.sig.returnType = some (.object nm)) {x : Option Nat} (hd : decode cc pc = .ok (.areturn, 1)) : VV G p l e R s m args below meth c nL cells slots (MQ below (ns_Qc G (some (va_rf (ns_rf G.1 x))) n σ) args s cells slots (ns_A G)) n σ pc lv [va_rf (ns_rf G.1 x)] :=
  fun H locs ls hW hS hl => W.aret C.1 C.2.1 hr (Or.inl ⟨_, rfl⟩) (by cases x with | none => exact Or.inl rfl | some b => exact Or.inr ⟨_, rfl⟩) (fun t ht hw => ⟨rfl, by rw [ht]; exact hW, hS.F ht⟩) hS.2.2 hd C.2.2.2.2.2.2
/-! calls -/
theorem ns_call {mc ms : Nat} {H : Heap} {locs : List Loc} {ls : Array Slot} {st0 rest : List Value} {o : Option Value} {n' : Nat} {σ' : ns_St} {a : Array Value} (hr : va_Run p l e R s m args below meth c H locs cells slots mc ms (F0 m pc ls st0) rest (ns_Qc G o n' σ' a) (ns_A G)) (hS : va_S (ns_A G) s.heap H locs)
    (kk : ∀ (H1 : Heap) (locs1 : List Loc), ns_Wd G n' σ' H1 → va_S (ns_A G) s.heap H1 locs1 → W p l e R s m args below meth c H1 locs1 (cells + mc) (slots + ms) Q (F0 m (pc + 3) ls (o.toList ++ rest))) : W p l e R s m args below meth c H locs cells slots Q (F0 m pc ls st0) := by
  intro T hT X
  obtain ⟨v, st₀, t, T', L, h0, X', hL, e1, e2, ⟨hv, hW, hz, hk⟩, st⟩ := hr T hT X
  cases hv
  rw [h0] at hz hk
  obtain ⟨t2, a1, b1⟩ := kk T'.heap (locs ++ L) (by rw [e1]; exact hW)
    ⟨Nat.le_trans hS.1 (by rw [e1]; exact hz), fun q h1 h2 => by rw [e1, hk q (Nat.lt_of_lt_of_le h1 hS.1) h2]; exact hS.2.1 q h1 h2, fun q hq => by
      rcases List.mem_append.mp hq with h | h
      · exact hS.2.2 q h
      · exact hL q h⟩ T' rfl X'
  exact ⟨t2, st t2 a1, b1⟩
theorem ns_good {y : MethodName} {bytes : ByteArray} {maxL : Nat} {ret : Option FieldType} (h : Cond.code y bytes maxL ret ∈ ns_TB) : GoodIn ns_TB (Cond.code y bytes maxL ret :: ns_TB) := by
  intro w hw
  have hm : w ∈ ns_TB := by
    rcases List.mem_cons.mp hw with rfl | h2
    · exact h
    · exact h2
  exact ⟨hm, good_of_word (List.mem_filter.mp hm).2⟩
theorem ns_blind (G : ns_G) (av : List Value) (n : Nat) (σ : ns_St) : FrameBlind (va_Pc av (fun U => ns_Wd G n σ U.heap ∧ ns_K G U)) :=
  fun a U g mk h => ⟨h.1, h.2.1, ns_K.same (s := U) (U := U.calling g mk a) rfl h.2.2⟩
theorem ns_sums (xs : List Value) (m : MethodId) (ls : Array Slot) (st0 : List Value) (h : (xs.map fun v => v.category).sum ≤ 8) : 2 * (F0 m pc ls st0).monitorRoom + (xs.map fun v => v.category).sum ≤ 8 := lv_room h
theorem v_callV (C : ns_Cx G p s m args meth c cc own nL) {a : Nat} (ci : Nat) {Cn : String} {T : u_T} {N : Nat} (hc : ns_cl[ci]? = some (Cn, T, N)) (ha : a < n) (hkd : ns_kd a = ci) (hci : ci < 10) {y : MethodName} {bytes : ByteArray} {maxL : Nat} {ret : Option FieldType} {fr lo mc ms : Nat} (As rest : List Value) {o : Option Value} {n' : Nat} {σ' : ns_St} (hM : ns_ok G l y bytes maxL ret fr lo mc ms (.ref (G.1 + a) :: As) n σ o n' σ') (i na : Nat) (hcode : Cond.code y bytes maxL ret ∈ ns_TB) (hlink : Cond.methodLink own i y ∈ ns_TB) (hinst : Cond.instanceMethod y ∈ ns_TB) (hsel : Cond.selects Cn y y ∈ ns_TB) (hini : Cond.initialized Cn ∈ ns_TB) (hd1 : y.cls = Cn ∧ y.cls ≠ "java/lang/invoke/MethodHandle" ∧ y.cls ≠ "java/lang/invoke/VarHandle" ∧ (parseMethodDescriptor y.desc).map (fun d => d.parameters.length) = some na) (hna : As.length = na) (hR : fr + 1 ≤ R.frames ∧ 8 + (maxL + 11) + lo ≤ R.locals) (hf : cells + mc ≤ R.cells ∧ slots + ms ≤ R.slots) (hsum : (rest.map fun v => v.category).sum ≤ 8) (hst : st = As.reverse ++ .ref (G.1 + a) :: rest) (pc' : Nat) (hp : pc + 3 = pc') (hd : decode cc pc = .ok (.invokevirtual i, 3)) (st' : List Value) (hst' : o.toList ++ rest = st') (kk : VV G p l e R s m args below meth c nL (cells + mc) (slots + ms) Q n' σ' pc' lv st') : VV G p l e R s m args below meth c nL cells slots Q n σ pc lv st := by
  subst hp; subst hst'
  intro H locs ls hW hS hl
  have hts := C.2.2.2.2.1
  refine ns_call (n' := n') (σ' := σ') (va_runV (As := As) (rest := rest) (C := Cn) (n := na) ⟨C.1, C.2.1, C.2.2.1, C.2.2.2.1, hts⟩ hM ⟨⟨rfl, rfl, hR.1, hR.2, pay_in hts (ns_good hcode), List.mem_cons_self, hts _ hcode, hd1.1.symm ▸ hts _ hini, ⟨hd1.2.1, hd1.2.2.1⟩, fun sig h => ?_, hts _ hlink⟩, hts _ hinst, hts _ hsel⟩ ⟨ns_blind G _ n σ, ?_, fun U hU hw => ⟨rfl, by rw [hU]; exact hW, ns_K.warm hw C.2.2.2.2.2.1⟩⟩ rfl hna hl.1 hst (lv_room hsum) hd hf) hS (fun H1 locs1 h1 h2 => kk H1 locs1 ls h1 h2 hl)
  · have h2 := hd1.2.2.2
    rw [h] at h2
    exact (Option.some.inj h2).symm
  · exact va_recv C.2.2.2.2.2.1.1 hW.2.1 hc (by rw [ns_wl_at G σ ha, ns_cE_obj G σ hkd hci])
theorem v_callVN (C : ns_Cx G p s m args meth c cc own nL) {a : Nat} (ci : Nat) {Cn host : String} {T : u_T} {N : Nat} (hc : ns_cl[ci]? = some (Cn, T, N)) (ha : a < n) (hkd : ns_kd a = ci) (hci : ci < 10) {y : MethodName} {bytes : ByteArray} {maxL : Nat} {ret : Option FieldType} {fr lo mc ms : Nat} (As rest : List Value) {o : Option Value} {n' : Nat} {σ' : ns_St} (hM : ns_ok G l y bytes maxL ret fr lo mc ms (.ref (G.1 + a) :: As) n σ o n' σ') (i na : Nat) (hcode : Cond.code y bytes maxL ret ∈ ns_TB) (hlink : Cond.methodLinkNest own i y host ∈ ns_NB) (hinst : Cond.instanceMethod y ∈ ns_TB) (hsel : Cond.selects Cn y y ∈ ns_TB) (hini : Cond.initialized Cn ∈ ns_TB) (hd1 : y.cls = Cn ∧ y.cls ≠ "java/lang/invoke/MethodHandle" ∧ y.cls ≠ "java/lang/invoke/VarHandle" ∧ (parseMethodDescriptor y.desc).map (fun d => d.parameters.length) = some na) (hna : As.length = na) (hR : fr + 1 ≤ R.frames ∧ 8 + (maxL + 11) + lo ≤ R.locals) (hf : cells + mc ≤ R.cells ∧ slots + ms ≤ R.slots) (hsum : (rest.map fun v => v.category).sum ≤ 8) (hst : st = As.reverse ++ .ref (G.1 + a) :: rest) (pc' : Nat) (hp : pc + 3 = pc') (hd : decode cc pc = .ok (.invokevirtual i, 3)) (st' : List Value) (hst' : o.toList ++ rest = st') (kk : VV G p l e R s m args below meth c nL (cells + mc) (slots + ms) Q n' σ' pc' lv st') : VV G p l e R s m args below meth c nL cells slots Q n σ pc lv st := by
  subst hp; subst hst'
  intro H locs ls hW hS hl
  have hts := C.2.2.2.2.1
  refine ns_call (n' := n') (σ' := σ') (va_runVN (As := As) (rest := rest) (C := Cn) (n := na) ⟨C.1, C.2.1, C.2.2.1, C.2.2.2.1, hts⟩ hM ⟨va_cnB na hts (ns_good hcode) rfl rfl rfl (C.2.2.2.2.2.1.2.1 _ hlink) (hd1.1.symm ▸ hts _ hini) hd1.2 hR, hts _ hinst, hts _ hsel⟩ ⟨ns_blind G _ n σ, ?_, fun U hU hw => ⟨rfl, by rw [hU]; exact hW, ns_K.warm hw C.2.2.2.2.2.1⟩⟩ rfl hna hl.1 hst (lv_room hsum) hd hf) hS (fun H1 locs1 h1 h2 => kk H1 locs1 ls h1 h2 hl)
  exact va_recv C.2.2.2.2.2.1.1 hW.2.1 hc (by rw [ns_wl_at G σ ha, ns_cE_obj G σ hkd hci])
theorem v_callS (C : ns_Cx G p s m args meth c cc own nL) {y : MethodName} {bytes : ByteArray} {maxL : Nat} {ret : Option FieldType} {fr lo mc ms : Nat} (As rest : List Value) {o : Option Value} {n' : Nat} {σ' : ns_St} (hM : ns_ok G l y bytes maxL ret fr lo mc ms As n σ o n' σ') (i na : Nat) (hcode : Cond.code y bytes maxL ret ∈ ns_TB) (hlink : Cond.methodLink own i y ∈ ns_TB) (hstat : Cond.static y ∈ ns_TB) (hini : Cond.initialized y.cls ∈ ns_TB) (hd1 : y.cls ≠ "java/lang/invoke/MethodHandle" ∧ y.cls ≠ "java/lang/invoke/VarHandle" ∧ (parseMethodDescriptor y.desc).map (fun d => d.parameters.length) = some na) (hna : As.length = na) (hR : fr + 1 ≤ R.frames ∧ 8 + (maxL + 11) + lo ≤ R.locals) (hf : cells + mc ≤ R.cells ∧ slots + ms ≤ R.slots) (hsum : (rest.map fun v => v.category).sum ≤ 8) (hst : st = As.reverse ++ rest) (pc' : Nat) (hp : pc + 3 = pc') (hd : decode cc pc = .ok (.invokestatic i, 3)) (st' : List Value) (hst' : o.toList ++ rest = st') (kk : VV G p l e R s m args below meth c nL (cells + mc) (slots + ms) Q n' σ' pc' lv st') : VV G p l e R s m args below meth c nL cells slots Q n σ pc lv st := by
  subst hp; subst hst'
  intro H locs ls hW hS hl
  have hts := C.2.2.2.2.1
  refine ns_call (n' := n') (σ' := σ') (va_runS (As := As) (rest := rest) (n := na) ⟨C.1, C.2.1, C.2.2.1, C.2.2.2.1, hts⟩ hM ⟨⟨rfl, rfl, hR.1, hR.2, pay_in hts (ns_good hcode), List.mem_cons_self, hts _ hcode, hts _ hini, ⟨hd1.1, hd1.2.1⟩, fun sig h => ?_, hts _ hlink⟩, hts _ hstat⟩ ⟨ns_blind G _ n σ, fun U hU hw => ⟨rfl, by rw [hU]; exact hW, ns_K.warm hw C.2.2.2.2.2.1⟩⟩ rfl hna hl.1 hst (lv_room hsum) hd hf) hS (fun H1 locs1 h1 h2 => kk H1 locs1 ls h1 h2 hl)
  have h2 := hd1.2.2
  rw [h] at h2
  exact (Option.some.inj h2).symm
theorem v_callSN (C : ns_Cx G p s m args meth c cc own nL) {y : MethodName} {host : String} {bytes : ByteArray} {maxL : Nat} {ret : Option FieldType} {fr lo mc ms : Nat} (As rest : List Value) {o : Option Value} {n' : Nat} {σ' : ns_St} (hM : ns_ok G l y bytes maxL ret fr lo mc ms As n σ o n' σ') (i na : Nat) (hcode : Cond.code y bytes maxL ret ∈ ns_TB) (hlink : Cond.methodLinkNest own i y host ∈ ns_NB) (hstat : Cond.static y ∈ ns_TB) (hini : Cond.initialized y.cls ∈ ns_TB) (hd1 : y.cls ≠ "java/lang/invoke/MethodHandle" ∧ y.cls ≠ "java/lang/invoke/VarHandle" ∧ (parseMethodDescriptor y.desc).map (fun d => d.parameters.length) = some na) (hna : As.length = na) (hR : fr + 1 ≤ R.frames ∧ 8 + (maxL + 11) + lo ≤ R.locals) (hf : cells + mc ≤ R.cells ∧ slots + ms ≤ R.slots) (hsum : (rest.map fun v => v.category).sum ≤ 8) (hst : st = As.reverse ++ rest) (pc' : Nat) (hp : pc + 3 = pc') (hd : decode cc pc = .ok (.invokestatic i, 3)) (st' : List Value) (hst' : o.toList ++ rest = st') (kk : VV G p l e R s m args below meth c nL (cells + mc) (slots + ms) Q n' σ' pc' lv st') : VV G p l e R s m args below meth c nL cells slots Q n σ pc lv st := by
  subst hp; subst hst'
  intro H locs ls hW hS hl
  have hts := C.2.2.2.2.1
  exact ns_call (n' := n') (σ' := σ') (va_runSN (As := As) (rest := rest) (n := na) ⟨C.1, C.2.1, C.2.2.1, C.2.2.2.1, hts⟩ hM ⟨va_cnB na hts (ns_good hcode) rfl rfl rfl (C.2.2.2.2.2.1.2.1 _ hlink) (hts _ hini) hd1 hR, hts _ hstat, trivial⟩ ⟨ns_blind G _ n σ, fun U hU hw => ⟨rfl, by rw [hU]; exact hW, ns_K.warm hw C.2.2.2.2.2.1⟩⟩ rfl hna hl.1 hst (lv_room hsum) hd hf) hS (fun H1 locs1 h1 h2 => kk H1 locs1 ls h1 h2 hl)
end ROWS
section ROWS2
variable {G : ns_G} {p : Program} {l : Launch} {e : Env} {R : Room} {s : State} {m : MethodId} {args : Array Value} {below : List Frame} {meth : Method} {c : Code} {cc : ByteArray} {own : String} {nL cells slots : Nat} {Q : State → Prop} {n : Nat} {σ : ns_St} {pc : Nat} {lv : List (Nat × Value)} {st : List Value}
theorem v_putI (C : ns_Cx G p s m args meth c cc own nL) {a : Nat} {x : Int32} {σ' : ns_St} (ci k : Nat) (hσ : σ' = ns_pI σ a k x) {Cn : String} {T : u_T} {N : Nat} (hc : ns_cl[ci]? = some (Cn, T, N)) (hin : ∀ w ∈ u_ws Cn T N, w ∈ ns_TB) (ty0 : Nat → FieldType) (hty : ∀ k, k < N → parseFieldDescriptor (T k).2.2.1 = some (ty0 k)) (hnm : ∀ a, a < N → ∀ b, b < N → a ≠ b → (T a).2.1 ≠ (T b).2.1) (ha : a < n) (hkd : ns_kd a = ci) (hci : ci < 10) (hkN : k < N) (ht : (ns_ft ci)[k]? = some 0) (hfin : (T k).2.2.2 = false) (hn : narrow (ty0 k) (.int x) = .int x) (hfit : fits (ty0 k) (.int x) = true) (i : Nat) {ref : String} (hw : Cond.fieldLink own i ref (T k).2.1 (T k).2.2.1 ∈ ns_TB) (href : (T k).1 = ref) (pc' : Nat) (hp : pc + 3 = pc') (hd : decode cc pc = .ok (.putfield i, 3)) (kk : VV G p l e R s m args below meth c nL cells slots Q n σ' pc' lv st) : VV G p l e R s m args below meth c nL cells slots Q n σ pc lv (.int x :: .ref (G.1 + a) :: st) := by
  subst hσ; exact v_put C ci hc hin ty0 hty hnm k 0 ha hkd hci hkN ht hfin hn hfit (ns_fl_pI G.1 σ a ci k x ht) ns_pI_ne i hw href pc' hp hd kk
theorem v_putIN (C : ns_Cx G p s m args meth c cc own nL) {a : Nat} {x : Int32} {σ' : ns_St} (ci k : Nat) (hσ : σ' = ns_pI σ a k x) {Cn : String} {host : String} {T : u_T} {N : Nat} (hc : ns_cl[ci]? = some (Cn, T, N)) (hin : ∀ w ∈ u_ws Cn T N, w ∈ ns_TB) (ty0 : Nat → FieldType) (hty : ∀ k, k < N → parseFieldDescriptor (T k).2.2.1 = some (ty0 k)) (hnm : ∀ a, a < N → ∀ b, b < N → a ≠ b → (T a).2.1 ≠ (T b).2.1) (ha : a < n) (hkd : ns_kd a = ci) (hci : ci < 10) (hkN : k < N) (ht : (ns_ft ci)[k]? = some 0) (hfin : (T k).2.2.2 = false) (hn : narrow (ty0 k) (.int x) = .int x) (hfit : fits (ty0 k) (.int x) = true) (i : Nat) {ref : String} (hw : Cond.fieldLinkNest own i ref (T k).2.1 (T k).2.2.1 host ∈ ns_NB) (href : (T k).1 = ref) (pc' : Nat) (hp : pc + 3 = pc') (hd : decode cc pc = .ok (.putfield i, 3)) (kk : VV G p l e R s m args below meth c nL cells slots Q n σ' pc' lv st) : VV G p l e R s m args below meth c nL cells slots Q n σ pc lv (.int x :: .ref (G.1 + a) :: st) := by
  subst hσ; exact v_putN C ci hc hin ty0 hty hnm k 0 ha hkd hci hkN ht hfin hn hfit (ns_fl_pI G.1 σ a ci k x ht) ns_pI_ne i hw href pc' hp hd kk
theorem v_putIF (C : ns_Cx G p s m args meth c cc own nL) (hname : meth.name = "<init>") {a : Nat} {x : Int32} {σ' : ns_St} (ci k : Nat) (hσ : σ' = ns_pI σ a k x) {Cn : String} {T : u_T} {N : Nat} (hc : ns_cl[ci]? = some (Cn, T, N)) (hin : ∀ w ∈ u_ws Cn T N, w ∈ ns_TB) (ty0 : Nat → FieldType) (hty : ∀ k, k < N → parseFieldDescriptor (T k).2.2.1 = some (ty0 k)) (hnm : ∀ a, a < N → ∀ b, b < N → a ≠ b → (T a).2.1 ≠ (T b).2.1) (ha : a < n) (hkd : ns_kd a = ci) (hci : ci < 10) (hkN : k < N) (ht : (ns_ft ci)[k]? = some 0) (hfin : (T k).2.2.2 = true) (hn : narrow (ty0 k) (.int x) = .int x) (hfit : fits (ty0 k) (.int x) = true) (i : Nat) {ref : String} (hw : Cond.fieldLink own i ref (T k).2.1 (T k).2.2.1 ∈ ns_TB) (href : (T k).1 = ref) (hdecl : (T k).1 = own) (pc' : Nat) (hp : pc + 3 = pc') (hd : decode cc pc = .ok (.putfield i, 3)) (kk : VV G p l e R s m args below meth c nL cells slots Q n σ' pc' lv st) : VV G p l e R s m args below meth c nL cells slots Q n σ pc lv (.int x :: .ref (G.1 + a) :: st) := by
  subst hσ; exact v_putF C hname ci hc hin ty0 hty hnm k 0 ha hkd hci hkN ht hfin hn hfit (ns_fl_pI G.1 σ a ci k x ht) ns_pI_ne i hw href hdecl pc' hp hd kk
theorem v_putJ (C : ns_Cx G p s m args meth c cc own nL) {a : Nat} {x : Int64} {σ' : ns_St} (ci k : Nat) (hσ : σ' = ns_pJ σ a k x) {Cn : String} {T : u_T} {N : Nat} (hc : ns_cl[ci]? = some (Cn, T, N)) (hin : ∀ w ∈ u_ws Cn T N, w ∈ ns_TB) (ty0 : Nat → FieldType) (hty : ∀ k, k < N → parseFieldDescriptor (T k).2.2.1 = some (ty0 k)) (hnm : ∀ a, a < N → ∀ b, b < N → a ≠ b → (T a).2.1 ≠ (T b).2.1) (ha : a < n) (hkd : ns_kd a = ci) (hci : ci < 10) (hkN : k < N) (ht : (ns_ft ci)[k]? = some 1) (hfin : (T k).2.2.2 = false) (hn : narrow (ty0 k) (.long x) = .long x) (hfit : fits (ty0 k) (.long x) = true) (i : Nat) {ref : String} (hw : Cond.fieldLink own i ref (T k).2.1 (T k).2.2.1 ∈ ns_TB) (href : (T k).1 = ref) (pc' : Nat) (hp : pc + 3 = pc') (hd : decode cc pc = .ok (.putfield i, 3)) (kk : VV G p l e R s m args below meth c nL cells slots Q n σ' pc' lv st) : VV G p l e R s m args below meth c nL cells slots Q n σ pc lv (.long x :: .ref (G.1 + a) :: st) := by
  subst hσ; exact v_put C ci hc hin ty0 hty hnm k 1 ha hkd hci hkN ht hfin hn hfit (ns_fl_pJ G.1 σ a ci k x ht) ns_pJ_ne i hw href pc' hp hd kk
theorem v_putJN (C : ns_Cx G p s m args meth c cc own nL) {a : Nat} {x : Int64} {σ' : ns_St} (ci k : Nat) (hσ : σ' = ns_pJ σ a k x) {Cn : String} {host : String} {T : u_T} {N : Nat} (hc : ns_cl[ci]? = some (Cn, T, N)) (hin : ∀ w ∈ u_ws Cn T N, w ∈ ns_TB) (ty0 : Nat → FieldType) (hty : ∀ k, k < N → parseFieldDescriptor (T k).2.2.1 = some (ty0 k)) (hnm : ∀ a, a < N → ∀ b, b < N → a ≠ b → (T a).2.1 ≠ (T b).2.1) (ha : a < n) (hkd : ns_kd a = ci) (hci : ci < 10) (hkN : k < N) (ht : (ns_ft ci)[k]? = some 1) (hfin : (T k).2.2.2 = false) (hn : narrow (ty0 k) (.long x) = .long x) (hfit : fits (ty0 k) (.long x) = true) (i : Nat) {ref : String} (hw : Cond.fieldLinkNest own i ref (T k).2.1 (T k).2.2.1 host ∈ ns_NB) (href : (T k).1 = ref) (pc' : Nat) (hp : pc + 3 = pc') (hd : decode cc pc = .ok (.putfield i, 3)) (kk : VV G p l e R s m args below meth c nL cells slots Q n σ' pc' lv st) : VV G p l e R s m args below meth c nL cells slots Q n σ pc lv (.long x :: .ref (G.1 + a) :: st) := by
  subst hσ; exact v_putN C ci hc hin ty0 hty hnm k 1 ha hkd hci hkN ht hfin hn hfit (ns_fl_pJ G.1 σ a ci k x ht) ns_pJ_ne i hw href pc' hp hd kk
theorem v_putJF (C : ns_Cx G p s m args meth c cc own nL) (hname : meth.name = "<init>") {a : Nat} {x : Int64} {σ' : ns_St} (ci k : Nat) (hσ : σ' = ns_pJ σ a k x) {Cn : String} {T : u_T} {N : Nat} (hc : ns_cl[ci]? = some (Cn, T, N)) (hin : ∀ w ∈ u_ws Cn T N, w ∈ ns_TB) (ty0 : Nat → FieldType) (hty : ∀ k, k < N → parseFieldDescriptor (T k).2.2.1 = some (ty0 k)) (hnm : ∀ a, a < N → ∀ b, b < N → a ≠ b → (T a).2.1 ≠ (T b).2.1) (ha : a < n) (hkd : ns_kd a = ci) (hci : ci < 10) (hkN : k < N) (ht : (ns_ft ci)[k]? = some 1) (hfin : (T k).2.2.2 = true) (hn : narrow (ty0 k) (.long x) = .long x) (hfit : fits (ty0 k) (.long x) = true) (i : Nat) {ref : String} (hw : Cond.fieldLink own i ref (T k).2.1 (T k).2.2.1 ∈ ns_TB) (href : (T k).1 = ref) (hdecl : (T k).1 = own) (pc' : Nat) (hp : pc + 3 = pc') (hd : decode cc pc = .ok (.putfield i, 3)) (kk : VV G p l e R s m args below meth c nL cells slots Q n σ' pc' lv st) : VV G p l e R s m args below meth c nL cells slots Q n σ pc lv (.long x :: .ref (G.1 + a) :: st) := by
  subst hσ; exact v_putF C hname ci hc hin ty0 hty hnm k 1 ha hkd hci hkN ht hfin hn hfit (ns_fl_pJ G.1 σ a ci k x ht) ns_pJ_ne i hw href hdecl pc' hp hd kk
theorem v_putR (C : ns_Cx G p s m args meth c cc own nL) {a : Nat} {x : Option Nat} {σ' : ns_St} (ci k : Nat) (hσ : σ' = ns_pR σ a k x) {Cn : String} {T : u_T} {N : Nat} (hc : ns_cl[ci]? = some (Cn, T, N)) (hin : ∀ w ∈ u_ws Cn T N, w ∈ ns_TB) (ty0 : Nat → FieldType) (hty : ∀ k, k < N → parseFieldDescriptor (T k).2.2.1 = some (ty0 k)) (hnm : ∀ a, a < N → ∀ b, b < N → a ≠ b → (T a).2.1 ≠ (T b).2.1) (ha : a < n) (hkd : ns_kd a = ci) (hci : ci < 10) (hkN : k < N) (ht : (ns_ft ci)[k]? = some 2) (hfin : (T k).2.2.2 = false) (hn : narrow (ty0 k) (va_rf (ns_rf G.1 x)) = va_rf (ns_rf G.1 x)) (hfit : fits (ty0 k) (va_rf (ns_rf G.1 x)) = true) (i : Nat) {ref : String} (hw : Cond.fieldLink own i ref (T k).2.1 (T k).2.2.1 ∈ ns_TB) (href : (T k).1 = ref) (pc' : Nat) (hp : pc + 3 = pc') (hd : decode cc pc = .ok (.putfield i, 3)) (kk : VV G p l e R s m args below meth c nL cells slots Q n σ' pc' lv st) : VV G p l e R s m args below meth c nL cells slots Q n σ pc lv (va_rf (ns_rf G.1 x) :: .ref (G.1 + a) :: st) := by
  subst hσ; exact v_put C ci hc hin ty0 hty hnm k 2 ha hkd hci hkN ht hfin hn hfit (ns_fl_pR G.1 σ a ci k x ht) ns_pR_ne i hw href pc' hp hd kk
theorem v_putRN (C : ns_Cx G p s m args meth c cc own nL) {a : Nat} {x : Option Nat} {σ' : ns_St} (ci k : Nat) (hσ : σ' = ns_pR σ a k x) {Cn : String} {host : String} {T : u_T} {N : Nat} (hc : ns_cl[ci]? = some (Cn, T, N)) (hin : ∀ w ∈ u_ws Cn T N, w ∈ ns_TB) (ty0 : Nat → FieldType) (hty : ∀ k, k < N → parseFieldDescriptor (T k).2.2.1 = some (ty0 k)) (hnm : ∀ a, a < N → ∀ b, b < N → a ≠ b → (T a).2.1 ≠ (T b).2.1) (ha : a < n) (hkd : ns_kd a = ci) (hci : ci < 10) (hkN : k < N) (ht : (ns_ft ci)[k]? = some 2) (hfin : (T k).2.2.2 = false) (hn : narrow (ty0 k) (va_rf (ns_rf G.1 x)) = va_rf (ns_rf G.1 x)) (hfit : fits (ty0 k) (va_rf (ns_rf G.1 x)) = true) (i : Nat) {ref : String} (hw : Cond.fieldLinkNest own i ref (T k).2.1 (T k).2.2.1 host ∈ ns_NB) (href : (T k).1 = ref) (pc' : Nat) (hp : pc + 3 = pc') (hd : decode cc pc = .ok (.putfield i, 3)) (kk : VV G p l e R s m args below meth c nL cells slots Q n σ' pc' lv st) : VV G p l e R s m args below meth c nL cells slots Q n σ pc lv (va_rf (ns_rf G.1 x) :: .ref (G.1 + a) :: st) := by
  subst hσ; exact v_putN C ci hc hin ty0 hty hnm k 2 ha hkd hci hkN ht hfin hn hfit (ns_fl_pR G.1 σ a ci k x ht) ns_pR_ne i hw href pc' hp hd kk
theorem v_putRF (C : ns_Cx G p s m args meth c cc own nL) (hname : meth.name = "<init>") {a : Nat} {x : Option Nat} {σ' : ns_St} (ci k : Nat) (hσ : σ' = ns_pR σ a k x) {Cn : String} {T : u_T} {N : Nat} (hc : ns_cl[ci]? = some (Cn, T, N)) (hin : ∀ w ∈ u_ws Cn T N, w ∈ ns_TB) (ty0 : Nat → FieldType) (hty : ∀ k, k < N → parseFieldDescriptor (T k).2.2.1 = some (ty0 k)) (hnm : ∀ a, a < N → ∀ b, b < N → a ≠ b → (T a).2.1 ≠ (T b).2.1) (ha : a < n) (hkd : ns_kd a = ci) (hci : ci < 10) (hkN : k < N) (ht : (ns_ft ci)[k]? = some 2) (hfin : (T k).2.2.2 = true) (hn : narrow (ty0 k) (va_rf (ns_rf G.1 x)) = va_rf (ns_rf G.1 x)) (hfit : fits (ty0 k) (va_rf (ns_rf G.1 x)) = true) (i : Nat) {ref : String} (hw : Cond.fieldLink own i ref (T k).2.1 (T k).2.2.1 ∈ ns_TB) (href : (T k).1 = ref) (hdecl : (T k).1 = own) (pc' : Nat) (hp : pc + 3 = pc') (hd : decode cc pc = .ok (.putfield i, 3)) (kk : VV G p l e R s m args below meth c nL cells slots Q n σ' pc' lv st) : VV G p l e R s m args below meth c nL cells slots Q n σ pc lv (va_rf (ns_rf G.1 x) :: .ref (G.1 + a) :: st) := by
  subst hσ; exact v_putF C hname ci hc hin ty0 hty hnm k 2 ha hkd hci hkN ht hfin hn hfit (ns_fl_pR G.1 σ a ci k x ht) ns_pR_ne i hw href hdecl pc' hp hd kk
theorem v_getI (C : ns_Cx G p s m args meth c cc own nL) {a : Nat} (ci k : Nat) {Cn : String} {T : u_T} {N : Nat} (hc : ns_cl[ci]? = some (Cn, T, N)) (hin : ∀ w ∈ u_ws Cn T N, w ∈ ns_TB) (ha : a < n) (hkd : ns_kd a = ci) (hci : ci < 10) (hkN : k < N) (ht : (ns_ft ci)[k]? = some 0) (i : Nat) {ref : String} (hw : Cond.fieldLink own i ref (T k).2.1 (T k).2.2.1 ∈ ns_TB) (href : (T k).1 = ref) (pc' : Nat) (hp : pc + 3 = pc') (hd : decode cc pc = .ok (.getfield i, 3)) (kk : VV G p l e R s m args below meth c nL cells slots Q n σ pc' lv (.int (σ.1 a k) :: st)) : VV G p l e R s m args below meth c nL cells slots Q n σ pc lv (.ref (G.1 + a) :: st) :=
  v_get C ci hc hin k 0 _ ha hkd hci hkN ht rfl i hw href pc' hp hd kk
theorem v_getIN (C : ns_Cx G p s m args meth c cc own nL) {a : Nat} (ci k : Nat) {Cn : String} {host : String} {T : u_T} {N : Nat} (hc : ns_cl[ci]? = some (Cn, T, N)) (hin : ∀ w ∈ u_ws Cn T N, w ∈ ns_TB) (ha : a < n) (hkd : ns_kd a = ci) (hci : ci < 10) (hkN : k < N) (ht : (ns_ft ci)[k]? = some 0) (i : Nat) {ref : String} (hw : Cond.fieldLinkNest own i ref (T k).2.1 (T k).2.2.1 host ∈ ns_NB) (href : (T k).1 = ref) (pc' : Nat) (hp : pc + 3 = pc') (hd : decode cc pc = .ok (.getfield i, 3)) (kk : VV G p l e R s m args below meth c nL cells slots Q n σ pc' lv (.int (σ.1 a k) :: st)) : VV G p l e R s m args below meth c nL cells slots Q n σ pc lv (.ref (G.1 + a) :: st) :=
  v_getN C ci hc hin k 0 _ ha hkd hci hkN ht rfl i hw href pc' hp hd kk
theorem v_getJ (C : ns_Cx G p s m args meth c cc own nL) {a : Nat} (ci k : Nat) {Cn : String} {T : u_T} {N : Nat} (hc : ns_cl[ci]? = some (Cn, T, N)) (hin : ∀ w ∈ u_ws Cn T N, w ∈ ns_TB) (ha : a < n) (hkd : ns_kd a = ci) (hci : ci < 10) (hkN : k < N) (ht : (ns_ft ci)[k]? = some 1) (i : Nat) {ref : String} (hw : Cond.fieldLink own i ref (T k).2.1 (T k).2.2.1 ∈ ns_TB) (href : (T k).1 = ref) (pc' : Nat) (hp : pc + 3 = pc') (hd : decode cc pc = .ok (.getfield i, 3)) (kk : VV G p l e R s m args below meth c nL cells slots Q n σ pc' lv (.long (σ.2.1 a k) :: st)) : VV G p l e R s m args below meth c nL cells slots Q n σ pc lv (.ref (G.1 + a) :: st) :=
  v_get C ci hc hin k 1 _ ha hkd hci hkN ht rfl i hw href pc' hp hd kk
theorem v_getJN (C : ns_Cx G p s m args meth c cc own nL) {a : Nat} (ci k : Nat) {Cn : String} {host : String} {T : u_T} {N : Nat} (hc : ns_cl[ci]? = some (Cn, T, N)) (hin : ∀ w ∈ u_ws Cn T N, w ∈ ns_TB) (ha : a < n) (hkd : ns_kd a = ci) (hci : ci < 10) (hkN : k < N) (ht : (ns_ft ci)[k]? = some 1) (i : Nat) {ref : String} (hw : Cond.fieldLinkNest own i ref (T k).2.1 (T k).2.2.1 host ∈ ns_NB) (href : (T k).1 = ref) (pc' : Nat) (hp : pc + 3 = pc') (hd : decode cc pc = .ok (.getfield i, 3)) (kk : VV G p l e R s m args below meth c nL cells slots Q n σ pc' lv (.long (σ.2.1 a k) :: st)) : VV G p l e R s m args below meth c nL cells slots Q n σ pc lv (.ref (G.1 + a) :: st) :=
  v_getN C ci hc hin k 1 _ ha hkd hci hkN ht rfl i hw href pc' hp hd kk
theorem v_getR (C : ns_Cx G p s m args meth c cc own nL) {a b : Nat} (ci k : Nat) (hb : σ.2.2 a k = some b) {Cn : String} {T : u_T} {N : Nat} (hc : ns_cl[ci]? = some (Cn, T, N)) (hin : ∀ w ∈ u_ws Cn T N, w ∈ ns_TB) (ha : a < n) (hkd : ns_kd a = ci) (hci : ci < 10) (hkN : k < N) (ht : (ns_ft ci)[k]? = some 2) (i : Nat) {ref : String} (hw : Cond.fieldLink own i ref (T k).2.1 (T k).2.2.1 ∈ ns_TB) (href : (T k).1 = ref) (pc' : Nat) (hp : pc + 3 = pc') (hd : decode cc pc = .ok (.getfield i, 3)) (kk : VV G p l e R s m args below meth c nL cells slots Q n σ pc' lv (.ref (G.1 + b) :: st)) : VV G p l e R s m args below meth c nL cells slots Q n σ pc lv (.ref (G.1 + a) :: st) :=
  v_get C ci hc hin k 2 (.ref (G.1 + b)) ha hkd hci hkN ht (by show va_rf (ns_rf G.1 (σ.2.2 a k)) = _; rw [hb]; rfl) i hw href pc' hp hd kk
theorem v_getRN (C : ns_Cx G p s m args meth c cc own nL) {a b : Nat} (ci k : Nat) (hb : σ.2.2 a k = some b) {Cn : String} {host : String} {T : u_T} {N : Nat} (hc : ns_cl[ci]? = some (Cn, T, N)) (hin : ∀ w ∈ u_ws Cn T N, w ∈ ns_TB) (ha : a < n) (hkd : ns_kd a = ci) (hci : ci < 10) (hkN : k < N) (ht : (ns_ft ci)[k]? = some 2) (i : Nat) {ref : String} (hw : Cond.fieldLinkNest own i ref (T k).2.1 (T k).2.2.1 host ∈ ns_NB) (href : (T k).1 = ref) (pc' : Nat) (hp : pc + 3 = pc') (hd : decode cc pc = .ok (.getfield i, 3)) (kk : VV G p l e R s m args below meth c nL cells slots Q n σ pc' lv (.ref (G.1 + b) :: st)) : VV G p l e R s m args below meth c nL cells slots Q n σ pc lv (.ref (G.1 + a) :: st) :=
  v_getN C ci hc hin k 2 (.ref (G.1 + b)) ha hkd hci hkN ht (by show va_rf (ns_rf G.1 (σ.2.2 a k)) = _; rw [hb]; rfl) i hw href pc' hp hd kk
theorem v_cV (C : ns_Cx G p s m args meth c cc own nL) {a : Nat} (ci : Nat) {Cn : String} {T : u_T} {N : Nat} (hc : ns_cl[ci]? = some (Cn, T, N)) (ha : a < n) (hkd : ns_kd a = ci) (hci : ci < 10) {y : MethodName} {bytes : ByteArray} {maxL : Nat} {ret : Option FieldType} {fr lo : Nat} (As rest : List Value) {o : Option Value} {n' : Nat} {σ' : ns_St} (hM : ns_ok G l y bytes maxL ret fr lo 0 0 (.ref (G.1 + a) :: As) n σ o n' σ') (i na : Nat) (hcode : Cond.code y bytes maxL ret ∈ ns_TB) (hlink : Cond.methodLink own i y ∈ ns_TB) (hinst : Cond.instanceMethod y ∈ ns_TB) (hsel : Cond.selects Cn y y ∈ ns_TB) (hini : Cond.initialized Cn ∈ ns_TB) (hd1 : y.cls = Cn ∧ y.cls ≠ "java/lang/invoke/MethodHandle" ∧ y.cls ≠ "java/lang/invoke/VarHandle" ∧ (parseMethodDescriptor y.desc).map (fun d => d.parameters.length) = some na) (hna : As.length = na) (hR : fr + 1 ≤ R.frames ∧ 8 + (maxL + 11) + lo ≤ R.locals) (hf : cells ≤ R.cells ∧ slots ≤ R.slots) (hsum : (rest.map fun v => v.category).sum ≤ 8) (hst : st = As.reverse ++ .ref (G.1 + a) :: rest) (pc' : Nat) (hp : pc + 3 = pc') (hd : decode cc pc = .ok (.invokevirtual i, 3)) (st' : List Value) (hst' : o.toList ++ rest = st') (kk : VV G p l e R s m args below meth c nL cells slots Q n' σ' pc' lv st') : VV G p l e R s m args below meth c nL cells slots Q n σ pc lv st :=
  v_callV C ci hc ha hkd hci As rest hM i na hcode hlink hinst hsel hini hd1 hna hR hf hsum hst pc' hp hd st' hst' kk
theorem v_cVN (C : ns_Cx G p s m args meth c cc own nL) {a : Nat} (ci : Nat) {Cn host : String} {T : u_T} {N : Nat} (hc : ns_cl[ci]? = some (Cn, T, N)) (ha : a < n) (hkd : ns_kd a = ci) (hci : ci < 10) {y : MethodName} {bytes : ByteArray} {maxL : Nat} {ret : Option FieldType} {fr lo : Nat} (As rest : List Value) {o : Option Value} {n' : Nat} {σ' : ns_St} (hM : ns_ok G l y bytes maxL ret fr lo 0 0 (.ref (G.1 + a) :: As) n σ o n' σ') (i na : Nat) (hcode : Cond.code y bytes maxL ret ∈ ns_TB) (hlink : Cond.methodLinkNest own i y host ∈ ns_NB) (hinst : Cond.instanceMethod y ∈ ns_TB) (hsel : Cond.selects Cn y y ∈ ns_TB) (hini : Cond.initialized Cn ∈ ns_TB) (hd1 : y.cls = Cn ∧ y.cls ≠ "java/lang/invoke/MethodHandle" ∧ y.cls ≠ "java/lang/invoke/VarHandle" ∧ (parseMethodDescriptor y.desc).map (fun d => d.parameters.length) = some na) (hna : As.length = na) (hR : fr + 1 ≤ R.frames ∧ 8 + (maxL + 11) + lo ≤ R.locals) (hf : cells ≤ R.cells ∧ slots ≤ R.slots) (hsum : (rest.map fun v => v.category).sum ≤ 8) (hst : st = As.reverse ++ .ref (G.1 + a) :: rest) (pc' : Nat) (hp : pc + 3 = pc') (hd : decode cc pc = .ok (.invokevirtual i, 3)) (st' : List Value) (hst' : o.toList ++ rest = st') (kk : VV G p l e R s m args below meth c nL cells slots Q n' σ' pc' lv st') : VV G p l e R s m args below meth c nL cells slots Q n σ pc lv st :=
  v_callVN C ci hc ha hkd hci As rest hM i na hcode hlink hinst hsel hini hd1 hna hR hf hsum hst pc' hp hd st' hst' kk
theorem v_cS (C : ns_Cx G p s m args meth c cc own nL) {y : MethodName} {bytes : ByteArray} {maxL : Nat} {ret : Option FieldType} {fr lo : Nat} (As rest : List Value) {o : Option Value} {n' : Nat} {σ' : ns_St} (hM : ns_ok G l y bytes maxL ret fr lo 0 0 As n σ o n' σ') (i na : Nat) (hcode : Cond.code y bytes maxL ret ∈ ns_TB) (hlink : Cond.methodLink own i y ∈ ns_TB) (hstat : Cond.static y ∈ ns_TB) (hini : Cond.initialized y.cls ∈ ns_TB) (hd1 : y.cls ≠ "java/lang/invoke/MethodHandle" ∧ y.cls ≠ "java/lang/invoke/VarHandle" ∧ (parseMethodDescriptor y.desc).map (fun d => d.parameters.length) = some na) (hna : As.length = na) (hR : fr + 1 ≤ R.frames ∧ 8 + (maxL + 11) + lo ≤ R.locals) (hf : cells ≤ R.cells ∧ slots ≤ R.slots) (hsum : (rest.map fun v => v.category).sum ≤ 8) (hst : st = As.reverse ++ rest) (pc' : Nat) (hp : pc + 3 = pc') (hd : decode cc pc = .ok (.invokestatic i, 3)) (st' : List Value) (hst' : o.toList ++ rest = st') (kk : VV G p l e R s m args below meth c nL cells slots Q n' σ' pc' lv st') : VV G p l e R s m args below meth c nL cells slots Q n σ pc lv st :=
  v_callS C As rest hM i na hcode hlink hstat hini hd1 hna hR hf hsum hst pc' hp hd st' hst' kk
theorem v_cSN (C : ns_Cx G p s m args meth c cc own nL) {y : MethodName} {host : String} {bytes : ByteArray} {maxL : Nat} {ret : Option FieldType} {fr lo : Nat} (As rest : List Value) {o : Option Value} {n' : Nat} {σ' : ns_St} (hM : ns_ok G l y bytes maxL ret fr lo 0 0 As n σ o n' σ') (i na : Nat) (hcode : Cond.code y bytes maxL ret ∈ ns_TB) (hlink : Cond.methodLinkNest own i y host ∈ ns_NB) (hstat : Cond.static y ∈ ns_TB) (hini : Cond.initialized y.cls ∈ ns_TB) (hd1 : y.cls ≠ "java/lang/invoke/MethodHandle" ∧ y.cls ≠ "java/lang/invoke/VarHandle" ∧ (parseMethodDescriptor y.desc).map (fun d => d.parameters.length) = some na) (hna : As.length = na) (hR : fr + 1 ≤ R.frames ∧ 8 + (maxL + 11) + lo ≤ R.locals) (hf : cells ≤ R.cells ∧ slots ≤ R.slots) (hsum : (rest.map fun v => v.category).sum ≤ 8) (hst : st = As.reverse ++ rest) (pc' : Nat) (hp : pc + 3 = pc') (hd : decode cc pc = .ok (.invokestatic i, 3)) (st' : List Value) (hst' : o.toList ++ rest = st') (kk : VV G p l e R s m args below meth c nL cells slots Q n' σ' pc' lv st') : VV G p l e R s m args below meth c nL cells slots Q n σ pc lv st :=
  v_callSN C As rest hM i na hcode hlink hstat hini hd1 hna hR hf hsum hst pc' hp hd st' hst' kk
end ROWS2
section ROWS3
variable {G : ns_G} {p : Program} {l : Launch} {e : Env} {R : Room} {s : State} {m : MethodId} {args : Array Value} {below : List Frame} {meth : Method} {c : Code} {cc : ByteArray} {own : String} {nL cells slots : Nat} {Q : State → Prop} {n : Nat} {σ : ns_St} {pc : Nat} {lv : List (Nat × Value)} {st : List Value}
theorem v_tswO (C : ns_Cx G p s m args meth c cc own nL) (dflt lo hi : Int) (offs : Array Int) (len tgt : Nat) {x : Int32} (h : x.toInt < lo ∨ hi < x.toInt) (ht : (pc : Int) + dflt = (tgt : Int)) (hd : decode cc pc = .ok (.tableswitch dflt lo hi offs, len)) (k : VV G p l e R s m args below meth c nL cells slots Q n σ tgt lv st) : VV G p l e R s m args below meth c nL cells slots Q n σ pc lv (.int x :: st) :=
  fun H locs ls a b d => lv_tableOut C.1 C.2.1 hd h ht (k H locs ls a b d)
theorem v_tswI (C : ns_Cx G p s m args meth c cc own nL) (dflt lo hi : Int) (offs : Array Int) (len tgt : Nat) {x : Int32} (v : Int32) (hx : x = v) (h1 : ¬ v.toInt < lo) (h2 : ¬ hi < v.toInt) (off : Int) (ho : offs[(v.toInt - lo).toNat]? = some off) (ht : (pc : Int) + off = (tgt : Int)) (hd : decode cc pc = .ok (.tableswitch dflt lo hi offs, len)) (k : VV G p l e R s m args below meth c nL cells slots Q n σ tgt lv st) : VV G p l e R s m args below meth c nL cells slots Q n σ pc lv (.int x :: st) := by
  subst hx; exact fun H locs ls a b d => lv_tableIn C.1 C.2.1 hd h1 h2 ho ht (k H locs ls a b d)
end ROWS3
end
section
set_option maxRecDepth 20000 in
theorem tw_4 : (Jvm.Cond.initialized "NinthStep$Mule") ∈ ns_TB := ns_tb (mt_1 (List.mem_of_getElem? (i := 4) (by decide +kernel))) rfl
set_option maxRecDepth 20000 in
theorem tw_13 : (Jvm.Cond.initialized "java/lang/Integer") ∈ ns_TB := ns_tb (mt_1 (List.mem_of_getElem? (i := 13) (by decide +kernel))) rfl
set_option maxRecDepth 20000 in
theorem tw_18 : (Jvm.Cond.initialized "java/lang/Math") ∈ ns_TB := ns_tb (mt_1 (List.mem_of_getElem? (i := 18) (by decide +kernel))) rfl
set_option maxRecDepth 20000 in
theorem tw_46 : (Jvm.Cond.fieldLink "NinthStep$Ground" (15 : Nat) "NinthStep$Ground" "stones" "J") ∈ ns_TB := ns_tb (mt_1 (List.mem_of_getElem? (i := 46) (by decide +kernel))) rfl
set_option maxRecDepth 20000 in
theorem tw_49 : (Jvm.Cond.fieldLinkNest "NinthStep$Mule" (46 : Nat) "NinthStep$Ground" "stones" "J" "NinthStep") ∈ ns_NB := ns_nb (mt_1 (List.mem_of_getElem? (i := 49) (by decide +kernel))) rfl
set_option maxRecDepth 20000 in
theorem tw_51 : (Jvm.Cond.fieldLink "NinthStep$Ground" (19 : Nat) "NinthStep$Ground" "inns" "J") ∈ ns_TB := ns_tb (mt_1 (List.mem_of_getElem? (i := 51) (by decide +kernel))) rfl
set_option maxRecDepth 20000 in
theorem tw_52 : (Jvm.Cond.fieldLinkNest "NinthStep$Mule" (52 : Nat) "NinthStep$Ground" "inns" "J" "NinthStep") ∈ ns_NB := ns_nb (mt_1 (List.mem_of_getElem? (i := 52) (by decide +kernel))) rfl
set_option maxRecDepth 20000 in
theorem tw_54 : (Jvm.Cond.fieldLink "NinthStep$Ground" (22 : Nat) "NinthStep$Ground" "cliffs" "J") ∈ ns_TB := ns_tb (mt_1 (List.mem_of_getElem? (i := 54) (by decide +kernel))) rfl
set_option maxRecDepth 20000 in
theorem tw_58 : (Jvm.Cond.fieldLinkNest "NinthStep$Mule" (59 : Nat) "NinthStep$Ground" "cliffs" "J" "NinthStep") ∈ ns_NB := ns_nb (mt_1 (List.mem_of_getElem? (i := 58) (by decide +kernel))) rfl
set_option maxRecDepth 20000 in
theorem tw_61 : (Jvm.Cond.fieldLink "NinthStep$Ground" (25 : Nat) "NinthStep$Ground" "views" "J") ∈ ns_TB := ns_tb (mt_1 (List.mem_of_getElem? (i := 61) (by decide +kernel))) rfl
set_option maxRecDepth 20000 in
theorem tw_82 : (Jvm.Cond.fieldLink "NinthStep$Mule" (9 : Nat) "NinthStep$Mule" "kind" "I") ∈ ns_TB := ns_tb (mt_1 (List.mem_of_getElem? (i := 82) (by decide +kernel))) rfl
set_option maxRecDepth 20000 in
theorem tw_84 : (Jvm.Cond.fieldLink "NinthStep$Mule" (15 : Nat) "NinthStep$Mule" "number" "I") ∈ ns_TB := ns_tb (mt_1 (List.mem_of_getElem? (i := 84) (by decide +kernel))) rfl
set_option maxRecDepth 20000 in
theorem tw_88 : (Jvm.Cond.fieldLink "NinthStep$Mule" (21 : Nat) "NinthStep$Mule" "at" "I") ∈ ns_TB := ns_tb (mt_1 (List.mem_of_getElem? (i := 88) (by decide +kernel))) rfl
set_option maxRecDepth 20000 in
theorem tw_94 : (Jvm.Cond.fieldLink "NinthStep$Mule" (24 : Nat) "NinthStep$Mule" "count" "I") ∈ ns_TB := ns_tb (mt_1 (List.mem_of_getElem? (i := 94) (by decide +kernel))) rfl
set_option maxRecDepth 20000 in
theorem tw_106 : (Jvm.Cond.fieldLink "NinthStep$Mule" (37 : Nat) "NinthStep$Mule" "stoneWeight" "I") ∈ ns_TB := ns_tb (mt_1 (List.mem_of_getElem? (i := 106) (by decide +kernel))) rfl
set_option maxRecDepth 20000 in
theorem tw_411 : (Jvm.Cond.constantLong "java/lang/Long" (314 : Nat) (6148914691236517205 : Int64)) ∈ ns_TB := ns_tb (mt_2 (List.mem_of_getElem? (i := 171) (by decide +kernel))) rfl
set_option maxRecDepth 20000 in
theorem tw_412 : (Jvm.Cond.constantLong "java/lang/Long" (316 : Nat) (3689348814741910323 : Int64)) ∈ ns_TB := ns_tb (mt_2 (List.mem_of_getElem? (i := 172) (by decide +kernel))) rfl
set_option maxRecDepth 20000 in
theorem tw_413 : (Jvm.Cond.constantLong "java/lang/Long" (318 : Nat) (1085102592571150095 : Int64)) ∈ ns_TB := ns_tb (mt_2 (List.mem_of_getElem? (i := 173) (by decide +kernel))) rfl
set_option maxRecDepth 20000 in
theorem tw_420 : (Jvm.Cond.methodLink "java/lang/Long" (311 : Nat) ({ cls := "java/lang/Integer", name := "numberOfTrailingZeros", desc := "(I)I" } : Jvm.MethodName)) ∈ ns_TB := ns_tb (mt_2 (List.mem_of_getElem? (i := 180) (by decide +kernel))) rfl
set_option maxRecDepth 20000 in
theorem tw_421 : (Jvm.Cond.static ({ cls := "java/lang/Integer", name := "numberOfTrailingZeros", desc := "(I)I" } : Jvm.MethodName)) ∈ ns_TB := ns_tb (mt_2 (List.mem_of_getElem? (i := 181) (by decide +kernel))) rfl
set_option maxRecDepth 20000 in
theorem tw_422 : (Jvm.Cond.code ({ cls := "java/lang/Integer", name := "numberOfTrailingZeros", desc := "(I)I" } : Jvm.MethodName) prog_12_method_48_code (2 : Nat) (Option.some Jvm.ClassFile.FieldType.int)) ∈ ns_TB := ns_tb (mt_2 (List.mem_of_getElem? (i := 182) rfl)) rfl
set_option maxRecDepth 20000 in
theorem tw_423 : (Jvm.Cond.constant "java/lang/Integer" (264 : Nat) (65536 : Int32)) ∈ ns_TB := ns_tb (mt_2 (List.mem_of_getElem? (i := 183) (by decide +kernel))) rfl
set_option maxRecDepth 20000 in
theorem tw_438 : (Jvm.Cond.methodLink "java/lang/Long" (308 : Nat) ({ cls := "java/lang/Integer", name := "numberOfLeadingZeros", desc := "(I)I" } : Jvm.MethodName)) ∈ ns_TB := ns_tb (mt_2 (List.mem_of_getElem? (i := 198) (by decide +kernel))) rfl
set_option maxRecDepth 20000 in
theorem tw_439 : (Jvm.Cond.static ({ cls := "java/lang/Integer", name := "numberOfLeadingZeros", desc := "(I)I" } : Jvm.MethodName)) ∈ ns_TB := ns_tb (mt_2 (List.mem_of_getElem? (i := 199) (by decide +kernel))) rfl
set_option maxRecDepth 20000 in
theorem tw_440 : (Jvm.Cond.code ({ cls := "java/lang/Integer", name := "numberOfLeadingZeros", desc := "(I)I" } : Jvm.MethodName) prog_12_method_47_code (2 : Nat) (Option.some Jvm.ClassFile.FieldType.int)) ∈ ns_TB := ns_tb (mt_2 (List.mem_of_getElem? (i := 200) rfl)) rfl
set_option maxRecDepth 20000 in
theorem tw_657 : (Jvm.Cond.methodLink "NinthStep$Mule" (55 : Nat) ({ cls := "NinthStep$Mule", name := "mayStop", desc := "(LNinthStep$Ground;)Z" } : Jvm.MethodName)) ∈ ns_TB := ns_tb (mt_3 (List.mem_of_getElem? (i := 177) (by decide +kernel))) rfl
set_option maxRecDepth 20000 in
theorem tw_659 : (Jvm.Cond.instanceMethod ({ cls := "NinthStep$Mule", name := "mayStop", desc := "(LNinthStep$Ground;)Z" } : Jvm.MethodName)) ∈ ns_TB := ns_tb (mt_3 (List.mem_of_getElem? (i := 179) (by decide +kernel))) rfl
set_option maxRecDepth 20000 in
theorem tw_660 : (Jvm.Cond.code ({ cls := "NinthStep$Mule", name := "mayStop", desc := "(LNinthStep$Ground;)Z" } : Jvm.MethodName) prog_4_method_8_code (2 : Nat) (Option.some Jvm.ClassFile.FieldType.boolean)) ∈ ns_TB := ns_tb (mt_3 (List.mem_of_getElem? (i := 180) rfl)) rfl
set_option maxRecDepth 20000 in
theorem tw_661 : (Jvm.Cond.methodLink "NinthStep$Mule" (40 : Nat) ({ cls := "java/lang/Math", name := "min", desc := "(II)I" } : Jvm.MethodName)) ∈ ns_TB := ns_tb (mt_3 (List.mem_of_getElem? (i := 181) (by decide +kernel))) rfl
set_option maxRecDepth 20000 in
theorem tw_662 : (Jvm.Cond.static ({ cls := "java/lang/Math", name := "min", desc := "(II)I" } : Jvm.MethodName)) ∈ ns_TB := ns_tb (mt_3 (List.mem_of_getElem? (i := 182) (by decide +kernel))) rfl
set_option maxRecDepth 20000 in
theorem tw_663 : (Jvm.Cond.code ({ cls := "java/lang/Math", name := "min", desc := "(II)I" } : Jvm.MethodName) prog_14_method_69_code (2 : Nat) (Option.some Jvm.ClassFile.FieldType.int)) ∈ ns_TB := ns_tb (mt_3 (List.mem_of_getElem? (i := 183) rfl)) rfl
theorem ts_33 : Jvm.Cond.selects "NinthStep$Mule" (⟨"NinthStep$Mule", "mayStop", "(LNinthStep$Ground;)Z"⟩ : MethodName) (⟨"NinthStep$Mule", "mayStop", "(LNinthStep$Ground;)Z"⟩ : MethodName) ∈ ns_TB := ns_tbS (List.mem_of_getElem? (i := 33) (by decide +kernel)) rfl
end
section
def g_Math_min (σ : ns_St) (x0 : Int32) (x1 : Int32) : Option (Int32 × ns_St) := ite2 (x1 < x0) (some (x1, σ)) (some (x0, σ))
def g_Math_max (σ : ns_St) (x0 : Int32) (x1 : Int32) : Option (Int32 × ns_St) := ite2 (x0 < x1) (some (x1, σ)) (some (x0, σ))
def g_Integer_numberOfTrailingZeros_62  (σ : ns_St) (x0 : Int32) (x1 : Int32) : Option (Int32 × ns_St) := ite2 (x0 ≤ (4 : Int32)) (some ((x1 + ((x0.toUInt32 >>> ((1 : Int32).toUInt32 &&& Int32.toUInt32 31)).toInt32)), σ)) (bnd (x1 + 2) fun z16 => bnd ((x0.toUInt32 >>> ((2 : Int32).toUInt32 &&& Int32.toUInt32 31)).toInt32) fun z17 => some ((z16 + ((z17.toUInt32 >>> ((1 : Int32).toUInt32 &&& Int32.toUInt32 31)).toInt32)), σ))
def g_Integer_numberOfTrailingZeros_49  (σ : ns_St) (x0 : Int32) (x1 : Int32) : Option (Int32 × ns_St) := ite2 (x0 ≤ (16 : Int32)) (g_Integer_numberOfTrailingZeros_62 σ x0 x1) (bnd (x1 + 4) fun z19 => bnd ((x0.toUInt32 >>> ((4 : Int32).toUInt32 &&& Int32.toUInt32 31)).toInt32) fun z20 => g_Integer_numberOfTrailingZeros_62 σ z20 z19)
def g_Integer_numberOfTrailingZeros_34  (σ : ns_St) (x0 : Int32) (x1 : Int32) : Option (Int32 × ns_St) := ite2 (x0 ≤ (256 : Int32)) (g_Integer_numberOfTrailingZeros_49 σ x0 x1) (bnd (x1 + 8) fun z22 => bnd ((x0.toUInt32 >>> ((8 : Int32).toUInt32 &&& Int32.toUInt32 31)).toInt32) fun z23 => g_Integer_numberOfTrailingZeros_49 σ z23 z22)
def g_Integer_numberOfTrailingZeros (σ : ns_St) (x0 : Int32) : Option (Int32 × ns_St) := bnd ((x0 ^^^ (-1 : Int32)) &&& (x0 - (1 : Int32))) fun z24 => ite2 (0 < z24) (ite2 (z24 ≤ (65536 : Int32)) (g_Integer_numberOfTrailingZeros_34 σ z24 (1 : Int32)) (bnd ((1 : Int32) + 16) fun z27 => bnd ((z24.toUInt32 >>> ((16 : Int32).toUInt32 &&& Int32.toUInt32 31)).toInt32) fun z28 => g_Integer_numberOfTrailingZeros_34 σ z28 z27)) (some ((z24 &&& (32 : Int32)), σ))
def g_Integer_numberOfLeadingZeros_61  (σ : ns_St) (x0 : Int32) (x1 : Int32) : Option (Int32 × ns_St) := ite2 (x0 < (4 : Int32)) (some ((x1 - ((x0.toUInt32 >>> ((1 : Int32).toUInt32 &&& Int32.toUInt32 31)).toInt32)), σ)) (bnd (x1 + (-2)) fun z16 => bnd ((x0.toUInt32 >>> ((2 : Int32).toUInt32 &&& Int32.toUInt32 31)).toInt32) fun z17 => some ((z16 - ((z17.toUInt32 >>> ((1 : Int32).toUInt32 &&& Int32.toUInt32 31)).toInt32)), σ))
def g_Integer_numberOfLeadingZeros_48  (σ : ns_St) (x0 : Int32) (x1 : Int32) : Option (Int32 × ns_St) := ite2 (x0 < (16 : Int32)) (g_Integer_numberOfLeadingZeros_61 σ x0 x1) (bnd (x1 + (-4)) fun z19 => bnd ((x0.toUInt32 >>> ((4 : Int32).toUInt32 &&& Int32.toUInt32 31)).toInt32) fun z20 => g_Integer_numberOfLeadingZeros_61 σ z20 z19)
def g_Integer_numberOfLeadingZeros_33  (σ : ns_St) (x0 : Int32) (x1 : Int32) : Option (Int32 × ns_St) := ite2 (x0 < (256 : Int32)) (g_Integer_numberOfLeadingZeros_48 σ x0 x1) (bnd (x1 + (-8)) fun z22 => bnd ((x0.toUInt32 >>> ((8 : Int32).toUInt32 &&& Int32.toUInt32 31)).toInt32) fun z23 => g_Integer_numberOfLeadingZeros_48 σ z23 z22)
def g_Integer_numberOfLeadingZeros (σ : ns_St) (x0 : Int32) : Option (Int32 × ns_St) := ite2 (0 < x0) (ite2 (x0 < (65536 : Int32)) (g_Integer_numberOfLeadingZeros_33 σ x0 (31 : Int32)) (bnd ((31 : Int32) + (-16)) fun z26 => bnd ((x0.toUInt32 >>> ((16 : Int32).toUInt32 &&& Int32.toUInt32 31)).toInt32) fun z27 => g_Integer_numberOfLeadingZeros_33 σ z27 z26)) (ite2 (x0 = 0) (some ((32 : Int32), σ)) (some ((0 : Int32), σ)))
def g_Long_bitCount (σ : ns_St) (x0 : Int64) : Option (Int32 × ns_St) := bnd (x0 - (((x0.toUInt64 >>> ((1 : Int32).toInt64.toUInt64 &&& Int64.toUInt64 63)).toInt64) &&& (6148914691236517205 : Int64))) fun z7 => bnd ((z7 &&& (3689348814741910323 : Int64)) + (((z7.toUInt64 >>> ((2 : Int32).toInt64.toUInt64 &&& Int64.toUInt64 63)).toInt64) &&& (3689348814741910323 : Int64))) fun z8 => bnd ((z8 + ((z8.toUInt64 >>> ((4 : Int32).toInt64.toUInt64 &&& Int64.toUInt64 63)).toInt64)) &&& (1085102592571150095 : Int64)) fun z9 => bnd (z9 + ((z9.toUInt64 >>> ((8 : Int32).toInt64.toUInt64 &&& Int64.toUInt64 63)).toInt64)) fun z10 => bnd (z10 + ((z10.toUInt64 >>> ((16 : Int32).toInt64.toUInt64 &&& Int64.toUInt64 63)).toInt64)) fun z11 => bnd (z11 + ((z11.toUInt64 >>> ((32 : Int32).toInt64.toUInt64 &&& Int64.toUInt64 63)).toInt64)) fun z12 => some (((z12.toInt32) &&& (127 : Int32)), σ)
def g_Long_numberOfTrailingZeros (σ : ns_St) (x0 : Int64) : Option (Int32 × ns_St) := bnd (x0.toInt32) fun z7 => ite2 (z7 = 0) (cl2 (g_Integer_numberOfTrailingZeros σ (((x0.toUInt64 >>> ((32 : Int32).toInt64.toUInt64 &&& Int64.toUInt64 63)).toInt64).toInt32)) fun r12 σ11 => some (((32 : Int32) + r12), σ11)) (cl2 (g_Integer_numberOfTrailingZeros σ z7) fun r10 σ9 => some (r10, σ9))
def g_Long_numberOfLeadingZeros (σ : ns_St) (x0 : Int64) : Option (Int32 × ns_St) := bnd (((x0.toUInt64 >>> ((32 : Int32).toInt64.toUInt64 &&& Int64.toUInt64 63)).toInt64).toInt32) fun z7 => ite2 (z7 = 0) (cl2 (g_Integer_numberOfLeadingZeros σ (x0.toInt32)) fun r12 σ11 => some (((32 : Int32) + r12), σ11)) (cl2 (g_Integer_numberOfLeadingZeros σ z7) fun r10 σ9 => some (r10, σ9))
def g_Mule_mayStop (σ : ns_St) (a0 : Nat) (a1 : Nat) : Option (Int32 × ns_St) := grd (ns_kd a0 = 2) <| grd (ns_kd a1 = 1) <| ite2 ((σ.1 a0 3) < (σ.1 a0 1)) (some ((0 : Int32), σ)) (ite2 ((σ.1 a0 0) = (3 : Int32)) (ite2 ((lg_cmp ((((σ.2.1 a1 3).toUInt64 >>> ((σ.1 a0 2).toInt64.toUInt64 &&& Int64.toUInt64 63)).toInt64) &&& (1 : Int64)) (0 : Int64)) = 0) (some ((1 : Int32), σ)) (some ((0 : Int32), σ))) (some ((1 : Int32), σ)))
def g_Mule_makeStep_110  (σ : ns_St) (a0 : Nat) (x3 : Int32) (x4 : Int32) : Option (Int32 × ns_St) := ite2 (x3 = 0) (grd (x4 = 0 ∨ x4 = 1) <| some (x4, σ)) (ite2 ((σ.1 a0 0) = (4 : Int32)) (cl2 (g_Math_min σ (64 : Int32) ((2 : Int32) * (σ.1 a0 1))) fun r26 σ25 => bnd (ns_pI σ25 a0 1 r26) fun σ27 => grd (x4 = 0 ∨ x4 = 1) <| some (x4, σ27)) (grd (x4 = 0 ∨ x4 = 1) <| some (x4, σ)))
def g_Mule_makeStep_98  (σ : ns_St) (s0 : Int32) (a0 : Nat) (x3 : Int32) : Option (Int32 × ns_St) := ite2 (s0 = 0) (g_Mule_makeStep_110 σ a0 x3 s0) (bnd (ns_pI σ a0 3 (0 : Int32)) fun σ30 => g_Mule_makeStep_110 σ30 a0 x3 s0)
def g_Mule_makeStep_93  (σ : ns_St) (a0 : Nat) (x3 : Int32) : Option (Int32 × ns_St) := g_Mule_makeStep_98 σ (1 : Int32) a0 x3
def g_Mule_makeStep_97  (σ : ns_St) (a0 : Nat) (x3 : Int32) : Option (Int32 × ns_St) := g_Mule_makeStep_98 σ (0 : Int32) a0 x3
def g_Mule_makeStep_72  (σ : ns_St) (s0 : Int32) (a0 : Nat) (a1 : Nat) : Option (Int32 × ns_St) := cl2 (g_Mule_mayStop σ a0 a1) fun r32 σ31 => ite2 (r32 = 0) (ite2 (s0 = 0) (g_Mule_makeStep_97 σ31 a0 s0) (ite2 ((σ31.1 a0 0) = (5 : Int32)) (g_Mule_makeStep_93 σ31 a0 s0) (g_Mule_makeStep_97 σ31 a0 s0))) (g_Mule_makeStep_93 σ31 a0 s0)
def g_Mule_makeStep_51  (σ : ns_St) (a0 : Nat) (a1 : Nat) : Option (Int32 × ns_St) := ite2 ((lg_cmp ((((σ.2.1 a1 2).toUInt64 >>> ((σ.1 a0 2).toInt64.toUInt64 &&& Int64.toUInt64 63)).toInt64) &&& (1 : Int64)) (0 : Int64)) = 0) (g_Mule_makeStep_72 σ (0 : Int32) a0 a1) (g_Mule_makeStep_72 σ (1 : Int32) a0 a1)
def g_Mule_makeStep (σ : ns_St) (a0 : Nat) (a1 : Nat) (x2 : Int32) : Option (Int32 × ns_St) := grd (ns_kd a0 = 2) <| grd (ns_kd a1 = 1) <| bnd (ns_pI σ a0 2 ((σ.1 a0 2) + (1 : Int32))) fun σ37 => bnd (ns_pI σ37 a0 3 ((σ37.1 a0 3) + ((1 : Int32) + x2))) fun σ38 => ite2 ((lg_cmp ((((σ38.2.1 a1 1).toUInt64 >>> ((σ38.1 a0 2).toInt64.toUInt64 &&& Int64.toUInt64 63)).toInt64) &&& (1 : Int64)) (0 : Int64)) = 0) (g_Mule_makeStep_51 σ38 a0 a1) (bnd (ns_pI σ38 a0 3 ((σ38.1 a0 3) + (σ38.1 a0 7))) fun σ40 => g_Mule_makeStep_51 σ40 a0 a1)
def g_Ground_allOf (σ : ns_St) (a0 : Nat) (x1 : Int32) : Option (Int64 × ns_St) := grd (ns_kd a0 = 1) <| ite2 (x1 = 0) (some ((σ.2.1 a0 1), σ)) (ite2 (x1 = 1) (some ((σ.2.1 a0 2), σ)) (ite2 (x1 = 2) (some ((σ.2.1 a0 3), σ)) (some ((σ.2.1 a0 4), σ))))
theorem c_Math_min (G : ns_G) (l : Launch) (σ : ns_St) (x0 : Int32) (x1 : Int32) {r : Int32} {σ' : ns_St} (hf : g_Math_min σ x0 x1 = some (r, σ')) : ns_ok G l ⟨"java/lang/Math", "min", "(II)I"⟩ prog_14_method_69_code 2 (some .int) 0 0 0 0 [.int x0, .int x1] ns_N σ (some (.int r)) ns_N σ' := by
  refine v_openF (by decide +kernel) (Nat.le_of_ble_eq_true rfl) rfl ?_
  intro p e s m below meth c C hr _
  have C : ns_Cx G p s m _ meth c prog_14_method_69_code "java/lang/Math" 2 := C
  unfold g_Math_min at hf
  refine v_iload_n C 0 0 rfl 1 rfl (by decide +kernel) ?_
  refine v_iload_n C 1 1 rfl 2 rfl (by decide +kernel) ?_
  refine v_icmp_gt C 9 5 rfl (by decide +kernel) (fun h2 => ?_) (fun h2 => ?_)
  · have hf := ite2_t hf h2
    refine v_iload_n C 1 1 rfl 10 rfl (by decide +kernel) ?_
    cases hf
    exact v_iret C hr (by decide +kernel)
  · have hf := ite2_f hf h2
    refine v_iload_n C 0 0 rfl 6 rfl (by decide +kernel) ?_
    refine v_goto C 10 (by decide +kernel) ?_
    cases hf
    exact v_iret C hr (by decide +kernel)
theorem hd_Math_min : (⟨"java/lang/Math", "min", "(II)I"⟩ : MethodName).cls ≠ "java/lang/invoke/MethodHandle" ∧ (⟨"java/lang/Math", "min", "(II)I"⟩ : MethodName).cls ≠ "java/lang/invoke/VarHandle" ∧ (parseMethodDescriptor (⟨"java/lang/Math", "min", "(II)I"⟩ : MethodName).desc).map (fun d => d.parameters.length) = some 2 := by decide +kernel
theorem c_Math_max (G : ns_G) (l : Launch) (σ : ns_St) (x0 : Int32) (x1 : Int32) {r : Int32} {σ' : ns_St} (hf : g_Math_max σ x0 x1 = some (r, σ')) : ns_ok G l ⟨"java/lang/Math", "max", "(II)I"⟩ prog_14_method_65_code 2 (some .int) 0 0 0 0 [.int x0, .int x1] ns_N σ (some (.int r)) ns_N σ' := by
  refine v_openF (by decide +kernel) (Nat.le_of_ble_eq_true rfl) rfl ?_
  intro p e s m below meth c C hr _
  have C : ns_Cx G p s m _ meth c prog_14_method_65_code "java/lang/Math" 2 := C
  unfold g_Math_max at hf
  refine v_iload_n C 0 0 rfl 1 rfl (by decide +kernel) ?_
  refine v_iload_n C 1 1 rfl 2 rfl (by decide +kernel) ?_
  refine v_icmp_lt C 9 5 rfl (by decide +kernel) (fun h2 => ?_) (fun h2 => ?_)
  · have hf := ite2_t hf h2
    refine v_iload_n C 1 1 rfl 10 rfl (by decide +kernel) ?_
    cases hf
    exact v_iret C hr (by decide +kernel)
  · have hf := ite2_f hf h2
    refine v_iload_n C 0 0 rfl 6 rfl (by decide +kernel) ?_
    refine v_goto C 10 (by decide +kernel) ?_
    cases hf
    exact v_iret C hr (by decide +kernel)
theorem hd_Math_max : (⟨"java/lang/Math", "max", "(II)I"⟩ : MethodName).cls ≠ "java/lang/invoke/MethodHandle" ∧ (⟨"java/lang/Math", "max", "(II)I"⟩ : MethodName).cls ≠ "java/lang/invoke/VarHandle" ∧ (parseMethodDescriptor (⟨"java/lang/Math", "max", "(II)I"⟩ : MethodName).desc).map (fun d => d.parameters.length) = some 2 := by decide +kernel
theorem t_Integer_numberOfTrailingZeros_62 (G : ns_G) (l : Launch) {p : Program} {e : Env} {s : State} {m : MethodId} {args : Array Value} {below : List Frame} {meth : Method} {c : Code} (C : ns_Cx G p s m args meth c prog_12_method_48_code "java/lang/Integer" 2) (hr : meth.sig.returnType = (some .int)) {r : Int32} {σ' : ns_St}  (σ : ns_St) (x0 : Int32) (x1 : Int32)  (hf : g_Integer_numberOfTrailingZeros_62 σ x0 x1 = some (r, σ')) : VV G p l e { frames := 0, cells := 0, slots := 0, locals := 0 } s m args below meth c 2 0 0 (MQ below (ns_Qc G (some (.int r)) ns_N σ') args s 0 0 (ns_A G)) ns_N σ 62 [(0, .int x0), (1, .int x1)] [] := by
  unfold g_Integer_numberOfTrailingZeros_62 at hf
  refine v_iload_n C 0 0 rfl 63 rfl (by decide +kernel) ?_
  refine v_iconst C (4) (4) (by decide) 64 rfl (by decide +kernel) ?_
  refine v_icmp_le C 74 67 rfl (by decide +kernel) (fun h15 => ?_) (fun h15 => ?_)
  · have hf := ite2_t hf h15
    refine v_iload_n C 1 1 rfl 75 rfl (by decide +kernel) ?_
    refine v_iload_n C 0 0 rfl 76 rfl (by decide +kernel) ?_
    refine v_iconst C (1) (1) (by decide) 77 rfl (by decide +kernel) ?_
    refine v_iushr C 78 rfl (by decide +kernel) ?_
    refine v_iadd C 79 rfl (by decide +kernel) ?_
    cases hf
    exact v_iret C hr (by decide +kernel)
  · have hf := ite2_f hf h15
    obtain ⟨z16, hz16, hf⟩ := bnd_e hf
    refine v_iinc C 1 (2) 1 z16 rfl (by rw [hz16]; rfl) [(1, .int z16), (0, .int x0)] (by decide) rfl 70 rfl (by decide +kernel) ?_
    refine v_iload_n C 0 1 rfl 71 rfl (by decide +kernel) ?_
    refine v_iconst C (2) (2) (by decide) 72 rfl (by decide +kernel) ?_
    refine v_iushr C 73 rfl (by decide +kernel) ?_
    obtain ⟨z17, hz17, hf⟩ := bnd_e hf
    refine v_nmI hz17 ?_
    refine v_istore_n C 0 [(0, .int z17), (1, .int z16)] (by decide) rfl 74 rfl (by decide +kernel) ?_
    refine v_iload_n C 1 1 rfl 75 rfl (by decide +kernel) ?_
    refine v_iload_n C 0 0 rfl 76 rfl (by decide +kernel) ?_
    refine v_iconst C (1) (1) (by decide) 77 rfl (by decide +kernel) ?_
    refine v_iushr C 78 rfl (by decide +kernel) ?_
    refine v_iadd C 79 rfl (by decide +kernel) ?_
    cases hf
    exact v_iret C hr (by decide +kernel)
theorem t_Integer_numberOfTrailingZeros_49 (G : ns_G) (l : Launch) {p : Program} {e : Env} {s : State} {m : MethodId} {args : Array Value} {below : List Frame} {meth : Method} {c : Code} (C : ns_Cx G p s m args meth c prog_12_method_48_code "java/lang/Integer" 2) (hr : meth.sig.returnType = (some .int)) {r : Int32} {σ' : ns_St}  (σ : ns_St) (x0 : Int32) (x1 : Int32)  (hf : g_Integer_numberOfTrailingZeros_49 σ x0 x1 = some (r, σ')) : VV G p l e { frames := 0, cells := 0, slots := 0, locals := 0 } s m args below meth c 2 0 0 (MQ below (ns_Qc G (some (.int r)) ns_N σ') args s 0 0 (ns_A G)) ns_N σ 49 [(0, .int x0), (1, .int x1)] [] := by
  unfold g_Integer_numberOfTrailingZeros_49 at hf
  refine v_iload_n C 0 0 rfl 50 rfl (by decide +kernel) ?_
  refine v_bipush C (16) (16) (by decide) 52 rfl (by decide +kernel) ?_
  refine v_icmp_le C 62 55 rfl (by decide +kernel) (fun h18 => ?_) (fun h18 => ?_)
  · have hf := ite2_t hf h18
    exact t_Integer_numberOfTrailingZeros_62 G l C hr  σ x0 x1 hf
  · have hf := ite2_f hf h18
    obtain ⟨z19, hz19, hf⟩ := bnd_e hf
    refine v_iinc C 1 (4) 1 z19 rfl (by rw [hz19]; rfl) [(1, .int z19), (0, .int x0)] (by decide) rfl 58 rfl (by decide +kernel) ?_
    refine v_iload_n C 0 1 rfl 59 rfl (by decide +kernel) ?_
    refine v_iconst C (4) (4) (by decide) 60 rfl (by decide +kernel) ?_
    refine v_iushr C 61 rfl (by decide +kernel) ?_
    obtain ⟨z20, hz20, hf⟩ := bnd_e hf
    refine v_nmI hz20 ?_
    refine v_istore_n C 0 [(0, .int z20), (1, .int z19)] (by decide) rfl 62 rfl (by decide +kernel) ?_
    exact t_Integer_numberOfTrailingZeros_62 G l C hr  σ z20 z19 hf
theorem t_Integer_numberOfTrailingZeros_34 (G : ns_G) (l : Launch) {p : Program} {e : Env} {s : State} {m : MethodId} {args : Array Value} {below : List Frame} {meth : Method} {c : Code} (C : ns_Cx G p s m args meth c prog_12_method_48_code "java/lang/Integer" 2) (hr : meth.sig.returnType = (some .int)) {r : Int32} {σ' : ns_St}  (σ : ns_St) (x0 : Int32) (x1 : Int32)  (hf : g_Integer_numberOfTrailingZeros_34 σ x0 x1 = some (r, σ')) : VV G p l e { frames := 0, cells := 0, slots := 0, locals := 0 } s m args below meth c 2 0 0 (MQ below (ns_Qc G (some (.int r)) ns_N σ') args s 0 0 (ns_A G)) ns_N σ 34 [(0, .int x0), (1, .int x1)] [] := by
  unfold g_Integer_numberOfTrailingZeros_34 at hf
  refine v_iload_n C 0 0 rfl 35 rfl (by decide +kernel) ?_
  refine v_sipush C (256) (256) (by decide) 38 rfl (by decide +kernel) ?_
  refine v_icmp_le C 49 41 rfl (by decide +kernel) (fun h21 => ?_) (fun h21 => ?_)
  · have hf := ite2_t hf h21
    exact t_Integer_numberOfTrailingZeros_49 G l C hr  σ x0 x1 hf
  · have hf := ite2_f hf h21
    obtain ⟨z22, hz22, hf⟩ := bnd_e hf
    refine v_iinc C 1 (8) 1 z22 rfl (by rw [hz22]; rfl) [(1, .int z22), (0, .int x0)] (by decide) rfl 44 rfl (by decide +kernel) ?_
    refine v_iload_n C 0 1 rfl 45 rfl (by decide +kernel) ?_
    refine v_bipush C (8) (8) (by decide) 47 rfl (by decide +kernel) ?_
    refine v_iushr C 48 rfl (by decide +kernel) ?_
    obtain ⟨z23, hz23, hf⟩ := bnd_e hf
    refine v_nmI hz23 ?_
    refine v_istore_n C 0 [(0, .int z23), (1, .int z22)] (by decide) rfl 49 rfl (by decide +kernel) ?_
    exact t_Integer_numberOfTrailingZeros_49 G l C hr  σ z23 z22 hf
theorem c_Integer_numberOfTrailingZeros (G : ns_G) (l : Launch) (σ : ns_St) (x0 : Int32) {r : Int32} {σ' : ns_St} (hf : g_Integer_numberOfTrailingZeros σ x0 = some (r, σ')) : ns_ok G l ⟨"java/lang/Integer", "numberOfTrailingZeros", "(I)I"⟩ prog_12_method_48_code 2 (some .int) 0 0 0 0 [.int x0] ns_N σ (some (.int r)) ns_N σ' := by
  refine v_openF (by decide +kernel) (Nat.le_of_ble_eq_true rfl) rfl ?_
  intro p e s m below meth c C hr _
  have C : ns_Cx G p s m _ meth c prog_12_method_48_code "java/lang/Integer" 2 := C
  unfold g_Integer_numberOfTrailingZeros at hf
  refine v_iload_n C 0 0 rfl 1 rfl (by decide +kernel) ?_
  refine v_iconst C (-1) (-1) (by decide) 2 rfl (by decide +kernel) ?_
  refine v_ixor C 3 rfl (by decide +kernel) ?_
  refine v_iload_n C 0 0 rfl 4 rfl (by decide +kernel) ?_
  refine v_iconst C (1) (1) (by decide) 5 rfl (by decide +kernel) ?_
  refine v_isub C 6 rfl (by decide +kernel) ?_
  refine v_iand C 7 rfl (by decide +kernel) ?_
  obtain ⟨z24, hz24, hf⟩ := bnd_e hf
  refine v_nmI hz24 ?_
  refine v_istore_n C 0 [(0, .int z24)] (by decide) rfl 8 rfl (by decide +kernel) ?_
  refine v_iload_n C 0 0 rfl 9 rfl (by decide +kernel) ?_
  refine v_if_gt C 17 12 rfl (by decide +kernel) (fun h25 => ?_) (fun h25 => ?_)
  · have hf := ite2_t hf h25
    refine v_iconst C (1) (1) (by decide) 18 rfl (by decide +kernel) ?_
    refine v_istore_n C 1 [(1, .int (1 : Int32)), (0, .int z24)] (by decide) rfl 19 rfl (by decide +kernel) ?_
    refine v_iload_n C 0 1 rfl 20 rfl (by decide +kernel) ?_
    refine v_ldcw C 264 (65536) tw_423 23 rfl (by decide +kernel) ?_
    refine v_icmp_le C 34 26 rfl (by decide +kernel) (fun h26 => ?_) (fun h26 => ?_)
    · have hf := ite2_t hf h26
      refine v_sub [1, 0] rfl ?_
      exact t_Integer_numberOfTrailingZeros_34 G l C hr  σ z24 (1 : Int32) hf
    · have hf := ite2_f hf h26
      obtain ⟨z27, hz27, hf⟩ := bnd_e hf
      refine v_iinc C 1 (16) 0 z27 rfl (by rw [hz27]; rfl) [(1, .int z27), (0, .int z24)] (by decide) rfl 29 rfl (by decide +kernel) ?_
      refine v_iload_n C 0 1 rfl 30 rfl (by decide +kernel) ?_
      refine v_bipush C (16) (16) (by decide) 32 rfl (by decide +kernel) ?_
      refine v_iushr C 33 rfl (by decide +kernel) ?_
      obtain ⟨z28, hz28, hf⟩ := bnd_e hf
      refine v_nmI hz28 ?_
      refine v_istore_n C 0 [(0, .int z28), (1, .int z27)] (by decide) rfl 34 rfl (by decide +kernel) ?_
      exact t_Integer_numberOfTrailingZeros_34 G l C hr  σ z28 z27 hf
  · have hf := ite2_f hf h25
    refine v_iload_n C 0 0 rfl 13 rfl (by decide +kernel) ?_
    refine v_bipush C (32) (32) (by decide) 15 rfl (by decide +kernel) ?_
    refine v_iand C 16 rfl (by decide +kernel) ?_
    cases hf
    exact v_iret C hr (by decide +kernel)
theorem hd_Integer_numberOfTrailingZeros : (⟨"java/lang/Integer", "numberOfTrailingZeros", "(I)I"⟩ : MethodName).cls ≠ "java/lang/invoke/MethodHandle" ∧ (⟨"java/lang/Integer", "numberOfTrailingZeros", "(I)I"⟩ : MethodName).cls ≠ "java/lang/invoke/VarHandle" ∧ (parseMethodDescriptor (⟨"java/lang/Integer", "numberOfTrailingZeros", "(I)I"⟩ : MethodName).desc).map (fun d => d.parameters.length) = some 1 := by decide +kernel
theorem t_Integer_numberOfLeadingZeros_61 (G : ns_G) (l : Launch) {p : Program} {e : Env} {s : State} {m : MethodId} {args : Array Value} {below : List Frame} {meth : Method} {c : Code} (C : ns_Cx G p s m args meth c prog_12_method_47_code "java/lang/Integer" 2) (hr : meth.sig.returnType = (some .int)) {r : Int32} {σ' : ns_St}  (σ : ns_St) (x0 : Int32) (x1 : Int32)  (hf : g_Integer_numberOfLeadingZeros_61 σ x0 x1 = some (r, σ')) : VV G p l e { frames := 0, cells := 0, slots := 0, locals := 0 } s m args below meth c 2 0 0 (MQ below (ns_Qc G (some (.int r)) ns_N σ') args s 0 0 (ns_A G)) ns_N σ 61 [(0, .int x0), (1, .int x1)] [] := by
  unfold g_Integer_numberOfLeadingZeros_61 at hf
  refine v_iload_n C 0 0 rfl 62 rfl (by decide +kernel) ?_
  refine v_iconst C (4) (4) (by decide) 63 rfl (by decide +kernel) ?_
  refine v_icmp_lt C 73 66 rfl (by decide +kernel) (fun h15 => ?_) (fun h15 => ?_)
  · have hf := ite2_t hf h15
    refine v_iload_n C 1 1 rfl 74 rfl (by decide +kernel) ?_
    refine v_iload_n C 0 0 rfl 75 rfl (by decide +kernel) ?_
    refine v_iconst C (1) (1) (by decide) 76 rfl (by decide +kernel) ?_
    refine v_iushr C 77 rfl (by decide +kernel) ?_
    refine v_isub C 78 rfl (by decide +kernel) ?_
    cases hf
    exact v_iret C hr (by decide +kernel)
  · have hf := ite2_f hf h15
    obtain ⟨z16, hz16, hf⟩ := bnd_e hf
    refine v_iinc C 1 (-2) 1 z16 rfl (by rw [hz16]; rfl) [(1, .int z16), (0, .int x0)] (by decide) rfl 69 rfl (by decide +kernel) ?_
    refine v_iload_n C 0 1 rfl 70 rfl (by decide +kernel) ?_
    refine v_iconst C (2) (2) (by decide) 71 rfl (by decide +kernel) ?_
    refine v_iushr C 72 rfl (by decide +kernel) ?_
    obtain ⟨z17, hz17, hf⟩ := bnd_e hf
    refine v_nmI hz17 ?_
    refine v_istore_n C 0 [(0, .int z17), (1, .int z16)] (by decide) rfl 73 rfl (by decide +kernel) ?_
    refine v_iload_n C 1 1 rfl 74 rfl (by decide +kernel) ?_
    refine v_iload_n C 0 0 rfl 75 rfl (by decide +kernel) ?_
    refine v_iconst C (1) (1) (by decide) 76 rfl (by decide +kernel) ?_
    refine v_iushr C 77 rfl (by decide +kernel) ?_
    refine v_isub C 78 rfl (by decide +kernel) ?_
    cases hf
    exact v_iret C hr (by decide +kernel)
theorem t_Integer_numberOfLeadingZeros_48 (G : ns_G) (l : Launch) {p : Program} {e : Env} {s : State} {m : MethodId} {args : Array Value} {below : List Frame} {meth : Method} {c : Code} (C : ns_Cx G p s m args meth c prog_12_method_47_code "java/lang/Integer" 2) (hr : meth.sig.returnType = (some .int)) {r : Int32} {σ' : ns_St}  (σ : ns_St) (x0 : Int32) (x1 : Int32)  (hf : g_Integer_numberOfLeadingZeros_48 σ x0 x1 = some (r, σ')) : VV G p l e { frames := 0, cells := 0, slots := 0, locals := 0 } s m args below meth c 2 0 0 (MQ below (ns_Qc G (some (.int r)) ns_N σ') args s 0 0 (ns_A G)) ns_N σ 48 [(0, .int x0), (1, .int x1)] [] := by
  unfold g_Integer_numberOfLeadingZeros_48 at hf
  refine v_iload_n C 0 0 rfl 49 rfl (by decide +kernel) ?_
  refine v_bipush C (16) (16) (by decide) 51 rfl (by decide +kernel) ?_
  refine v_icmp_lt C 61 54 rfl (by decide +kernel) (fun h18 => ?_) (fun h18 => ?_)
  · have hf := ite2_t hf h18
    exact t_Integer_numberOfLeadingZeros_61 G l C hr  σ x0 x1 hf
  · have hf := ite2_f hf h18
    obtain ⟨z19, hz19, hf⟩ := bnd_e hf
    refine v_iinc C 1 (-4) 1 z19 rfl (by rw [hz19]; rfl) [(1, .int z19), (0, .int x0)] (by decide) rfl 57 rfl (by decide +kernel) ?_
    refine v_iload_n C 0 1 rfl 58 rfl (by decide +kernel) ?_
    refine v_iconst C (4) (4) (by decide) 59 rfl (by decide +kernel) ?_
    refine v_iushr C 60 rfl (by decide +kernel) ?_
    obtain ⟨z20, hz20, hf⟩ := bnd_e hf
    refine v_nmI hz20 ?_
    refine v_istore_n C 0 [(0, .int z20), (1, .int z19)] (by decide) rfl 61 rfl (by decide +kernel) ?_
    exact t_Integer_numberOfLeadingZeros_61 G l C hr  σ z20 z19 hf
theorem t_Integer_numberOfLeadingZeros_33 (G : ns_G) (l : Launch) {p : Program} {e : Env} {s : State} {m : MethodId} {args : Array Value} {below : List Frame} {meth : Method} {c : Code} (C : ns_Cx G p s m args meth c prog_12_method_47_code "java/lang/Integer" 2) (hr : meth.sig.returnType = (some .int)) {r : Int32} {σ' : ns_St}  (σ : ns_St) (x0 : Int32) (x1 : Int32)  (hf : g_Integer_numberOfLeadingZeros_33 σ x0 x1 = some (r, σ')) : VV G p l e { frames := 0, cells := 0, slots := 0, locals := 0 } s m args below meth c 2 0 0 (MQ below (ns_Qc G (some (.int r)) ns_N σ') args s 0 0 (ns_A G)) ns_N σ 33 [(0, .int x0), (1, .int x1)] [] := by
  unfold g_Integer_numberOfLeadingZeros_33 at hf
  refine v_iload_n C 0 0 rfl 34 rfl (by decide +kernel) ?_
  refine v_sipush C (256) (256) (by decide) 37 rfl (by decide +kernel) ?_
  refine v_icmp_lt C 48 40 rfl (by decide +kernel) (fun h21 => ?_) (fun h21 => ?_)
  · have hf := ite2_t hf h21
    exact t_Integer_numberOfLeadingZeros_48 G l C hr  σ x0 x1 hf
  · have hf := ite2_f hf h21
    obtain ⟨z22, hz22, hf⟩ := bnd_e hf
    refine v_iinc C 1 (-8) 1 z22 rfl (by rw [hz22]; rfl) [(1, .int z22), (0, .int x0)] (by decide) rfl 43 rfl (by decide +kernel) ?_
    refine v_iload_n C 0 1 rfl 44 rfl (by decide +kernel) ?_
    refine v_bipush C (8) (8) (by decide) 46 rfl (by decide +kernel) ?_
    refine v_iushr C 47 rfl (by decide +kernel) ?_
    obtain ⟨z23, hz23, hf⟩ := bnd_e hf
    refine v_nmI hz23 ?_
    refine v_istore_n C 0 [(0, .int z23), (1, .int z22)] (by decide) rfl 48 rfl (by decide +kernel) ?_
    exact t_Integer_numberOfLeadingZeros_48 G l C hr  σ z23 z22 hf
theorem c_Integer_numberOfLeadingZeros (G : ns_G) (l : Launch) (σ : ns_St) (x0 : Int32) {r : Int32} {σ' : ns_St} (hf : g_Integer_numberOfLeadingZeros σ x0 = some (r, σ')) : ns_ok G l ⟨"java/lang/Integer", "numberOfLeadingZeros", "(I)I"⟩ prog_12_method_47_code 2 (some .int) 0 0 0 0 [.int x0] ns_N σ (some (.int r)) ns_N σ' := by
  refine v_openF (by decide +kernel) (Nat.le_of_ble_eq_true rfl) rfl ?_
  intro p e s m below meth c C hr _
  have C : ns_Cx G p s m _ meth c prog_12_method_47_code "java/lang/Integer" 2 := C
  unfold g_Integer_numberOfLeadingZeros at hf
  refine v_iload_n C 0 0 rfl 1 rfl (by decide +kernel) ?_
  refine v_if_gt C 15 4 rfl (by decide +kernel) (fun h24 => ?_) (fun h24 => ?_)
  · have hf := ite2_t hf h24
    refine v_bipush C (31) (31) (by decide) 17 rfl (by decide +kernel) ?_
    refine v_istore_n C 1 [(1, .int (31 : Int32)), (0, .int x0)] (by decide) rfl 18 rfl (by decide +kernel) ?_
    refine v_iload_n C 0 1 rfl 19 rfl (by decide +kernel) ?_
    refine v_ldcw C 264 (65536) tw_423 22 rfl (by decide +kernel) ?_
    refine v_icmp_lt C 33 25 rfl (by decide +kernel) (fun h25 => ?_) (fun h25 => ?_)
    · have hf := ite2_t hf h25
      refine v_sub [1, 0] rfl ?_
      exact t_Integer_numberOfLeadingZeros_33 G l C hr  σ x0 (31 : Int32) hf
    · have hf := ite2_f hf h25
      obtain ⟨z26, hz26, hf⟩ := bnd_e hf
      refine v_iinc C 1 (-16) 0 z26 rfl (by rw [hz26]; rfl) [(1, .int z26), (0, .int x0)] (by decide) rfl 28 rfl (by decide +kernel) ?_
      refine v_iload_n C 0 1 rfl 29 rfl (by decide +kernel) ?_
      refine v_bipush C (16) (16) (by decide) 31 rfl (by decide +kernel) ?_
      refine v_iushr C 32 rfl (by decide +kernel) ?_
      obtain ⟨z27, hz27, hf⟩ := bnd_e hf
      refine v_nmI hz27 ?_
      refine v_istore_n C 0 [(0, .int z27), (1, .int z26)] (by decide) rfl 33 rfl (by decide +kernel) ?_
      exact t_Integer_numberOfLeadingZeros_33 G l C hr  σ z27 z26 hf
  · have hf := ite2_f hf h24
    refine v_iload_n C 0 0 rfl 5 rfl (by decide +kernel) ?_
    refine v_if_ne C 13 8 rfl (by decide +kernel) (fun h28 => ?_) (fun h28 => ?_)
    · have hf := ite2_f hf h28
      refine v_iconst C (0) (0) (by decide) 14 rfl (by decide +kernel) ?_
      cases hf
      exact v_iret C hr (by decide +kernel)
    · have hf := ite2_t hf h28
      refine v_bipush C (32) (32) (by decide) 10 rfl (by decide +kernel) ?_
      refine v_goto C 14 (by decide +kernel) ?_
      cases hf
      exact v_iret C hr (by decide +kernel)
theorem hd_Integer_numberOfLeadingZeros : (⟨"java/lang/Integer", "numberOfLeadingZeros", "(I)I"⟩ : MethodName).cls ≠ "java/lang/invoke/MethodHandle" ∧ (⟨"java/lang/Integer", "numberOfLeadingZeros", "(I)I"⟩ : MethodName).cls ≠ "java/lang/invoke/VarHandle" ∧ (parseMethodDescriptor (⟨"java/lang/Integer", "numberOfLeadingZeros", "(I)I"⟩ : MethodName).desc).map (fun d => d.parameters.length) = some 1 := by decide +kernel
theorem c_Long_bitCount (G : ns_G) (l : Launch) (σ : ns_St) (x0 : Int64) {r : Int32} {σ' : ns_St} (hf : g_Long_bitCount σ x0 = some (r, σ')) : ns_ok G l ⟨"java/lang/Long", "bitCount", "(J)I"⟩ prog_13_method_50_code 2 (some .int) 0 0 0 0 [.long x0] ns_N σ (some (.int r)) ns_N σ' := by
  refine v_openF (by decide +kernel) (Nat.le_of_ble_eq_true rfl) rfl ?_
  intro p e s m below meth c C hr _
  have C : ns_Cx G p s m _ meth c prog_13_method_50_code "java/lang/Long" 2 := C
  unfold g_Long_bitCount at hf
  refine v_lload_n C 0 0 rfl 1 rfl (by decide +kernel) ?_
  refine v_lload_n C 0 0 rfl 2 rfl (by decide +kernel) ?_
  refine v_iconst C (1) (1) (by decide) 3 rfl (by decide +kernel) ?_
  refine v_lushr C 4 rfl (by decide +kernel) ?_
  refine v_ldc2 C 314 (6148914691236517205) tw_411 7 rfl (by decide +kernel) ?_
  refine v_land C 8 rfl (by decide +kernel) ?_
  refine v_lsub C 9 rfl (by decide +kernel) ?_
  obtain ⟨z7, hz7, hf⟩ := bnd_e hf
  refine v_nmJ hz7 ?_
  refine v_lstore_n C 0 [(0, .long z7)] (by decide) rfl 10 rfl (by decide +kernel) ?_
  refine v_lload_n C 0 0 rfl 11 rfl (by decide +kernel) ?_
  refine v_ldc2 C 316 (3689348814741910323) tw_412 14 rfl (by decide +kernel) ?_
  refine v_land C 15 rfl (by decide +kernel) ?_
  refine v_lload_n C 0 0 rfl 16 rfl (by decide +kernel) ?_
  refine v_iconst C (2) (2) (by decide) 17 rfl (by decide +kernel) ?_
  refine v_lushr C 18 rfl (by decide +kernel) ?_
  refine v_ldc2 C 316 (3689348814741910323) tw_412 21 rfl (by decide +kernel) ?_
  refine v_land C 22 rfl (by decide +kernel) ?_
  refine v_ladd C 23 rfl (by decide +kernel) ?_
  obtain ⟨z8, hz8, hf⟩ := bnd_e hf
  refine v_nmJ hz8 ?_
  refine v_lstore_n C 0 [(0, .long z8)] (by decide) rfl 24 rfl (by decide +kernel) ?_
  refine v_lload_n C 0 0 rfl 25 rfl (by decide +kernel) ?_
  refine v_lload_n C 0 0 rfl 26 rfl (by decide +kernel) ?_
  refine v_iconst C (4) (4) (by decide) 27 rfl (by decide +kernel) ?_
  refine v_lushr C 28 rfl (by decide +kernel) ?_
  refine v_ladd C 29 rfl (by decide +kernel) ?_
  refine v_ldc2 C 318 (1085102592571150095) tw_413 32 rfl (by decide +kernel) ?_
  refine v_land C 33 rfl (by decide +kernel) ?_
  obtain ⟨z9, hz9, hf⟩ := bnd_e hf
  refine v_nmJ hz9 ?_
  refine v_lstore_n C 0 [(0, .long z9)] (by decide) rfl 34 rfl (by decide +kernel) ?_
  refine v_lload_n C 0 0 rfl 35 rfl (by decide +kernel) ?_
  refine v_lload_n C 0 0 rfl 36 rfl (by decide +kernel) ?_
  refine v_bipush C (8) (8) (by decide) 38 rfl (by decide +kernel) ?_
  refine v_lushr C 39 rfl (by decide +kernel) ?_
  refine v_ladd C 40 rfl (by decide +kernel) ?_
  obtain ⟨z10, hz10, hf⟩ := bnd_e hf
  refine v_nmJ hz10 ?_
  refine v_lstore_n C 0 [(0, .long z10)] (by decide) rfl 41 rfl (by decide +kernel) ?_
  refine v_lload_n C 0 0 rfl 42 rfl (by decide +kernel) ?_
  refine v_lload_n C 0 0 rfl 43 rfl (by decide +kernel) ?_
  refine v_bipush C (16) (16) (by decide) 45 rfl (by decide +kernel) ?_
  refine v_lushr C 46 rfl (by decide +kernel) ?_
  refine v_ladd C 47 rfl (by decide +kernel) ?_
  obtain ⟨z11, hz11, hf⟩ := bnd_e hf
  refine v_nmJ hz11 ?_
  refine v_lstore_n C 0 [(0, .long z11)] (by decide) rfl 48 rfl (by decide +kernel) ?_
  refine v_lload_n C 0 0 rfl 49 rfl (by decide +kernel) ?_
  refine v_lload_n C 0 0 rfl 50 rfl (by decide +kernel) ?_
  refine v_bipush C (32) (32) (by decide) 52 rfl (by decide +kernel) ?_
  refine v_lushr C 53 rfl (by decide +kernel) ?_
  refine v_ladd C 54 rfl (by decide +kernel) ?_
  obtain ⟨z12, hz12, hf⟩ := bnd_e hf
  refine v_nmJ hz12 ?_
  refine v_lstore_n C 0 [(0, .long z12)] (by decide) rfl 55 rfl (by decide +kernel) ?_
  refine v_lload_n C 0 0 rfl 56 rfl (by decide +kernel) ?_
  refine v_l2i C 57 rfl (by decide +kernel) ?_
  refine v_bipush C (127) (127) (by decide) 59 rfl (by decide +kernel) ?_
  refine v_iand C 60 rfl (by decide +kernel) ?_
  cases hf
  exact v_iret C hr (by decide +kernel)
theorem hd_Long_bitCount : (⟨"java/lang/Long", "bitCount", "(J)I"⟩ : MethodName).cls ≠ "java/lang/invoke/MethodHandle" ∧ (⟨"java/lang/Long", "bitCount", "(J)I"⟩ : MethodName).cls ≠ "java/lang/invoke/VarHandle" ∧ (parseMethodDescriptor (⟨"java/lang/Long", "bitCount", "(J)I"⟩ : MethodName).desc).map (fun d => d.parameters.length) = some 1 := by decide +kernel
theorem c_Long_numberOfTrailingZeros (G : ns_G) (l : Launch) (σ : ns_St) (x0 : Int64) {r : Int32} {σ' : ns_St} (hf : g_Long_numberOfTrailingZeros σ x0 = some (r, σ')) : ns_ok G l ⟨"java/lang/Long", "numberOfTrailingZeros", "(J)I"⟩ prog_13_method_49_code 3 (some .int) 1 21 0 0 [.long x0] ns_N σ (some (.int r)) ns_N σ' := by
  refine v_openF (by decide +kernel) (Nat.le_of_ble_eq_true rfl) rfl ?_
  intro p e s m below meth c C hr _
  have C : ns_Cx G p s m _ meth c prog_13_method_49_code "java/lang/Long" 3 := C
  unfold g_Long_numberOfTrailingZeros at hf
  refine v_lload_n C 0 0 rfl 1 rfl (by decide +kernel) ?_
  refine v_l2i C 2 rfl (by decide +kernel) ?_
  obtain ⟨z7, hz7, hf⟩ := bnd_e hf
  refine v_nmI hz7 ?_
  refine v_istore_n C 2 [(2, .int z7), (0, .long x0)] (by decide) rfl 3 rfl (by decide +kernel) ?_
  refine v_iload_n C 2 0 rfl 4 rfl (by decide +kernel) ?_
  refine v_if_ne C 21 7 rfl (by decide +kernel) (fun h8 => ?_) (fun h8 => ?_)
  · have hf := ite2_f hf h8
    refine v_iload_n C 2 0 rfl 22 rfl (by decide +kernel) ?_
    obtain ⟨r10, σ9, hcr10, hf⟩ := cl2_e hf
    refine v_cS C [.int z7] [] (c_Integer_numberOfTrailingZeros G l σ z7 hcr10) 311 1 tw_422 tw_420 tw_421 tw_13 hd_Integer_numberOfTrailingZeros rfl ⟨(Nat.le_of_ble_eq_true rfl), (Nat.le_of_ble_eq_true rfl)⟩ ⟨(Nat.le_of_ble_eq_true rfl), (Nat.le_of_ble_eq_true rfl)⟩ (Nat.le_of_ble_eq_true rfl) rfl 25 rfl (by decide +kernel) [.int r10] rfl ?_
    cases hf
    exact v_iret C hr (by decide +kernel)
  · have hf := ite2_t hf h8
    refine v_bipush C (32) (32) (by decide) 9 rfl (by decide +kernel) ?_
    refine v_lload_n C 0 1 rfl 10 rfl (by decide +kernel) ?_
    refine v_bipush C (32) (32) (by decide) 12 rfl (by decide +kernel) ?_
    refine v_lushr C 13 rfl (by decide +kernel) ?_
    refine v_l2i C 14 rfl (by decide +kernel) ?_
    obtain ⟨r12, σ11, hcr12, hf⟩ := cl2_e hf
    refine v_cS C [.int (((x0.toUInt64 >>> ((32 : Int32).toInt64.toUInt64 &&& Int64.toUInt64 63)).toInt64).toInt32)] [.int (32 : Int32)] (c_Integer_numberOfTrailingZeros G l σ (((x0.toUInt64 >>> ((32 : Int32).toInt64.toUInt64 &&& Int64.toUInt64 63)).toInt64).toInt32) hcr12) 311 1 tw_422 tw_420 tw_421 tw_13 hd_Integer_numberOfTrailingZeros rfl ⟨(Nat.le_of_ble_eq_true rfl), (Nat.le_of_ble_eq_true rfl)⟩ ⟨(Nat.le_of_ble_eq_true rfl), (Nat.le_of_ble_eq_true rfl)⟩ (Nat.le_of_ble_eq_true rfl) rfl 17 rfl (by decide +kernel) [.int r12, .int (32 : Int32)] rfl ?_
    refine v_iadd C 18 rfl (by decide +kernel) ?_
    refine v_goto C 25 (by decide +kernel) ?_
    cases hf
    exact v_iret C hr (by decide +kernel)
theorem hd_Long_numberOfTrailingZeros : (⟨"java/lang/Long", "numberOfTrailingZeros", "(J)I"⟩ : MethodName).cls ≠ "java/lang/invoke/MethodHandle" ∧ (⟨"java/lang/Long", "numberOfTrailingZeros", "(J)I"⟩ : MethodName).cls ≠ "java/lang/invoke/VarHandle" ∧ (parseMethodDescriptor (⟨"java/lang/Long", "numberOfTrailingZeros", "(J)I"⟩ : MethodName).desc).map (fun d => d.parameters.length) = some 1 := by decide +kernel
theorem c_Long_numberOfLeadingZeros (G : ns_G) (l : Launch) (σ : ns_St) (x0 : Int64) {r : Int32} {σ' : ns_St} (hf : g_Long_numberOfLeadingZeros σ x0 = some (r, σ')) : ns_ok G l ⟨"java/lang/Long", "numberOfLeadingZeros", "(J)I"⟩ prog_13_method_48_code 3 (some .int) 1 21 0 0 [.long x0] ns_N σ (some (.int r)) ns_N σ' := by
  refine v_openF (by decide +kernel) (Nat.le_of_ble_eq_true rfl) rfl ?_
  intro p e s m below meth c C hr _
  have C : ns_Cx G p s m _ meth c prog_13_method_48_code "java/lang/Long" 3 := C
  unfold g_Long_numberOfLeadingZeros at hf
  refine v_lload_n C 0 0 rfl 1 rfl (by decide +kernel) ?_
  refine v_bipush C (32) (32) (by decide) 3 rfl (by decide +kernel) ?_
  refine v_lushr C 4 rfl (by decide +kernel) ?_
  refine v_l2i C 5 rfl (by decide +kernel) ?_
  obtain ⟨z7, hz7, hf⟩ := bnd_e hf
  refine v_nmI hz7 ?_
  refine v_istore_n C 2 [(2, .int z7), (0, .long x0)] (by decide) rfl 6 rfl (by decide +kernel) ?_
  refine v_iload_n C 2 0 rfl 7 rfl (by decide +kernel) ?_
  refine v_if_ne C 21 10 rfl (by decide +kernel) (fun h8 => ?_) (fun h8 => ?_)
  · have hf := ite2_f hf h8
    refine v_iload_n C 2 0 rfl 22 rfl (by decide +kernel) ?_
    obtain ⟨r10, σ9, hcr10, hf⟩ := cl2_e hf
    refine v_cS C [.int z7] [] (c_Integer_numberOfLeadingZeros G l σ z7 hcr10) 308 1 tw_440 tw_438 tw_439 tw_13 hd_Integer_numberOfLeadingZeros rfl ⟨(Nat.le_of_ble_eq_true rfl), (Nat.le_of_ble_eq_true rfl)⟩ ⟨(Nat.le_of_ble_eq_true rfl), (Nat.le_of_ble_eq_true rfl)⟩ (Nat.le_of_ble_eq_true rfl) rfl 25 rfl (by decide +kernel) [.int r10] rfl ?_
    cases hf
    exact v_iret C hr (by decide +kernel)
  · have hf := ite2_t hf h8
    refine v_bipush C (32) (32) (by decide) 12 rfl (by decide +kernel) ?_
    refine v_lload_n C 0 1 rfl 13 rfl (by decide +kernel) ?_
    refine v_l2i C 14 rfl (by decide +kernel) ?_
    obtain ⟨r12, σ11, hcr12, hf⟩ := cl2_e hf
    refine v_cS C [.int (x0.toInt32)] [.int (32 : Int32)] (c_Integer_numberOfLeadingZeros G l σ (x0.toInt32) hcr12) 308 1 tw_440 tw_438 tw_439 tw_13 hd_Integer_numberOfLeadingZeros rfl ⟨(Nat.le_of_ble_eq_true rfl), (Nat.le_of_ble_eq_true rfl)⟩ ⟨(Nat.le_of_ble_eq_true rfl), (Nat.le_of_ble_eq_true rfl)⟩ (Nat.le_of_ble_eq_true rfl) rfl 17 rfl (by decide +kernel) [.int r12, .int (32 : Int32)] rfl ?_
    refine v_iadd C 18 rfl (by decide +kernel) ?_
    refine v_goto C 25 (by decide +kernel) ?_
    cases hf
    exact v_iret C hr (by decide +kernel)
theorem hd_Long_numberOfLeadingZeros : (⟨"java/lang/Long", "numberOfLeadingZeros", "(J)I"⟩ : MethodName).cls ≠ "java/lang/invoke/MethodHandle" ∧ (⟨"java/lang/Long", "numberOfLeadingZeros", "(J)I"⟩ : MethodName).cls ≠ "java/lang/invoke/VarHandle" ∧ (parseMethodDescriptor (⟨"java/lang/Long", "numberOfLeadingZeros", "(J)I"⟩ : MethodName).desc).map (fun d => d.parameters.length) = some 1 := by decide +kernel
theorem c_Mule_mayStop (G : ns_G) (l : Launch) (σ : ns_St) (a0 : Nat) (a1 : Nat) {r : Int32} {σ' : ns_St} (hf : g_Mule_mayStop σ a0 a1 = some (r, σ')) : ns_ok G l ⟨"NinthStep$Mule", "mayStop", "(LNinthStep$Ground;)Z"⟩ prog_4_method_8_code 2 (some .boolean) 0 0 0 0 [.ref (G.1 + a0), .ref (G.1 + a1)] ns_N σ (some (.int r)) ns_N σ' := by
  refine v_open (by decide) (Nat.le_of_ble_eq_true rfl) rfl ?_
  intro p e s m below meth c C hr _
  have C : ns_Cx G p s m _ meth c prog_4_method_8_code "NinthStep$Mule" 2 := C
  unfold g_Mule_mayStop at hf
  obtain ⟨hk_a0, hf⟩ := grd_e hf
  obtain ⟨hk_a1, hf⟩ := grd_e hf
  refine v_aload_n C 0 0 rfl 1 rfl (by decide +kernel) ?_
  refine v_getI C 2 3 rfl nin_2 (ns_kd_lt hk_a0 (by decide)) hk_a0 (by decide) (by decide) rfl 24 tw_94 rfl 4 rfl (by decide +kernel) ?_
  refine v_aload_n C 0 0 rfl 5 rfl (by decide +kernel) ?_
  refine v_getI C 2 1 rfl nin_2 (ns_kd_lt hk_a0 (by decide)) hk_a0 (by decide) (by decide) rfl 15 tw_84 rfl 8 rfl (by decide +kernel) ?_
  refine v_icmp_lt C 39 11 rfl (by decide +kernel) (fun h4 => ?_) (fun h4 => ?_)
  · have hf := ite2_t hf h4
    refine v_iconst C (0) (0) (by decide) 40 rfl (by decide +kernel) ?_
    cases hf
    exact v_zret C hr rfl (by decide +kernel)
  · have hf := ite2_f hf h4
    refine v_aload_n C 0 0 rfl 12 rfl (by decide +kernel) ?_
    refine v_getI C 2 0 rfl nin_2 (ns_kd_lt hk_a0 (by decide)) hk_a0 (by decide) (by decide) rfl 9 tw_82 rfl 15 rfl (by decide +kernel) ?_
    refine v_iconst C (3) (3) (by decide) 16 rfl (by decide +kernel) ?_
    refine v_icmp_ne C 35 19 rfl (by decide +kernel) (fun h5 => ?_) (fun h5 => ?_)
    · have hf := ite2_f hf h5
      refine v_iconst C (1) (1) (by decide) 36 rfl (by decide +kernel) ?_
      refine v_goto C 40 (by decide +kernel) ?_
      cases hf
      exact v_zret C hr rfl (by decide +kernel)
    · have hf := ite2_t hf h5
      refine v_aload_n C 1 1 rfl 20 rfl (by decide +kernel) ?_
      refine v_getJN C 1 3 rfl nin_1 (ns_kd_lt hk_a1 (by decide)) hk_a1 (by decide) (by decide) rfl 59 tw_58 rfl 23 rfl (by decide +kernel) ?_
      refine v_aload_n C 0 0 rfl 24 rfl (by decide +kernel) ?_
      refine v_getI C 2 2 rfl nin_2 (ns_kd_lt hk_a0 (by decide)) hk_a0 (by decide) (by decide) rfl 21 tw_88 rfl 27 rfl (by decide +kernel) ?_
      refine v_lushr C 28 rfl (by decide +kernel) ?_
      refine v_lconst C 1 (1) (by decide) 29 rfl (by decide +kernel) ?_
      refine v_land C 30 rfl (by decide +kernel) ?_
      refine v_lconst C 0 (0) (by decide) 31 rfl (by decide +kernel) ?_
      refine v_lcmp C 32 rfl (by decide +kernel) ?_
      refine v_if_ne C 39 35 rfl (by decide +kernel) (fun h6 => ?_) (fun h6 => ?_)
      · have hf := ite2_f hf h6
        refine v_iconst C (0) (0) (by decide) 40 rfl (by decide +kernel) ?_
        cases hf
        exact v_zret C hr rfl (by decide +kernel)
      · have hf := ite2_t hf h6
        refine v_iconst C (1) (1) (by decide) 36 rfl (by decide +kernel) ?_
        refine v_goto C 40 (by decide +kernel) ?_
        cases hf
        exact v_zret C hr rfl (by decide +kernel)
theorem hd_Mule_mayStop : (⟨"NinthStep$Mule", "mayStop", "(LNinthStep$Ground;)Z"⟩ : MethodName).cls = "NinthStep$Mule" ∧ (⟨"NinthStep$Mule", "mayStop", "(LNinthStep$Ground;)Z"⟩ : MethodName).cls ≠ "java/lang/invoke/MethodHandle" ∧ (⟨"NinthStep$Mule", "mayStop", "(LNinthStep$Ground;)Z"⟩ : MethodName).cls ≠ "java/lang/invoke/VarHandle" ∧ (parseMethodDescriptor (⟨"NinthStep$Mule", "mayStop", "(LNinthStep$Ground;)Z"⟩ : MethodName).desc).map (fun d => d.parameters.length) = some 1 := by decide +kernel
theorem t_Mule_makeStep_110 (G : ns_G) (l : Launch) {p : Program} {e : Env} {s : State} {m : MethodId} {args : Array Value} {below : List Frame} {meth : Method} {c : Code} (C : ns_Cx G p s m args meth c prog_4_method_6_code "NinthStep$Mule" 5) (hr : meth.sig.returnType = (some .boolean)) {r : Int32} {σ' : ns_St}  (σ : ns_St) (a0 : Nat) (x3 : Int32) (x4 : Int32) (hk_a0 : ns_kd a0 = 2) (hf : g_Mule_makeStep_110 σ a0 x3 x4 = some (r, σ')) : VV G p l e { frames := 1, cells := 0, slots := 0, locals := 21 } s m args below meth c 5 0 0 (MQ below (ns_Qc G (some (.int r)) ns_N σ') args s 0 0 (ns_A G)) ns_N σ 110 [(0, .ref (G.1 + a0)), (3, .int x3), (4, .int x4)] [] := by
  unfold g_Mule_makeStep_110 at hf
  refine v_iload_n C 3 1 rfl 111 rfl (by decide +kernel) ?_
  refine v_if_eq C 137 114 rfl (by decide +kernel) (fun h21 => ?_) (fun h21 => ?_)
  · have hf := ite2_t hf h21
    refine v_iload C 4 2 rfl 139 rfl (by decide +kernel) ?_
    obtain ⟨hz22, hf⟩ := grd_e hf
    cases hf
    exact v_zret C hr (ns_z01 hz22) (by decide +kernel)
  · have hf := ite2_f hf h21
    refine v_aload_n C 0 0 rfl 115 rfl (by decide +kernel) ?_
    refine v_getI C 2 0 rfl nin_2 (ns_kd_lt hk_a0 (by decide)) hk_a0 (by decide) (by decide) rfl 9 tw_82 rfl 118 rfl (by decide +kernel) ?_
    refine v_iconst C (4) (4) (by decide) 119 rfl (by decide +kernel) ?_
    refine v_icmp_ne C 137 122 rfl (by decide +kernel) (fun h23 => ?_) (fun h23 => ?_)
    · have hf := ite2_f hf h23
      refine v_iload C 4 2 rfl 139 rfl (by decide +kernel) ?_
      obtain ⟨hz24, hf⟩ := grd_e hf
      cases hf
      exact v_zret C hr (ns_z01 hz24) (by decide +kernel)
    · have hf := ite2_t hf h23
      refine v_aload_n C 0 0 rfl 123 rfl (by decide +kernel) ?_
      refine v_bipush C (64) (64) (by decide) 125 rfl (by decide +kernel) ?_
      refine v_iconst C (2) (2) (by decide) 126 rfl (by decide +kernel) ?_
      refine v_aload_n C 0 0 rfl 127 rfl (by decide +kernel) ?_
      refine v_getI C 2 1 rfl nin_2 (ns_kd_lt hk_a0 (by decide)) hk_a0 (by decide) (by decide) rfl 15 tw_84 rfl 130 rfl (by decide +kernel) ?_
      refine v_imul C 131 rfl (by decide +kernel) ?_
      obtain ⟨r26, σ25, hcr26, hf⟩ := cl2_e hf
      refine v_cS C [.int (64 : Int32), .int ((2 : Int32) * (σ.1 a0 1))] [.ref (G.1 + a0)] (c_Math_min G l σ (64 : Int32) ((2 : Int32) * (σ.1 a0 1)) hcr26) 40 2 tw_663 tw_661 tw_662 tw_18 hd_Math_min rfl ⟨(Nat.le_of_ble_eq_true rfl), (Nat.le_of_ble_eq_true rfl)⟩ ⟨(Nat.le_of_ble_eq_true rfl), (Nat.le_of_ble_eq_true rfl)⟩ (Nat.le_of_ble_eq_true rfl) rfl 134 rfl (by decide +kernel) [.int r26, .ref (G.1 + a0)] rfl ?_
      obtain ⟨σ27, hσ27, hf⟩ := bnd_e hf
      refine v_putI C 2 1 hσ27 rfl nin_2 ny_2 nty_2 nnm_2 (ns_kd_lt hk_a0 (by decide)) hk_a0 (by decide) (by decide) rfl rfl rfl rfl 15 tw_84 rfl 137 rfl (by decide +kernel) ?_
      refine v_iload C 4 2 rfl 139 rfl (by decide +kernel) ?_
      obtain ⟨hz28, hf⟩ := grd_e hf
      cases hf
      exact v_zret C hr (ns_z01 hz28) (by decide +kernel)
theorem t_Mule_makeStep_98 (G : ns_G) (l : Launch) {p : Program} {e : Env} {s : State} {m : MethodId} {args : Array Value} {below : List Frame} {meth : Method} {c : Code} (C : ns_Cx G p s m args meth c prog_4_method_6_code "NinthStep$Mule" 5) (hr : meth.sig.returnType = (some .boolean)) {r : Int32} {σ' : ns_St}  (σ : ns_St) (s0 : Int32) (a0 : Nat) (x3 : Int32) (hk_a0 : ns_kd a0 = 2) (hf : g_Mule_makeStep_98 σ s0 a0 x3 = some (r, σ')) : VV G p l e { frames := 1, cells := 0, slots := 0, locals := 21 } s m args below meth c 5 0 0 (MQ below (ns_Qc G (some (.int r)) ns_N σ') args s 0 0 (ns_A G)) ns_N σ 98 [(0, .ref (G.1 + a0)), (3, .int x3)] [.int s0] := by
  unfold g_Mule_makeStep_98 at hf
  refine v_istore C 4 [(4, .int s0), (0, .ref (G.1 + a0)), (3, .int x3)] (by decide) rfl 100 rfl (by decide +kernel) ?_
  refine v_iload C 4 0 rfl 102 rfl (by decide +kernel) ?_
  refine v_if_eq C 110 105 rfl (by decide +kernel) (fun h29 => ?_) (fun h29 => ?_)
  · have hf := ite2_t hf h29
    refine v_sub [1, 2, 0] rfl ?_
    exact t_Mule_makeStep_110 G l C hr  σ a0 x3 s0 hk_a0 hf
  · have hf := ite2_f hf h29
    refine v_aload_n C 0 1 rfl 106 rfl (by decide +kernel) ?_
    refine v_iconst C (0) (0) (by decide) 107 rfl (by decide +kernel) ?_
    obtain ⟨σ30, hσ30, hf⟩ := bnd_e hf
    refine v_putI C 2 3 hσ30 rfl nin_2 ny_2 nty_2 nnm_2 (ns_kd_lt hk_a0 (by decide)) hk_a0 (by decide) (by decide) rfl rfl rfl rfl 24 tw_94 rfl 110 rfl (by decide +kernel) ?_
    refine v_sub [1, 2, 0] rfl ?_
    exact t_Mule_makeStep_110 G l C hr  σ30 a0 x3 s0 hk_a0 hf
theorem t_Mule_makeStep_93 (G : ns_G) (l : Launch) {p : Program} {e : Env} {s : State} {m : MethodId} {args : Array Value} {below : List Frame} {meth : Method} {c : Code} (C : ns_Cx G p s m args meth c prog_4_method_6_code "NinthStep$Mule" 5) (hr : meth.sig.returnType = (some .boolean)) {r : Int32} {σ' : ns_St}  (σ : ns_St) (a0 : Nat) (x3 : Int32) (hk_a0 : ns_kd a0 = 2) (hf : g_Mule_makeStep_93 σ a0 x3 = some (r, σ')) : VV G p l e { frames := 1, cells := 0, slots := 0, locals := 21 } s m args below meth c 5 0 0 (MQ below (ns_Qc G (some (.int r)) ns_N σ') args s 0 0 (ns_A G)) ns_N σ 93 [(0, .ref (G.1 + a0)), (3, .int x3)] [] := by
  unfold g_Mule_makeStep_93 at hf
  refine v_iconst C (1) (1) (by decide) 94 rfl (by decide +kernel) ?_
  refine v_goto C 98 (by decide +kernel) ?_
  exact t_Mule_makeStep_98 G l C hr  σ (1 : Int32) a0 x3 hk_a0 hf
theorem t_Mule_makeStep_97 (G : ns_G) (l : Launch) {p : Program} {e : Env} {s : State} {m : MethodId} {args : Array Value} {below : List Frame} {meth : Method} {c : Code} (C : ns_Cx G p s m args meth c prog_4_method_6_code "NinthStep$Mule" 5) (hr : meth.sig.returnType = (some .boolean)) {r : Int32} {σ' : ns_St}  (σ : ns_St) (a0 : Nat) (x3 : Int32) (hk_a0 : ns_kd a0 = 2) (hf : g_Mule_makeStep_97 σ a0 x3 = some (r, σ')) : VV G p l e { frames := 1, cells := 0, slots := 0, locals := 21 } s m args below meth c 5 0 0 (MQ below (ns_Qc G (some (.int r)) ns_N σ') args s 0 0 (ns_A G)) ns_N σ 97 [(0, .ref (G.1 + a0)), (3, .int x3)] [] := by
  unfold g_Mule_makeStep_97 at hf
  refine v_iconst C (0) (0) (by decide) 98 rfl (by decide +kernel) ?_
  exact t_Mule_makeStep_98 G l C hr  σ (0 : Int32) a0 x3 hk_a0 hf
theorem t_Mule_makeStep_72 (G : ns_G) (l : Launch) {p : Program} {e : Env} {s : State} {m : MethodId} {args : Array Value} {below : List Frame} {meth : Method} {c : Code} (C : ns_Cx G p s m args meth c prog_4_method_6_code "NinthStep$Mule" 5) (hr : meth.sig.returnType = (some .boolean)) {r : Int32} {σ' : ns_St}  (σ : ns_St) (s0 : Int32) (a0 : Nat) (a1 : Nat) (hk_a0 : ns_kd a0 = 2) (hk_a1 : ns_kd a1 = 1) (hf : g_Mule_makeStep_72 σ s0 a0 a1 = some (r, σ')) : VV G p l e { frames := 1, cells := 0, slots := 0, locals := 21 } s m args below meth c 5 0 0 (MQ below (ns_Qc G (some (.int r)) ns_N σ') args s 0 0 (ns_A G)) ns_N σ 72 [(0, .ref (G.1 + a0)), (1, .ref (G.1 + a1))] [.int s0] := by
  unfold g_Mule_makeStep_72 at hf
  refine v_istore_n C 3 [(3, .int s0), (0, .ref (G.1 + a0)), (1, .ref (G.1 + a1))] (by decide) rfl 73 rfl (by decide +kernel) ?_
  refine v_aload_n C 0 1 rfl 74 rfl (by decide +kernel) ?_
  refine v_aload_n C 1 2 rfl 75 rfl (by decide +kernel) ?_
  obtain ⟨r32, σ31, hcr32, hf⟩ := cl2_e hf
  refine v_cV C 2 rfl (ns_kd_lt hk_a0 (by decide)) hk_a0 (by decide) [.ref (G.1 + a1)] [] (c_Mule_mayStop G l σ a0 a1 hcr32) 55 1 tw_660 tw_657 tw_659 ts_33 tw_4 hd_Mule_mayStop rfl ⟨(Nat.le_of_ble_eq_true rfl), (Nat.le_of_ble_eq_true rfl)⟩ ⟨(Nat.le_of_ble_eq_true rfl), (Nat.le_of_ble_eq_true rfl)⟩ (Nat.le_of_ble_eq_true rfl) rfl 78 rfl (by decide +kernel) [.int r32] rfl ?_
  refine v_if_ne C 93 81 rfl (by decide +kernel) (fun h33 => ?_) (fun h33 => ?_)
  · have hf := ite2_f hf h33
    refine v_sub [1, 0] rfl ?_
    exact t_Mule_makeStep_93 G l C hr  σ31 a0 s0 hk_a0 hf
  · have hf := ite2_t hf h33
    refine v_iload_n C 3 0 rfl 82 rfl (by decide +kernel) ?_
    refine v_if_eq C 97 85 rfl (by decide +kernel) (fun h34 => ?_) (fun h34 => ?_)
    · have hf := ite2_t hf h34
      refine v_sub [1, 0] rfl ?_
      exact t_Mule_makeStep_97 G l C hr  σ31 a0 s0 hk_a0 hf
    · have hf := ite2_f hf h34
      refine v_aload_n C 0 1 rfl 86 rfl (by decide +kernel) ?_
      refine v_getI C 2 0 rfl nin_2 (ns_kd_lt hk_a0 (by decide)) hk_a0 (by decide) (by decide) rfl 9 tw_82 rfl 89 rfl (by decide +kernel) ?_
      refine v_iconst C (5) (5) (by decide) 90 rfl (by decide +kernel) ?_
      refine v_icmp_ne C 97 93 rfl (by decide +kernel) (fun h35 => ?_) (fun h35 => ?_)
      · have hf := ite2_f hf h35
        refine v_sub [1, 0] rfl ?_
        exact t_Mule_makeStep_97 G l C hr  σ31 a0 s0 hk_a0 hf
      · have hf := ite2_t hf h35
        refine v_sub [1, 0] rfl ?_
        exact t_Mule_makeStep_93 G l C hr  σ31 a0 s0 hk_a0 hf
theorem t_Mule_makeStep_51 (G : ns_G) (l : Launch) {p : Program} {e : Env} {s : State} {m : MethodId} {args : Array Value} {below : List Frame} {meth : Method} {c : Code} (C : ns_Cx G p s m args meth c prog_4_method_6_code "NinthStep$Mule" 5) (hr : meth.sig.returnType = (some .boolean)) {r : Int32} {σ' : ns_St}  (σ : ns_St) (a0 : Nat) (a1 : Nat) (hk_a0 : ns_kd a0 = 2) (hk_a1 : ns_kd a1 = 1) (hf : g_Mule_makeStep_51 σ a0 a1 = some (r, σ')) : VV G p l e { frames := 1, cells := 0, slots := 0, locals := 21 } s m args below meth c 5 0 0 (MQ below (ns_Qc G (some (.int r)) ns_N σ') args s 0 0 (ns_A G)) ns_N σ 51 [(0, .ref (G.1 + a0)), (1, .ref (G.1 + a1))] [] := by
  unfold g_Mule_makeStep_51 at hf
  refine v_aload_n C 1 1 rfl 52 rfl (by decide +kernel) ?_
  refine v_getJN C 1 2 rfl nin_1 (ns_kd_lt hk_a1 (by decide)) hk_a1 (by decide) (by decide) rfl 52 tw_52 rfl 55 rfl (by decide +kernel) ?_
  refine v_aload_n C 0 0 rfl 56 rfl (by decide +kernel) ?_
  refine v_getI C 2 2 rfl nin_2 (ns_kd_lt hk_a0 (by decide)) hk_a0 (by decide) (by decide) rfl 21 tw_88 rfl 59 rfl (by decide +kernel) ?_
  refine v_lushr C 60 rfl (by decide +kernel) ?_
  refine v_lconst C 1 (1) (by decide) 61 rfl (by decide +kernel) ?_
  refine v_land C 62 rfl (by decide +kernel) ?_
  refine v_lconst C 0 (0) (by decide) 63 rfl (by decide +kernel) ?_
  refine v_lcmp C 64 rfl (by decide +kernel) ?_
  refine v_if_eq C 71 67 rfl (by decide +kernel) (fun h36 => ?_) (fun h36 => ?_)
  · have hf := ite2_t hf h36
    refine v_iconst C (0) (0) (by decide) 72 rfl (by decide +kernel) ?_
    exact t_Mule_makeStep_72 G l C hr  σ (0 : Int32) a0 a1 hk_a0 hk_a1 hf
  · have hf := ite2_f hf h36
    refine v_iconst C (1) (1) (by decide) 68 rfl (by decide +kernel) ?_
    refine v_goto C 72 (by decide +kernel) ?_
    exact t_Mule_makeStep_72 G l C hr  σ (1 : Int32) a0 a1 hk_a0 hk_a1 hf
theorem c_Mule_makeStep (G : ns_G) (l : Launch) (σ : ns_St) (a0 : Nat) (a1 : Nat) (x2 : Int32) {r : Int32} {σ' : ns_St} (hf : g_Mule_makeStep σ a0 a1 x2 = some (r, σ')) : ns_ok G l ⟨"NinthStep$Mule", "makeStep", "(LNinthStep$Ground;I)Z"⟩ prog_4_method_6_code 5 (some .boolean) 1 21 0 0 [.ref (G.1 + a0), .ref (G.1 + a1), .int x2] ns_N σ (some (.int r)) ns_N σ' := by
  refine v_open (by decide) (Nat.le_of_ble_eq_true rfl) rfl ?_
  intro p e s m below meth c C hr _
  have C : ns_Cx G p s m _ meth c prog_4_method_6_code "NinthStep$Mule" 5 := C
  unfold g_Mule_makeStep at hf
  obtain ⟨hk_a0, hf⟩ := grd_e hf
  obtain ⟨hk_a1, hf⟩ := grd_e hf
  refine v_aload_n C 0 0 rfl 1 rfl (by decide +kernel) ?_
  refine v_dup C rfl 2 rfl (by decide +kernel) ?_
  refine v_getI C 2 2 rfl nin_2 (ns_kd_lt hk_a0 (by decide)) hk_a0 (by decide) (by decide) rfl 21 tw_88 rfl 5 rfl (by decide +kernel) ?_
  refine v_iconst C (1) (1) (by decide) 6 rfl (by decide +kernel) ?_
  refine v_iadd C 7 rfl (by decide +kernel) ?_
  obtain ⟨σ37, hσ37, hf⟩ := bnd_e hf
  refine v_putI C 2 2 hσ37 rfl nin_2 ny_2 nty_2 nnm_2 (ns_kd_lt hk_a0 (by decide)) hk_a0 (by decide) (by decide) rfl rfl rfl rfl 21 tw_88 rfl 10 rfl (by decide +kernel) ?_
  refine v_aload_n C 0 0 rfl 11 rfl (by decide +kernel) ?_
  refine v_dup C rfl 12 rfl (by decide +kernel) ?_
  refine v_getI C 2 3 rfl nin_2 (ns_kd_lt hk_a0 (by decide)) hk_a0 (by decide) (by decide) rfl 24 tw_94 rfl 15 rfl (by decide +kernel) ?_
  refine v_iconst C (1) (1) (by decide) 16 rfl (by decide +kernel) ?_
  refine v_iload_n C 2 2 rfl 17 rfl (by decide +kernel) ?_
  refine v_iadd C 18 rfl (by decide +kernel) ?_
  refine v_iadd C 19 rfl (by decide +kernel) ?_
  obtain ⟨σ38, hσ38, hf⟩ := bnd_e hf
  refine v_putI C 2 3 hσ38 rfl nin_2 ny_2 nty_2 nnm_2 (ns_kd_lt hk_a0 (by decide)) hk_a0 (by decide) (by decide) rfl rfl rfl rfl 24 tw_94 rfl 22 rfl (by decide +kernel) ?_
  refine v_aload_n C 1 1 rfl 23 rfl (by decide +kernel) ?_
  refine v_getJN C 1 1 rfl nin_1 (ns_kd_lt hk_a1 (by decide)) hk_a1 (by decide) (by decide) rfl 46 tw_49 rfl 26 rfl (by decide +kernel) ?_
  refine v_aload_n C 0 0 rfl 27 rfl (by decide +kernel) ?_
  refine v_getI C 2 2 rfl nin_2 (ns_kd_lt hk_a0 (by decide)) hk_a0 (by decide) (by decide) rfl 21 tw_88 rfl 30 rfl (by decide +kernel) ?_
  refine v_lushr C 31 rfl (by decide +kernel) ?_
  refine v_lconst C 1 (1) (by decide) 32 rfl (by decide +kernel) ?_
  refine v_land C 33 rfl (by decide +kernel) ?_
  refine v_lconst C 0 (0) (by decide) 34 rfl (by decide +kernel) ?_
  refine v_lcmp C 35 rfl (by decide +kernel) ?_
  refine v_if_eq C 51 38 rfl (by decide +kernel) (fun h39 => ?_) (fun h39 => ?_)
  · have hf := ite2_t hf h39
    refine v_sub [0, 1] rfl ?_
    exact t_Mule_makeStep_51 G l C hr  σ38 a0 a1 hk_a0 hk_a1 hf
  · have hf := ite2_f hf h39
    refine v_aload_n C 0 0 rfl 39 rfl (by decide +kernel) ?_
    refine v_dup C rfl 40 rfl (by decide +kernel) ?_
    refine v_getI C 2 3 rfl nin_2 (ns_kd_lt hk_a0 (by decide)) hk_a0 (by decide) (by decide) rfl 24 tw_94 rfl 43 rfl (by decide +kernel) ?_
    refine v_aload_n C 0 0 rfl 44 rfl (by decide +kernel) ?_
    refine v_getI C 2 7 rfl nin_2 (ns_kd_lt hk_a0 (by decide)) hk_a0 (by decide) (by decide) rfl 37 tw_106 rfl 47 rfl (by decide +kernel) ?_
    refine v_iadd C 48 rfl (by decide +kernel) ?_
    obtain ⟨σ40, hσ40, hf⟩ := bnd_e hf
    refine v_putI C 2 3 hσ40 rfl nin_2 ny_2 nty_2 nnm_2 (ns_kd_lt hk_a0 (by decide)) hk_a0 (by decide) (by decide) rfl rfl rfl rfl 24 tw_94 rfl 51 rfl (by decide +kernel) ?_
    refine v_sub [0, 1] rfl ?_
    exact t_Mule_makeStep_51 G l C hr  σ40 a0 a1 hk_a0 hk_a1 hf
theorem hd_Mule_makeStep : (⟨"NinthStep$Mule", "makeStep", "(LNinthStep$Ground;I)Z"⟩ : MethodName).cls = "NinthStep$Mule" ∧ (⟨"NinthStep$Mule", "makeStep", "(LNinthStep$Ground;I)Z"⟩ : MethodName).cls ≠ "java/lang/invoke/MethodHandle" ∧ (⟨"NinthStep$Mule", "makeStep", "(LNinthStep$Ground;I)Z"⟩ : MethodName).cls ≠ "java/lang/invoke/VarHandle" ∧ (parseMethodDescriptor (⟨"NinthStep$Mule", "makeStep", "(LNinthStep$Ground;I)Z"⟩ : MethodName).desc).map (fun d => d.parameters.length) = some 2 := by decide +kernel
theorem c_Ground_allOf (G : ns_G) (l : Launch) (σ : ns_St) (a0 : Nat) (x1 : Int32) {r : Int64} {σ' : ns_St} (hf : g_Ground_allOf σ a0 x1 = some (r, σ')) : ns_ok G l ⟨"NinthStep$Ground", "allOf", "(I)J"⟩ prog_3_method_3_code 2 (some .long) 0 0 0 0 [.ref (G.1 + a0), .int x1] ns_N σ (some (.long r)) ns_N σ' := by
  refine v_open (by decide) (Nat.le_of_ble_eq_true rfl) rfl ?_
  intro p e s m below meth c C hr _
  have C : ns_Cx G p s m _ meth c prog_3_method_3_code "NinthStep$Ground" 2 := C
  unfold g_Ground_allOf at hf
  obtain ⟨hk_a0, hf⟩ := grd_e hf
  refine v_iload_n C 1 1 rfl 1 rfl (by decide +kernel) ?_
  by_cases h4 : x1 = 0
  · have hf := ite2_t hf h4
    refine v_tswI C (42) (0) (2) #[(27), (32), (37)] 27 28 (0) h4 (by decide) (by decide) (27) (by decide) (by decide) (by decide +kernel) ?_
    refine v_aload_n C 0 0 rfl 29 rfl (by decide +kernel) ?_
    refine v_getJ C 1 1 rfl nin_1 (ns_kd_lt hk_a0 (by decide)) hk_a0 (by decide) (by decide) rfl 15 tw_46 rfl 32 rfl (by decide +kernel) ?_
    cases hf
    exact v_lret C hr (by decide +kernel)
  · have hf := ite2_f hf h4
    by_cases h5 : x1 = 1
    · have hf := ite2_t hf h5
      refine v_tswI C (42) (0) (2) #[(27), (32), (37)] 27 33 (1) h5 (by decide) (by decide) (32) (by decide) (by decide) (by decide +kernel) ?_
      refine v_aload_n C 0 0 rfl 34 rfl (by decide +kernel) ?_
      refine v_getJ C 1 2 rfl nin_1 (ns_kd_lt hk_a0 (by decide)) hk_a0 (by decide) (by decide) rfl 19 tw_51 rfl 37 rfl (by decide +kernel) ?_
      cases hf
      exact v_lret C hr (by decide +kernel)
    · have hf := ite2_f hf h5
      by_cases h6 : x1 = 2
      · have hf := ite2_t hf h6
        refine v_tswI C (42) (0) (2) #[(27), (32), (37)] 27 38 (2) h6 (by decide) (by decide) (37) (by decide) (by decide) (by decide +kernel) ?_
        refine v_aload_n C 0 0 rfl 39 rfl (by decide +kernel) ?_
        refine v_getJ C 1 3 rfl nin_1 (ns_kd_lt hk_a0 (by decide)) hk_a0 (by decide) (by decide) rfl 22 tw_54 rfl 42 rfl (by decide +kernel) ?_
        cases hf
        exact v_lret C hr (by decide +kernel)
      · have hf := ite2_f hf h6
        refine v_tswO C (42) (0) (2) #[(27), (32), (37)] 27 43 (ns_out x1 (0) (2) (fun k h1 h2 => by
          have h3 : k = 0 ∨ k = 1 ∨ k = 2 := by omega
          rcases h3 with rfl | rfl | rfl
          · exact h4
          · exact h5
          · exact h6)) (by decide) (by decide +kernel) ?_
        refine v_aload_n C 0 0 rfl 44 rfl (by decide +kernel) ?_
        refine v_getJ C 1 4 rfl nin_1 (ns_kd_lt hk_a0 (by decide)) hk_a0 (by decide) (by decide) rfl 25 tw_61 rfl 47 rfl (by decide +kernel) ?_
        cases hf
        exact v_lret C hr (by decide +kernel)
theorem hd_Ground_allOf : (⟨"NinthStep$Ground", "allOf", "(I)J"⟩ : MethodName).cls = "NinthStep$Ground" ∧ (⟨"NinthStep$Ground", "allOf", "(I)J"⟩ : MethodName).cls ≠ "java/lang/invoke/MethodHandle" ∧ (⟨"NinthStep$Ground", "allOf", "(I)J"⟩ : MethodName).cls ≠ "java/lang/invoke/VarHandle" ∧ (parseMethodDescriptor (⟨"NinthStep$Ground", "allOf", "(I)J"⟩ : MethodName).desc).map (fun d => d.parameters.length) = some 1 := by decide +kernel
end
