section
-- ===== PART A: goes FIRST, ahead of the names: the tables' words, and 'selects' of the private methods out of them =====
/-- a private method of a class that the tables say can be made, by its rows of tables_1 -/
def lw_okq (q : MethodName × Nat) : Prop := (q.1.cls ≠ "java/lang/invoke/MethodHandle" ∧ q.1.cls ≠ "java/lang/invoke/VarHandle") ∧ Cond.instantiable q.1.cls q.2 ∈ tables_1 ∧ Cond.privateMethod q.1 ∈ tables_1 ∧ Cond.instanceMethod q.1 ∈ tables_1
theorem lw_p0 : lw_okq (⟨"NinthStep", "shelfAt", "(I)LNinthStep$Shelf;"⟩, 12) := ⟨⟨by decide +kernel, by decide +kernel⟩, List.mem_of_getElem? (i := 20) (by decide +kernel), List.mem_of_getElem? (i := 329) (by decide +kernel), List.mem_of_getElem? (i := 330) (by decide +kernel)⟩
theorem lw_p1 : lw_okq (⟨"NinthStep", "refuse", "(I)I"⟩, 12) := ⟨⟨by decide +kernel, by decide +kernel⟩, List.mem_of_getElem? (i := 20) (by decide +kernel), List.mem_of_getElem? (i := 336) (by decide +kernel), List.mem_of_getElem? (i := 337) (by decide +kernel)⟩
theorem lw_p2 : lw_okq (⟨"NinthStep$Shelf", "holdRow", "(II)V"⟩, 3) := ⟨⟨by decide +kernel, by decide +kernel⟩, List.mem_of_getElem? (i := 269) (by decide +kernel), List.mem_of_getElem? (i := 340) (by decide +kernel), List.mem_of_getElem? (i := 341) (by decide +kernel)⟩
theorem lw_p3 : lw_okq (⟨"NinthStep$Shelf", "troubleAsRow", "()I"⟩, 3) := ⟨⟨by decide +kernel, by decide +kernel⟩, List.mem_of_getElem? (i := 269) (by decide +kernel), List.mem_of_getElem? (i := 348) (by decide +kernel), List.mem_of_getElem? (i := 349) (by decide +kernel)⟩
theorem lw_p4 : lw_okq (⟨"NinthStep$Shelf", "putCell", "(IJ)V"⟩, 3) := ⟨⟨by decide +kernel, by decide +kernel⟩, List.mem_of_getElem? (i := 269) (by decide +kernel), List.mem_of_getElem? (i := 352) (by decide +kernel), List.mem_of_getElem? (i := 353) (by decide +kernel)⟩
theorem lw_p5 : lw_okq (⟨"NinthStep$Shelf", "lowestBits", "(J)J"⟩, 3) := ⟨⟨by decide +kernel, by decide +kernel⟩, List.mem_of_getElem? (i := 269) (by decide +kernel), List.mem_of_getElem? (i := 357) (by decide +kernel), List.mem_of_getElem? (i := 358) (by decide +kernel)⟩
theorem lw_p6 : lw_okq (⟨"NinthStep$Shelf", "cellAt", "(I)J"⟩, 3) := ⟨⟨by decide +kernel, by decide +kernel⟩, List.mem_of_getElem? (i := 269) (by decide +kernel), List.mem_of_getElem? (i := 375) (by decide +kernel), List.mem_of_getElem? (i := 376) (by decide +kernel)⟩
theorem lw_p7 : lw_okq (⟨"NinthStep$World", "muleAt", "(I)LNinthStep$Mule;"⟩, 6) := ⟨⟨by decide +kernel, by decide +kernel⟩, List.mem_of_getElem? (i := 28) (by decide +kernel), List.mem_of_getElem? (i := 388) (by decide +kernel), List.mem_of_getElem? (i := 389) (by decide +kernel)⟩
theorem lw_p8 : lw_okq (⟨"NinthStep", "saidAs", "(LNinthStep$Mule;I)I"⟩, 12) := ⟨⟨by decide +kernel, by decide +kernel⟩, List.mem_of_getElem? (i := 20) (by decide +kernel), List.mem_of_getElem? (i := 401) (by decide +kernel), List.mem_of_getElem? (i := 402) (by decide +kernel)⟩
theorem lw_p9 : lw_okq (⟨"NinthStep$Ground", "highest", "()I"⟩, 5) := ⟨⟨by decide +kernel, by decide +kernel⟩, List.mem_of_getElem? (i := 34) (by decide +kernel), List.mem_of_getElem? (i := 429) (by decide +kernel), List.mem_of_getElem? (i := 430) (by decide +kernel)⟩
theorem lw_p10 : lw_okq (⟨"NinthStep", "isPlace", "(I)Z"⟩, 12) := ⟨⟨by decide +kernel, by decide +kernel⟩, List.mem_of_getElem? (i := 20) (by decide +kernel), List.mem_of_getElem? (i := 446) (by decide +kernel), List.mem_of_getElem? (i := 447) (by decide +kernel)⟩
theorem lw_p11 : lw_okq (⟨"NinthStep$Ground", "forbids", "(II)Z"⟩, 5) := ⟨⟨by decide +kernel, by decide +kernel⟩, List.mem_of_getElem? (i := 34) (by decide +kernel), List.mem_of_getElem? (i := 450) (by decide +kernel), List.mem_of_getElem? (i := 451) (by decide +kernel)⟩
theorem lw_p12 : lw_okq (⟨"NinthStep$Ground", "allOf", "(I)J"⟩, 5) := ⟨⟨by decide +kernel, by decide +kernel⟩, List.mem_of_getElem? (i := 34) (by decide +kernel), List.mem_of_getElem? (i := 457) (by decide +kernel), List.mem_of_getElem? (i := 458) (by decide +kernel)⟩
theorem lw_p13 : lw_okq (⟨"NinthStep$Ground", "mark", "(IIZ)V"⟩, 5) := ⟨⟨by decide +kernel, by decide +kernel⟩, List.mem_of_getElem? (i := 34) (by decide +kernel), List.mem_of_getElem? (i := 462) (by decide +kernel), List.mem_of_getElem? (i := 463) (by decide +kernel)⟩
theorem lw_p14 : lw_okq (⟨"NinthStep$World", "newMule", "()LNinthStep$Mule;"⟩, 6) := ⟨⟨by decide +kernel, by decide +kernel⟩, List.mem_of_getElem? (i := 28) (by decide +kernel), List.mem_of_getElem? (i := 475) (by decide +kernel), List.mem_of_getElem? (i := 476) (by decide +kernel)⟩
theorem lw_p15 : lw_okq (⟨"NinthStep$Mule", "become", "(III)V"⟩, 8) := ⟨⟨by decide +kernel, by decide +kernel⟩, List.mem_of_getElem? (i := 77) (by decide +kernel), List.mem_of_getElem? (i := 479) (by decide +kernel), List.mem_of_getElem? (i := 480) (by decide +kernel)⟩
def lw_privs_1 : List (MethodName × Nat) := [(⟨"NinthStep", "shelfAt", "(I)LNinthStep$Shelf;"⟩, 12), (⟨"NinthStep", "refuse", "(I)I"⟩, 12), (⟨"NinthStep$Shelf", "holdRow", "(II)V"⟩, 3), (⟨"NinthStep$Shelf", "troubleAsRow", "()I"⟩, 3), (⟨"NinthStep$Shelf", "putCell", "(IJ)V"⟩, 3), (⟨"NinthStep$Shelf", "lowestBits", "(J)J"⟩, 3), (⟨"NinthStep$Shelf", "cellAt", "(I)J"⟩, 3), (⟨"NinthStep$World", "muleAt", "(I)LNinthStep$Mule;"⟩, 6), (⟨"NinthStep", "saidAs", "(LNinthStep$Mule;I)I"⟩, 12), (⟨"NinthStep$Ground", "highest", "()I"⟩, 5), (⟨"NinthStep", "isPlace", "(I)Z"⟩, 12), (⟨"NinthStep$Ground", "forbids", "(II)Z"⟩, 5), (⟨"NinthStep$Ground", "allOf", "(I)J"⟩, 5), (⟨"NinthStep$Ground", "mark", "(IIZ)V"⟩, 5), (⟨"NinthStep$World", "newMule", "()LNinthStep$Mule;"⟩, 6), (⟨"NinthStep$Mule", "become", "(III)V"⟩, 8)]
theorem lw_r1 : ∀ q ∈ lw_privs_1, lw_okq q := List.forall_mem_cons.mpr ⟨lw_p0, List.forall_mem_cons.mpr ⟨lw_p1, List.forall_mem_cons.mpr ⟨lw_p2, List.forall_mem_cons.mpr ⟨lw_p3, List.forall_mem_cons.mpr ⟨lw_p4, List.forall_mem_cons.mpr ⟨lw_p5, List.forall_mem_cons.mpr ⟨lw_p6, List.forall_mem_cons.mpr ⟨lw_p7, List.forall_mem_cons.mpr ⟨lw_p8, List.forall_mem_cons.mpr ⟨lw_p9, List.forall_mem_cons.mpr ⟨lw_p10, List.forall_mem_cons.mpr ⟨lw_p11, List.forall_mem_cons.mpr ⟨lw_p12, List.forall_mem_cons.mpr ⟨lw_p13, List.forall_mem_cons.mpr ⟨lw_p14, List.forall_mem_cons.mpr ⟨lw_p15, fun _ h => absurd h List.not_mem_nil⟩⟩⟩⟩⟩⟩⟩⟩⟩⟩⟩⟩⟩⟩⟩⟩
theorem lw_p16 : lw_okq (⟨"NinthStep$Tape", "append", "(I)Z"⟩, 6) := ⟨⟨by decide +kernel, by decide +kernel⟩, List.mem_of_getElem? (i := 158) (by decide +kernel), List.mem_of_getElem? (i := 500) (by decide +kernel), List.mem_of_getElem? (i := 501) (by decide +kernel)⟩
theorem lw_p17 : lw_okq (⟨"NinthStep$World", "takeFrom", "(LNinthStep$World;)V"⟩, 6) := ⟨⟨by decide +kernel, by decide +kernel⟩, List.mem_of_getElem? (i := 28) (by decide +kernel), List.mem_of_getElem? (i := 512) (by decide +kernel), List.mem_of_getElem? (i := 513) (by decide +kernel)⟩
theorem lw_p18 : lw_okq (⟨"NinthStep$Ground", "takeFrom", "(LNinthStep$Ground;)V"⟩, 5) := ⟨⟨by decide +kernel, by decide +kernel⟩, List.mem_of_getElem? (i := 34) (by decide +kernel), List.mem_of_getElem? (i := 516) (by decide +kernel), List.mem_of_getElem? (i := 517) (by decide +kernel)⟩
theorem lw_p19 : lw_okq (⟨"NinthStep$Mule", "takeFrom", "(LNinthStep$Mule;)V"⟩, 8) := ⟨⟨by decide +kernel, by decide +kernel⟩, List.mem_of_getElem? (i := 77) (by decide +kernel), List.mem_of_getElem? (i := 520) (by decide +kernel), List.mem_of_getElem? (i := 521) (by decide +kernel)⟩
theorem lw_p20 : lw_okq (⟨"NinthStep$Tape", "readInto", "(LNinthStep$World;)I"⟩, 6) := ⟨⟨by decide +kernel, by decide +kernel⟩, List.mem_of_getElem? (i := 158) (by decide +kernel), List.mem_of_getElem? (i := 524) (by decide +kernel), List.mem_of_getElem? (i := 525) (by decide +kernel)⟩
theorem lw_p21 : lw_okq (⟨"NinthStep$Tape", "nextToken", "()V"⟩, 6) := ⟨⟨by decide +kernel, by decide +kernel⟩, List.mem_of_getElem? (i := 158) (by decide +kernel), List.mem_of_getElem? (i := 528) (by decide +kernel), List.mem_of_getElem? (i := 529) (by decide +kernel)⟩
theorem lw_p22 : lw_okq (⟨"NinthStep$Tape", "readStatement", "(LNinthStep$World;)V"⟩, 6) := ⟨⟨by decide +kernel, by decide +kernel⟩, List.mem_of_getElem? (i := 158) (by decide +kernel), List.mem_of_getElem? (i := 535) (by decide +kernel), List.mem_of_getElem? (i := 536) (by decide +kernel)⟩
theorem lw_p23 : lw_okq (⟨"NinthStep$Tape", "isWord", "(Ljava/lang/String;)Z"⟩, 6) := ⟨⟨by decide +kernel, by decide +kernel⟩, List.mem_of_getElem? (i := 158) (by decide +kernel), List.mem_of_getElem? (i := 540) (by decide +kernel), List.mem_of_getElem? (i := 541) (by decide +kernel)⟩
theorem lw_p24 : lw_okq (⟨"NinthStep$Tape", "readLength", "(LNinthStep$World;)V"⟩, 6) := ⟨⟨by decide +kernel, by decide +kernel⟩, List.mem_of_getElem? (i := 158) (by decide +kernel), List.mem_of_getElem? (i := 592) (by decide +kernel), List.mem_of_getElem? (i := 593) (by decide +kernel)⟩
theorem lw_p25 : lw_okq (⟨"NinthStep$Tape", "takeNumber", "(II)I"⟩, 6) := ⟨⟨by decide +kernel, by decide +kernel⟩, List.mem_of_getElem? (i := 158) (by decide +kernel), List.mem_of_getElem? (i := 600) (by decide +kernel), List.mem_of_getElem? (i := 601) (by decide +kernel)⟩
theorem lw_p26 : lw_okq (⟨"NinthStep$Tape", "numberRead", "()I"⟩, 6) := ⟨⟨by decide +kernel, by decide +kernel⟩, List.mem_of_getElem? (i := 158) (by decide +kernel), List.mem_of_getElem? (i := 604) (by decide +kernel), List.mem_of_getElem? (i := 605) (by decide +kernel)⟩
theorem lw_p27 : lw_okq (⟨"NinthStep$Tape", "readMark", "(LNinthStep$Ground;I)V"⟩, 6) := ⟨⟨by decide +kernel, by decide +kernel⟩, List.mem_of_getElem? (i := 158) (by decide +kernel), List.mem_of_getElem? (i := 610) (by decide +kernel), List.mem_of_getElem? (i := 611) (by decide +kernel)⟩
theorem lw_p28 : lw_okq (⟨"NinthStep$Tape", "readMule", "(LNinthStep$World;)V"⟩, 6) := ⟨⟨by decide +kernel, by decide +kernel⟩, List.mem_of_getElem? (i := 158) (by decide +kernel), List.mem_of_getElem? (i := 620) (by decide +kernel), List.mem_of_getElem? (i := 621) (by decide +kernel)⟩
theorem lw_p29 : lw_okq (⟨"NinthStep", "stopsOf", "(LNinthStep$Mule;)J"⟩, 12) := ⟨⟨by decide +kernel, by decide +kernel⟩, List.mem_of_getElem? (i := 20) (by decide +kernel), List.mem_of_getElem? (i := 641) (by decide +kernel), List.mem_of_getElem? (i := 642) (by decide +kernel)⟩
theorem lw_p30 : lw_okq (⟨"NinthStep", "stopsBy", "(LNinthStep$Mule;III)J"⟩, 12) := ⟨⟨by decide +kernel, by decide +kernel⟩, List.mem_of_getElem? (i := 20) (by decide +kernel), List.mem_of_getElem? (i := 645) (by decide +kernel), List.mem_of_getElem? (i := 646) (by decide +kernel)⟩
theorem lw_p31 : lw_okq (⟨"NinthStep$Mule", "standAt", "(III)V"⟩, 8) := ⟨⟨by decide +kernel, by decide +kernel⟩, List.mem_of_getElem? (i := 77) (by decide +kernel), List.mem_of_getElem? (i := 650) (by decide +kernel), List.mem_of_getElem? (i := 651) (by decide +kernel)⟩
def lw_privs_2 : List (MethodName × Nat) := [(⟨"NinthStep$Tape", "append", "(I)Z"⟩, 6), (⟨"NinthStep$World", "takeFrom", "(LNinthStep$World;)V"⟩, 6), (⟨"NinthStep$Ground", "takeFrom", "(LNinthStep$Ground;)V"⟩, 5), (⟨"NinthStep$Mule", "takeFrom", "(LNinthStep$Mule;)V"⟩, 8), (⟨"NinthStep$Tape", "readInto", "(LNinthStep$World;)I"⟩, 6), (⟨"NinthStep$Tape", "nextToken", "()V"⟩, 6), (⟨"NinthStep$Tape", "readStatement", "(LNinthStep$World;)V"⟩, 6), (⟨"NinthStep$Tape", "isWord", "(Ljava/lang/String;)Z"⟩, 6), (⟨"NinthStep$Tape", "readLength", "(LNinthStep$World;)V"⟩, 6), (⟨"NinthStep$Tape", "takeNumber", "(II)I"⟩, 6), (⟨"NinthStep$Tape", "numberRead", "()I"⟩, 6), (⟨"NinthStep$Tape", "readMark", "(LNinthStep$Ground;I)V"⟩, 6), (⟨"NinthStep$Tape", "readMule", "(LNinthStep$World;)V"⟩, 6), (⟨"NinthStep", "stopsOf", "(LNinthStep$Mule;)J"⟩, 12), (⟨"NinthStep", "stopsBy", "(LNinthStep$Mule;III)J"⟩, 12), (⟨"NinthStep$Mule", "standAt", "(III)V"⟩, 8)]
theorem lw_r2 : ∀ q ∈ lw_privs_2, lw_okq q := List.forall_mem_cons.mpr ⟨lw_p16, List.forall_mem_cons.mpr ⟨lw_p17, List.forall_mem_cons.mpr ⟨lw_p18, List.forall_mem_cons.mpr ⟨lw_p19, List.forall_mem_cons.mpr ⟨lw_p20, List.forall_mem_cons.mpr ⟨lw_p21, List.forall_mem_cons.mpr ⟨lw_p22, List.forall_mem_cons.mpr ⟨lw_p23, List.forall_mem_cons.mpr ⟨lw_p24, List.forall_mem_cons.mpr ⟨lw_p25, List.forall_mem_cons.mpr ⟨lw_p26, List.forall_mem_cons.mpr ⟨lw_p27, List.forall_mem_cons.mpr ⟨lw_p28, List.forall_mem_cons.mpr ⟨lw_p29, List.forall_mem_cons.mpr ⟨lw_p30, List.forall_mem_cons.mpr ⟨lw_p31, fun _ h => absurd h List.not_mem_nil⟩⟩⟩⟩⟩⟩⟩⟩⟩⟩⟩⟩⟩⟩⟩⟩
theorem lw_p32 : lw_okq (⟨"NinthStep$Mule", "makeStep", "(LNinthStep$Ground;I)Z"⟩, 8) := ⟨⟨by decide +kernel, by decide +kernel⟩, List.mem_of_getElem? (i := 77) (by decide +kernel), List.mem_of_getElem? (i := 654) (by decide +kernel), List.mem_of_getElem? (i := 655) (by decide +kernel)⟩
theorem lw_p33 : lw_okq (⟨"NinthStep$Mule", "mayStop", "(LNinthStep$Ground;)Z"⟩, 8) := ⟨⟨by decide +kernel, by decide +kernel⟩, List.mem_of_getElem? (i := 77) (by decide +kernel), List.mem_of_getElem? (i := 658) (by decide +kernel), List.mem_of_getElem? (i := 659) (by decide +kernel)⟩
theorem lw_p34 : lw_okq (⟨"NinthStep", "minutesOf", "(LNinthStep$Mule;)I"⟩, 12) := ⟨⟨by decide +kernel, by decide +kernel⟩, List.mem_of_getElem? (i := 20) (by decide +kernel), List.mem_of_getElem? (i := 670) (by decide +kernel), List.mem_of_getElem? (i := 671) (by decide +kernel)⟩
theorem lw_p35 : lw_okq (⟨"NinthStep$Mule", "arrival", "(IJ)I"⟩, 8) := ⟨⟨by decide +kernel, by decide +kernel⟩, List.mem_of_getElem? (i := 77) (by decide +kernel), List.mem_of_getElem? (i := 678) (by decide +kernel), List.mem_of_getElem? (i := 679) (by decide +kernel)⟩
theorem lw_p36 : lw_okq (⟨"NinthStep", "isGood", "(IJ)Z"⟩, 12) := ⟨⟨by decide +kernel, by decide +kernel⟩, List.mem_of_getElem? (i := 20) (by decide +kernel), List.mem_of_getElem? (i := 688) (by decide +kernel), List.mem_of_getElem? (i := 689) (by decide +kernel)⟩
theorem lw_p37 : lw_okq (⟨"NinthStep", "viewsMissed", "(IJ)J"⟩, 12) := ⟨⟨by decide +kernel, by decide +kernel⟩, List.mem_of_getElem? (i := 20) (by decide +kernel), List.mem_of_getElem? (i := 692) (by decide +kernel), List.mem_of_getElem? (i := 693) (by decide +kernel)⟩
theorem lw_p38 : lw_okq (⟨"NinthStep$TurnPlan", "make", "(LNinthStep$Mule;LNinthStep$Ground;)I"⟩, 6) := ⟨⟨by decide +kernel, by decide +kernel⟩, List.mem_of_getElem? (i := 186) (by decide +kernel), List.mem_of_getElem? (i := 709) (by decide +kernel), List.mem_of_getElem? (i := 710) (by decide +kernel)⟩
theorem lw_p39 : lw_okq (⟨"NinthStep$Mule", "cappedCount", "()I"⟩, 8) := ⟨⟨by decide +kernel, by decide +kernel⟩, List.mem_of_getElem? (i := 77) (by decide +kernel), List.mem_of_getElem? (i := 713) (by decide +kernel), List.mem_of_getElem? (i := 714) (by decide +kernel)⟩
theorem lw_p40 : lw_okq (⟨"NinthStep$TurnPlan", "hasSeen", "(II)Z"⟩, 6) := ⟨⟨by decide +kernel, by decide +kernel⟩, List.mem_of_getElem? (i := 186) (by decide +kernel), List.mem_of_getElem? (i := 725) (by decide +kernel), List.mem_of_getElem? (i := 726) (by decide +kernel)⟩
theorem lw_p41 : lw_okq (⟨"NinthStep$TurnPlan", "fillPlace", "(I)V"⟩, 6) := ⟨⟨by decide +kernel, by decide +kernel⟩, List.mem_of_getElem? (i := 186) (by decide +kernel), List.mem_of_getElem? (i := 730) (by decide +kernel), List.mem_of_getElem? (i := 731) (by decide +kernel)⟩
theorem lw_p42 : lw_okq (⟨"NinthStep$TurnPlan", "needWith", "(III)I"⟩, 6) := ⟨⟨by decide +kernel, by decide +kernel⟩, List.mem_of_getElem? (i := 186) (by decide +kernel), List.mem_of_getElem? (i := 734) (by decide +kernel), List.mem_of_getElem? (i := 735) (by decide +kernel)⟩
theorem lw_p43 : lw_okq (⟨"NinthStep$Mule", "makeTurn", "(LNinthStep$Ground;)Z"⟩, 8) := ⟨⟨by decide +kernel, by decide +kernel⟩, List.mem_of_getElem? (i := 77) (by decide +kernel), List.mem_of_getElem? (i := 739) (by decide +kernel), List.mem_of_getElem? (i := 740) (by decide +kernel)⟩
theorem lw_p44 : lw_okq (⟨"NinthStep$TurnPlan", "madeAt", "(I)I"⟩, 6) := ⟨⟨by decide +kernel, by decide +kernel⟩, List.mem_of_getElem? (i := 186) (by decide +kernel), List.mem_of_getElem? (i := 744) (by decide +kernel), List.mem_of_getElem? (i := 745) (by decide +kernel)⟩
theorem lw_p45 : lw_okq (⟨"NinthStep$TurnPlan", "fewestFirst", "(II)I"⟩, 6) := ⟨⟨by decide +kernel, by decide +kernel⟩, List.mem_of_getElem? (i := 186) (by decide +kernel), List.mem_of_getElem? (i := 748) (by decide +kernel), List.mem_of_getElem? (i := 749) (by decide +kernel)⟩
theorem lw_p46 : lw_okq (⟨"NinthStep", "firstTogether", "(LNinthStep$Mule;LNinthStep$Mule;)I"⟩, 12) := ⟨⟨by decide +kernel, by decide +kernel⟩, List.mem_of_getElem? (i := 20) (by decide +kernel), List.mem_of_getElem? (i := 761) (by decide +kernel), List.mem_of_getElem? (i := 762) (by decide +kernel)⟩
theorem lw_p47 : lw_okq (⟨"NinthStep", "mulesTold", "(LNinthStep$Shelf;I)I"⟩, 12) := ⟨⟨by decide +kernel, by decide +kernel⟩, List.mem_of_getElem? (i := 20) (by decide +kernel), List.mem_of_getElem? (i := 774) (by decide +kernel), List.mem_of_getElem? (i := 775) (by decide +kernel)⟩
def lw_privs_3 : List (MethodName × Nat) := [(⟨"NinthStep$Mule", "makeStep", "(LNinthStep$Ground;I)Z"⟩, 8), (⟨"NinthStep$Mule", "mayStop", "(LNinthStep$Ground;)Z"⟩, 8), (⟨"NinthStep", "minutesOf", "(LNinthStep$Mule;)I"⟩, 12), (⟨"NinthStep$Mule", "arrival", "(IJ)I"⟩, 8), (⟨"NinthStep", "isGood", "(IJ)Z"⟩, 12), (⟨"NinthStep", "viewsMissed", "(IJ)J"⟩, 12), (⟨"NinthStep$TurnPlan", "make", "(LNinthStep$Mule;LNinthStep$Ground;)I"⟩, 6), (⟨"NinthStep$Mule", "cappedCount", "()I"⟩, 8), (⟨"NinthStep$TurnPlan", "hasSeen", "(II)Z"⟩, 6), (⟨"NinthStep$TurnPlan", "fillPlace", "(I)V"⟩, 6), (⟨"NinthStep$TurnPlan", "needWith", "(III)I"⟩, 6), (⟨"NinthStep$Mule", "makeTurn", "(LNinthStep$Ground;)Z"⟩, 8), (⟨"NinthStep$TurnPlan", "madeAt", "(I)I"⟩, 6), (⟨"NinthStep$TurnPlan", "fewestFirst", "(II)I"⟩, 6), (⟨"NinthStep", "firstTogether", "(LNinthStep$Mule;LNinthStep$Mule;)I"⟩, 12), (⟨"NinthStep", "mulesTold", "(LNinthStep$Shelf;I)I"⟩, 12)]
theorem lw_r3 : ∀ q ∈ lw_privs_3, lw_okq q := List.forall_mem_cons.mpr ⟨lw_p32, List.forall_mem_cons.mpr ⟨lw_p33, List.forall_mem_cons.mpr ⟨lw_p34, List.forall_mem_cons.mpr ⟨lw_p35, List.forall_mem_cons.mpr ⟨lw_p36, List.forall_mem_cons.mpr ⟨lw_p37, List.forall_mem_cons.mpr ⟨lw_p38, List.forall_mem_cons.mpr ⟨lw_p39, List.forall_mem_cons.mpr ⟨lw_p40, List.forall_mem_cons.mpr ⟨lw_p41, List.forall_mem_cons.mpr ⟨lw_p42, List.forall_mem_cons.mpr ⟨lw_p43, List.forall_mem_cons.mpr ⟨lw_p44, List.forall_mem_cons.mpr ⟨lw_p45, List.forall_mem_cons.mpr ⟨lw_p46, List.forall_mem_cons.mpr ⟨lw_p47, fun _ h => absurd h List.not_mem_nil⟩⟩⟩⟩⟩⟩⟩⟩⟩⟩⟩⟩⟩⟩⟩⟩
theorem lw_p48 : lw_okq (⟨"NinthStep", "placesOfTrain", "(I)I"⟩, 12) := ⟨⟨by decide +kernel, by decide +kernel⟩, List.mem_of_getElem? (i := 20) (by decide +kernel), List.mem_of_getElem? (i := 778) (by decide +kernel), List.mem_of_getElem? (i := 779) (by decide +kernel)⟩
theorem lw_p49 : lw_okq (⟨"NinthStep", "countCrowds", "()V"⟩, 12) := ⟨⟨by decide +kernel, by decide +kernel⟩, List.mem_of_getElem? (i := 20) (by decide +kernel), List.mem_of_getElem? (i := 786) (by decide +kernel), List.mem_of_getElem? (i := 787) (by decide +kernel)⟩
theorem lw_p50 : lw_okq (⟨"NinthStep", "fullestPlace", "()I"⟩, 12) := ⟨⟨by decide +kernel, by decide +kernel⟩, List.mem_of_getElem? (i := 20) (by decide +kernel), List.mem_of_getElem? (i := 794) (by decide +kernel), List.mem_of_getElem? (i := 795) (by decide +kernel)⟩
theorem lw_p51 : lw_okq (⟨"NinthStep$StonePlan", "isAnyNeeded", "(LNinthStep$World;)Z"⟩, 10) := ⟨⟨by decide +kernel, by decide +kernel⟩, List.mem_of_getElem? (i := 213) (by decide +kernel), List.mem_of_getElem? (i := 802) (by decide +kernel), List.mem_of_getElem? (i := 803) (by decide +kernel)⟩
theorem lw_p52 : lw_okq (⟨"NinthStep$StonePlan", "fallsAsItIs", "(LNinthStep$Mule;)Z"⟩, 10) := ⟨⟨by decide +kernel, by decide +kernel⟩, List.mem_of_getElem? (i := 213) (by decide +kernel), List.mem_of_getElem? (i := 806) (by decide +kernel), List.mem_of_getElem? (i := 807) (by decide +kernel)⟩
theorem lw_p53 : lw_okq (⟨"NinthStep$StonePlan", "fallsNext", "(LNinthStep$Mule;I)Z"⟩, 10) := ⟨⟨by decide +kernel, by decide +kernel⟩, List.mem_of_getElem? (i := 213) (by decide +kernel), List.mem_of_getElem? (i := 811) (by decide +kernel), List.mem_of_getElem? (i := 812) (by decide +kernel)⟩
theorem lw_p54 : lw_okq (⟨"NinthStep$StonePlan", "isOneEnough", "(LNinthStep$World;)Z"⟩, 10) := ⟨⟨by decide +kernel, by decide +kernel⟩, List.mem_of_getElem? (i := 213) (by decide +kernel), List.mem_of_getElem? (i := 817) (by decide +kernel), List.mem_of_getElem? (i := 818) (by decide +kernel)⟩
theorem lw_p55 : lw_okq (⟨"NinthStep$StonePlan", "freePlaces", "()J"⟩, 10) := ⟨⟨by decide +kernel, by decide +kernel⟩, List.mem_of_getElem? (i := 213) (by decide +kernel), List.mem_of_getElem? (i := 821) (by decide +kernel), List.mem_of_getElem? (i := 822) (by decide +kernel)⟩
theorem lw_p56 : lw_okq (⟨"NinthStep$StonePlan", "helpersFor", "(LNinthStep$Mule;)J"⟩, 10) := ⟨⟨by decide +kernel, by decide +kernel⟩, List.mem_of_getElem? (i := 213) (by decide +kernel), List.mem_of_getElem? (i := 828) (by decide +kernel), List.mem_of_getElem? (i := 829) (by decide +kernel)⟩
theorem lw_p57 : lw_okq (⟨"NinthStep$StonePlan", "fillSafe", "(LNinthStep$Mule;)V"⟩, 10) := ⟨⟨by decide +kernel, by decide +kernel⟩, List.mem_of_getElem? (i := 213) (by decide +kernel), List.mem_of_getElem? (i := 832) (by decide +kernel), List.mem_of_getElem? (i := 833) (by decide +kernel)⟩
theorem lw_p58 : lw_okq (⟨"NinthStep$StonePlan", "isSafe", "(LNinthStep$Mule;)Z"⟩, 10) := ⟨⟨by decide +kernel, by decide +kernel⟩, List.mem_of_getElem? (i := 213) (by decide +kernel), List.mem_of_getElem? (i := 839) (by decide +kernel), List.mem_of_getElem? (i := 840) (by decide +kernel)⟩
theorem lw_p59 : lw_okq (⟨"NinthStep$StonePlan", "helpersAhead", "(LNinthStep$Mule;)J"⟩, 10) := ⟨⟨by decide +kernel, by decide +kernel⟩, List.mem_of_getElem? (i := 213) (by decide +kernel), List.mem_of_getElem? (i := 844) (by decide +kernel), List.mem_of_getElem? (i := 845) (by decide +kernel)⟩
theorem lw_p60 : lw_okq (⟨"NinthStep$StonePlan", "isPairEnough", "(LNinthStep$World;)Z"⟩, 10) := ⟨⟨by decide +kernel, by decide +kernel⟩, List.mem_of_getElem? (i := 213) (by decide +kernel), List.mem_of_getElem? (i := 850) (by decide +kernel), List.mem_of_getElem? (i := 851) (by decide +kernel)⟩
theorem lw_p61 : lw_okq (⟨"NinthStep$StonePlan", "heedSeconds", "(LNinthStep$Mule;J)V"⟩, 10) := ⟨⟨by decide +kernel, by decide +kernel⟩, List.mem_of_getElem? (i := 213) (by decide +kernel), List.mem_of_getElem? (i := 854) (by decide +kernel), List.mem_of_getElem? (i := 855) (by decide +kernel)⟩
theorem lw_p62 : lw_okq (⟨"NinthStep", "placesTold", "(LNinthStep$Shelf;I)J"⟩, 12) := ⟨⟨by decide +kernel, by decide +kernel⟩, List.mem_of_getElem? (i := 20) (by decide +kernel), List.mem_of_getElem? (i := 862) (by decide +kernel), List.mem_of_getElem? (i := 863) (by decide +kernel)⟩
theorem lw_p63 : lw_okq (⟨"NinthStep", "pairsBy", "(JZ)I"⟩, 12) := ⟨⟨by decide +kernel, by decide +kernel⟩, List.mem_of_getElem? (i := 20) (by decide +kernel), List.mem_of_getElem? (i := 866) (by decide +kernel), List.mem_of_getElem? (i := 867) (by decide +kernel)⟩
def lw_privs_4 : List (MethodName × Nat) := [(⟨"NinthStep", "placesOfTrain", "(I)I"⟩, 12), (⟨"NinthStep", "countCrowds", "()V"⟩, 12), (⟨"NinthStep", "fullestPlace", "()I"⟩, 12), (⟨"NinthStep$StonePlan", "isAnyNeeded", "(LNinthStep$World;)Z"⟩, 10), (⟨"NinthStep$StonePlan", "fallsAsItIs", "(LNinthStep$Mule;)Z"⟩, 10), (⟨"NinthStep$StonePlan", "fallsNext", "(LNinthStep$Mule;I)Z"⟩, 10), (⟨"NinthStep$StonePlan", "isOneEnough", "(LNinthStep$World;)Z"⟩, 10), (⟨"NinthStep$StonePlan", "freePlaces", "()J"⟩, 10), (⟨"NinthStep$StonePlan", "helpersFor", "(LNinthStep$Mule;)J"⟩, 10), (⟨"NinthStep$StonePlan", "fillSafe", "(LNinthStep$Mule;)V"⟩, 10), (⟨"NinthStep$StonePlan", "isSafe", "(LNinthStep$Mule;)Z"⟩, 10), (⟨"NinthStep$StonePlan", "helpersAhead", "(LNinthStep$Mule;)J"⟩, 10), (⟨"NinthStep$StonePlan", "isPairEnough", "(LNinthStep$World;)Z"⟩, 10), (⟨"NinthStep$StonePlan", "heedSeconds", "(LNinthStep$Mule;J)V"⟩, 10), (⟨"NinthStep", "placesTold", "(LNinthStep$Shelf;I)J"⟩, 12), (⟨"NinthStep", "pairsBy", "(JZ)I"⟩, 12)]
theorem lw_r4 : ∀ q ∈ lw_privs_4, lw_okq q := List.forall_mem_cons.mpr ⟨lw_p48, List.forall_mem_cons.mpr ⟨lw_p49, List.forall_mem_cons.mpr ⟨lw_p50, List.forall_mem_cons.mpr ⟨lw_p51, List.forall_mem_cons.mpr ⟨lw_p52, List.forall_mem_cons.mpr ⟨lw_p53, List.forall_mem_cons.mpr ⟨lw_p54, List.forall_mem_cons.mpr ⟨lw_p55, List.forall_mem_cons.mpr ⟨lw_p56, List.forall_mem_cons.mpr ⟨lw_p57, List.forall_mem_cons.mpr ⟨lw_p58, List.forall_mem_cons.mpr ⟨lw_p59, List.forall_mem_cons.mpr ⟨lw_p60, List.forall_mem_cons.mpr ⟨lw_p61, List.forall_mem_cons.mpr ⟨lw_p62, List.forall_mem_cons.mpr ⟨lw_p63, fun _ h => absurd h List.not_mem_nil⟩⟩⟩⟩⟩⟩⟩⟩⟩⟩⟩⟩⟩⟩⟩⟩
theorem lw_p64 : lw_okq (⟨"NinthStep", "wouldBeSeen", "(IIJ)Z"⟩, 12) := ⟨⟨by decide +kernel, by decide +kernel⟩, List.mem_of_getElem? (i := 20) (by decide +kernel), List.mem_of_getElem? (i := 870) (by decide +kernel), List.mem_of_getElem? (i := 871) (by decide +kernel)⟩
theorem lw_p65 : lw_okq (⟨"NinthStep$Chance", "unfallen", "(LNinthStep$Mule;LNinthStep$Ground;I)I"⟩, 2) := ⟨⟨by decide +kernel, by decide +kernel⟩, List.mem_of_getElem? (i := 255) (by decide +kernel), List.mem_of_getElem? (i := 879) (by decide +kernel), List.mem_of_getElem? (i := 880) (by decide +kernel)⟩
theorem lw_p66 : lw_okq (⟨"NinthStep$Chance", "spread", "(III)V"⟩, 2) := ⟨⟨by decide +kernel, by decide +kernel⟩, List.mem_of_getElem? (i := 255) (by decide +kernel), List.mem_of_getElem? (i := 887) (by decide +kernel), List.mem_of_getElem? (i := 888) (by decide +kernel)⟩
theorem lw_p67 : lw_okq (⟨"NinthStep$World", "stepInTruth", "(LNinthStep$Mule;I)V"⟩, 6) := ⟨⟨by decide +kernel, by decide +kernel⟩, List.mem_of_getElem? (i := 28) (by decide +kernel), List.mem_of_getElem? (i := 913) (by decide +kernel), List.mem_of_getElem? (i := 914) (by decide +kernel)⟩
theorem lw_p68 : lw_okq (⟨"NinthStep$World", "restInTruth", "(LNinthStep$Mule;)V"⟩, 6) := ⟨⟨by decide +kernel, by decide +kernel⟩, List.mem_of_getElem? (i := 28) (by decide +kernel), List.mem_of_getElem? (i := 918) (by decide +kernel), List.mem_of_getElem? (i := 919) (by decide +kernel)⟩
theorem lw_p69 : lw_okq (⟨"NinthStep$World", "turnInTruth", "(LNinthStep$Mule;)Z"⟩, 6) := ⟨⟨by decide +kernel, by decide +kernel⟩, List.mem_of_getElem? (i := 28) (by decide +kernel), List.mem_of_getElem? (i := 927) (by decide +kernel), List.mem_of_getElem? (i := 928) (by decide +kernel)⟩
theorem lw_p70 : lw_okq (⟨"NinthStep$World", "slipToEnd", "(LNinthStep$Mule;)V"⟩, 6) := ⟨⟨by decide +kernel, by decide +kernel⟩, List.mem_of_getElem? (i := 28) (by decide +kernel), List.mem_of_getElem? (i := 936) (by decide +kernel), List.mem_of_getElem? (i := 937) (by decide +kernel)⟩
theorem lw_p71 : lw_okq (⟨"NinthStep$World", "draw", "(I)I"⟩, 6) := ⟨⟨by decide +kernel, by decide +kernel⟩, List.mem_of_getElem? (i := 28) (by decide +kernel), List.mem_of_getElem? (i := 940) (by decide +kernel), List.mem_of_getElem? (i := 941) (by decide +kernel)⟩
theorem lw_p72 : lw_okq (⟨"NinthStep", "shelvesInUse", "()I"⟩, 12) := ⟨⟨by decide +kernel, by decide +kernel⟩, List.mem_of_getElem? (i := 20) (by decide +kernel), List.mem_of_getElem? (i := 966) (by decide +kernel), List.mem_of_getElem? (i := 967) (by decide +kernel)⟩
theorem lw_p73 : lw_okq (⟨"NinthStepModel", "no", "(I)I"⟩, 31) := ⟨⟨by decide +kernel, by decide +kernel⟩, List.mem_of_getElem? (i := 970) (by decide +kernel), List.mem_of_getElem? (i := 1077) (by decide +kernel), List.mem_of_getElem? (i := 1078) (by decide +kernel)⟩
theorem lw_p74 : lw_okq (⟨"NinthStepModel", "noRow", "(I)I"⟩, 31) := ⟨⟨by decide +kernel, by decide +kernel⟩, List.mem_of_getElem? (i := 970) (by decide +kernel), List.mem_of_getElem? (i := 1085) (by decide +kernel), List.mem_of_getElem? (i := 1086) (by decide +kernel)⟩
theorem lw_p75 : lw_okq (⟨"NinthStepModel", "isRow", "(I)Z"⟩, 31) := ⟨⟨by decide +kernel, by decide +kernel⟩, List.mem_of_getElem? (i := 970) (by decide +kernel), List.mem_of_getElem? (i := 1093) (by decide +kernel), List.mem_of_getElem? (i := 1094) (by decide +kernel)⟩
theorem lw_p76 : lw_okq (⟨"NinthStepModel", "isMule", "(I)Z"⟩, 31) := ⟨⟨by decide +kernel, by decide +kernel⟩, List.mem_of_getElem? (i := 970) (by decide +kernel), List.mem_of_getElem? (i := 1109) (by decide +kernel), List.mem_of_getElem? (i := 1110) (by decide +kernel)⟩
theorem lw_p77 : lw_okq (⟨"NinthStepModel", "rest", "(I)I"⟩, 31) := ⟨⟨by decide +kernel, by decide +kernel⟩, List.mem_of_getElem? (i := 970) (by decide +kernel), List.mem_of_getElem? (i := 1120) (by decide +kernel), List.mem_of_getElem? (i := 1121) (by decide +kernel)⟩
theorem lw_p78 : lw_okq (⟨"NinthStepModel", "aheadOf", "(II)I"⟩, 31) := ⟨⟨by decide +kernel, by decide +kernel⟩, List.mem_of_getElem? (i := 970) (by decide +kernel), List.mem_of_getElem? (i := 1124) (by decide +kernel), List.mem_of_getElem? (i := 1125) (by decide +kernel)⟩
theorem lw_p79 : lw_okq (⟨"NinthStepModel", "isThere", "(II)Z"⟩, 31) := ⟨⟨by decide +kernel, by decide +kernel⟩, List.mem_of_getElem? (i := 970) (by decide +kernel), List.mem_of_getElem? (i := 1128) (by decide +kernel), List.mem_of_getElem? (i := 1129) (by decide +kernel)⟩
def lw_privs_5 : List (MethodName × Nat) := [(⟨"NinthStep", "wouldBeSeen", "(IIJ)Z"⟩, 12), (⟨"NinthStep$Chance", "unfallen", "(LNinthStep$Mule;LNinthStep$Ground;I)I"⟩, 2), (⟨"NinthStep$Chance", "spread", "(III)V"⟩, 2), (⟨"NinthStep$World", "stepInTruth", "(LNinthStep$Mule;I)V"⟩, 6), (⟨"NinthStep$World", "restInTruth", "(LNinthStep$Mule;)V"⟩, 6), (⟨"NinthStep$World", "turnInTruth", "(LNinthStep$Mule;)Z"⟩, 6), (⟨"NinthStep$World", "slipToEnd", "(LNinthStep$Mule;)V"⟩, 6), (⟨"NinthStep$World", "draw", "(I)I"⟩, 6), (⟨"NinthStep", "shelvesInUse", "()I"⟩, 12), (⟨"NinthStepModel", "no", "(I)I"⟩, 31), (⟨"NinthStepModel", "noRow", "(I)I"⟩, 31), (⟨"NinthStepModel", "isRow", "(I)Z"⟩, 31), (⟨"NinthStepModel", "isMule", "(I)Z"⟩, 31), (⟨"NinthStepModel", "rest", "(I)I"⟩, 31), (⟨"NinthStepModel", "aheadOf", "(II)I"⟩, 31), (⟨"NinthStepModel", "isThere", "(II)Z"⟩, 31)]
theorem lw_r5 : ∀ q ∈ lw_privs_5, lw_okq q := List.forall_mem_cons.mpr ⟨lw_p64, List.forall_mem_cons.mpr ⟨lw_p65, List.forall_mem_cons.mpr ⟨lw_p66, List.forall_mem_cons.mpr ⟨lw_p67, List.forall_mem_cons.mpr ⟨lw_p68, List.forall_mem_cons.mpr ⟨lw_p69, List.forall_mem_cons.mpr ⟨lw_p70, List.forall_mem_cons.mpr ⟨lw_p71, List.forall_mem_cons.mpr ⟨lw_p72, List.forall_mem_cons.mpr ⟨lw_p73, List.forall_mem_cons.mpr ⟨lw_p74, List.forall_mem_cons.mpr ⟨lw_p75, List.forall_mem_cons.mpr ⟨lw_p76, List.forall_mem_cons.mpr ⟨lw_p77, List.forall_mem_cons.mpr ⟨lw_p78, List.forall_mem_cons.mpr ⟨lw_p79, fun _ h => absurd h List.not_mem_nil⟩⟩⟩⟩⟩⟩⟩⟩⟩⟩⟩⟩⟩⟩⟩⟩
theorem lw_p80 : lw_okq (⟨"NinthStepModel", "highest", "()I"⟩, 31) := ⟨⟨by decide +kernel, by decide +kernel⟩, List.mem_of_getElem? (i := 970) (by decide +kernel), List.mem_of_getElem? (i := 1136) (by decide +kernel), List.mem_of_getElem? (i := 1137) (by decide +kernel)⟩
theorem lw_p81 : lw_okq (⟨"NinthStepModel", "longer", "(I)V"⟩, 31) := ⟨⟨by decide +kernel, by decide +kernel⟩, List.mem_of_getElem? (i := 970) (by decide +kernel), List.mem_of_getElem? (i := 1140) (by decide +kernel), List.mem_of_getElem? (i := 1141) (by decide +kernel)⟩
theorem lw_p82 : lw_okq (⟨"NinthStepModel", "isPlace", "(I)Z"⟩, 31) := ⟨⟨by decide +kernel, by decide +kernel⟩, List.mem_of_getElem? (i := 970) (by decide +kernel), List.mem_of_getElem? (i := 1148) (by decide +kernel), List.mem_of_getElem? (i := 1149) (by decide +kernel)⟩
theorem lw_p83 : lw_okq (⟨"NinthStepModel", "canBe", "(II)Z"⟩, 31) := ⟨⟨by decide +kernel, by decide +kernel⟩, List.mem_of_getElem? (i := 970) (by decide +kernel), List.mem_of_getElem? (i := 1152) (by decide +kernel), List.mem_of_getElem? (i := 1153) (by decide +kernel)⟩
theorem lw_p84 : lw_okq (⟨"NinthStepModel", "newMule", "(III)I"⟩, 31) := ⟨⟨by decide +kernel, by decide +kernel⟩, List.mem_of_getElem? (i := 970) (by decide +kernel), List.mem_of_getElem? (i := 1160) (by decide +kernel), List.mem_of_getElem? (i := 1161) (by decide +kernel)⟩
theorem lw_p85 : lw_okq (⟨"NinthStepModel", "keep", "([I)V"⟩, 31) := ⟨⟨by decide +kernel, by decide +kernel⟩, List.mem_of_getElem? (i := 970) (by decide +kernel), List.mem_of_getElem? (i := 1188) (by decide +kernel), List.mem_of_getElem? (i := 1189) (by decide +kernel)⟩
theorem lw_p86 : lw_okq (⟨"NinthStepModel", "next", "()V"⟩, 31) := ⟨⟨by decide +kernel, by decide +kernel⟩, List.mem_of_getElem? (i := 970) (by decide +kernel), List.mem_of_getElem? (i := 1192) (by decide +kernel), List.mem_of_getElem? (i := 1193) (by decide +kernel)⟩
theorem lw_p87 : lw_okq (⟨"NinthStepModel", "statement", "()Z"⟩, 31) := ⟨⟨by decide +kernel, by decide +kernel⟩, List.mem_of_getElem? (i := 970) (by decide +kernel), List.mem_of_getElem? (i := 1202) (by decide +kernel), List.mem_of_getElem? (i := 1203) (by decide +kernel)⟩
theorem lw_p88 : lw_okq (⟨"NinthStepModel", "isWord", "(Ljava/lang/String;)Z"⟩, 31) := ⟨⟨by decide +kernel, by decide +kernel⟩, List.mem_of_getElem? (i := 970) (by decide +kernel), List.mem_of_getElem? (i := 1207) (by decide +kernel), List.mem_of_getElem? (i := 1208) (by decide +kernel)⟩
theorem lw_p89 : lw_okq (⟨"NinthStepModel", "number", "(II)Z"⟩, 31) := ⟨⟨by decide +kernel, by decide +kernel⟩, List.mem_of_getElem? (i := 970) (by decide +kernel), List.mem_of_getElem? (i := 1213) (by decide +kernel), List.mem_of_getElem? (i := 1214) (by decide +kernel)⟩
theorem lw_p90 : lw_okq (⟨"NinthStepModel", "again", "([I)V"⟩, 31) := ⟨⟨by decide +kernel, by decide +kernel⟩, List.mem_of_getElem? (i := 970) (by decide +kernel), List.mem_of_getElem? (i := 1224) (by decide +kernel), List.mem_of_getElem? (i := 1225) (by decide +kernel)⟩
theorem lw_p91 : lw_okq (⟨"NinthStepModel", "begins", "(I)V"⟩, 31) := ⟨⟨by decide +kernel, by decide +kernel⟩, List.mem_of_getElem? (i := 970) (by decide +kernel), List.mem_of_getElem? (i := 1240) (by decide +kernel), List.mem_of_getElem? (i := 1241) (by decide +kernel)⟩
theorem lw_p92 : lw_okq (⟨"NinthStepModel", "stepped", "(Z)Z"⟩, 31) := ⟨⟨by decide +kernel, by decide +kernel⟩, List.mem_of_getElem? (i := 970) (by decide +kernel), List.mem_of_getElem? (i := 1244) (by decide +kernel), List.mem_of_getElem? (i := 1245) (by decide +kernel)⟩
theorem lw_p93 : lw_okq (⟨"NinthStepModel", "stopsHere", "()Z"⟩, 31) := ⟨⟨by decide +kernel, by decide +kernel⟩, List.mem_of_getElem? (i := 970) (by decide +kernel), List.mem_of_getElem? (i := 1248) (by decide +kernel), List.mem_of_getElem? (i := 1249) (by decide +kernel)⟩
theorem lw_p94 : lw_okq (⟨"NinthStepModel", "minutesOf", "(I)I"⟩, 31) := ⟨⟨by decide +kernel, by decide +kernel⟩, List.mem_of_getElem? (i := 970) (by decide +kernel), List.mem_of_getElem? (i := 1257) (by decide +kernel), List.mem_of_getElem? (i := 1258) (by decide +kernel)⟩
theorem lw_p95 : lw_okq (⟨"NinthStepModel", "afterAll", "(II)I"⟩, 31) := ⟨⟨by decide +kernel, by decide +kernel⟩, List.mem_of_getElem? (i := 970) (by decide +kernel), List.mem_of_getElem? (i := 1265) (by decide +kernel), List.mem_of_getElem? (i := 1266) (by decide +kernel)⟩
def lw_privs_6 : List (MethodName × Nat) := [(⟨"NinthStepModel", "highest", "()I"⟩, 31), (⟨"NinthStepModel", "longer", "(I)V"⟩, 31), (⟨"NinthStepModel", "isPlace", "(I)Z"⟩, 31), (⟨"NinthStepModel", "canBe", "(II)Z"⟩, 31), (⟨"NinthStepModel", "newMule", "(III)I"⟩, 31), (⟨"NinthStepModel", "keep", "([I)V"⟩, 31), (⟨"NinthStepModel", "next", "()V"⟩, 31), (⟨"NinthStepModel", "statement", "()Z"⟩, 31), (⟨"NinthStepModel", "isWord", "(Ljava/lang/String;)Z"⟩, 31), (⟨"NinthStepModel", "number", "(II)Z"⟩, 31), (⟨"NinthStepModel", "again", "([I)V"⟩, 31), (⟨"NinthStepModel", "begins", "(I)V"⟩, 31), (⟨"NinthStepModel", "stepped", "(Z)Z"⟩, 31), (⟨"NinthStepModel", "stopsHere", "()Z"⟩, 31), (⟨"NinthStepModel", "minutesOf", "(I)I"⟩, 31), (⟨"NinthStepModel", "afterAll", "(II)I"⟩, 31)]
theorem lw_r6 : ∀ q ∈ lw_privs_6, lw_okq q := List.forall_mem_cons.mpr ⟨lw_p80, List.forall_mem_cons.mpr ⟨lw_p81, List.forall_mem_cons.mpr ⟨lw_p82, List.forall_mem_cons.mpr ⟨lw_p83, List.forall_mem_cons.mpr ⟨lw_p84, List.forall_mem_cons.mpr ⟨lw_p85, List.forall_mem_cons.mpr ⟨lw_p86, List.forall_mem_cons.mpr ⟨lw_p87, List.forall_mem_cons.mpr ⟨lw_p88, List.forall_mem_cons.mpr ⟨lw_p89, List.forall_mem_cons.mpr ⟨lw_p90, List.forall_mem_cons.mpr ⟨lw_p91, List.forall_mem_cons.mpr ⟨lw_p92, List.forall_mem_cons.mpr ⟨lw_p93, List.forall_mem_cons.mpr ⟨lw_p94, List.forall_mem_cons.mpr ⟨lw_p95, fun _ h => absurd h List.not_mem_nil⟩⟩⟩⟩⟩⟩⟩⟩⟩⟩⟩⟩⟩⟩⟩⟩
theorem lw_p96 : lw_okq (⟨"NinthStepModel", "isGood", "(I)Z"⟩, 31) := ⟨⟨by decide +kernel, by decide +kernel⟩, List.mem_of_getElem? (i := 970) (by decide +kernel), List.mem_of_getElem? (i := 1273) (by decide +kernel), List.mem_of_getElem? (i := 1274) (by decide +kernel)⟩
theorem lw_p97 : lw_okq (⟨"NinthStepModel", "journey", "(II)I"⟩, 31) := ⟨⟨by decide +kernel, by decide +kernel⟩, List.mem_of_getElem? (i := 970) (by decide +kernel), List.mem_of_getElem? (i := 1277) (by decide +kernel), List.mem_of_getElem? (i := 1278) (by decide +kernel)⟩
theorem lw_p98 : lw_okq (⟨"NinthStepModel", "turnsOf", "(I)I"⟩, 31) := ⟨⟨by decide +kernel, by decide +kernel⟩, List.mem_of_getElem? (i := 970) (by decide +kernel), List.mem_of_getElem? (i := 1293) (by decide +kernel), List.mem_of_getElem? (i := 1294) (by decide +kernel)⟩
theorem lw_p99 : lw_okq (⟨"NinthStepModel", "turning", "(IZ)I"⟩, 31) := ⟨⟨by decide +kernel, by decide +kernel⟩, List.mem_of_getElem? (i := 970) (by decide +kernel), List.mem_of_getElem? (i := 1297) (by decide +kernel), List.mem_of_getElem? (i := 1298) (by decide +kernel)⟩
theorem lw_p100 : lw_okq (⟨"NinthStepModel", "stopsAt", "(III)Z"⟩, 31) := ⟨⟨by decide +kernel, by decide +kernel⟩, List.mem_of_getElem? (i := 970) (by decide +kernel), List.mem_of_getElem? (i := 1306) (by decide +kernel), List.mem_of_getElem? (i := 1307) (by decide +kernel)⟩
theorem lw_p101 : lw_okq (⟨"NinthStepModel", "crowdAt", "(I)I"⟩, 31) := ⟨⟨by decide +kernel, by decide +kernel⟩, List.mem_of_getElem? (i := 970) (by decide +kernel), List.mem_of_getElem? (i := 1326) (by decide +kernel), List.mem_of_getElem? (i := 1327) (by decide +kernel)⟩
theorem lw_p102 : lw_okq (⟨"NinthStepModel", "newStones", "()I"⟩, 31) := ⟨⟨by decide +kernel, by decide +kernel⟩, List.mem_of_getElem? (i := 970) (by decide +kernel), List.mem_of_getElem? (i := 1338) (by decide +kernel), List.mem_of_getElem? (i := 1339) (by decide +kernel)⟩
theorem lw_p103 : lw_okq (⟨"NinthStepModel", "noneFalls", "()Z"⟩, 31) := ⟨⟨by decide +kernel, by decide +kernel⟩, List.mem_of_getElem? (i := 970) (by decide +kernel), List.mem_of_getElem? (i := 1342) (by decide +kernel), List.mem_of_getElem? (i := 1343) (by decide +kernel)⟩
theorem lw_p104 : lw_okq (⟨"NinthStepModel", "rests", "(I)V"⟩, 31) := ⟨⟨by decide +kernel, by decide +kernel⟩, List.mem_of_getElem? (i := 970) (by decide +kernel), List.mem_of_getElem? (i := 1372) (by decide +kernel), List.mem_of_getElem? (i := 1373) (by decide +kernel)⟩
theorem lw_p105 : lw_okq (⟨"NinthStepModel", "stays", "(I)V"⟩, 31) := ⟨⟨by decide +kernel, by decide +kernel⟩, List.mem_of_getElem? (i := 970) (by decide +kernel), List.mem_of_getElem? (i := 1376) (by decide +kernel), List.mem_of_getElem? (i := 1377) (by decide +kernel)⟩
theorem lw_p106 : lw_okq (⟨"NinthStepModel", "draw", "(I)I"⟩, 31) := ⟨⟨by decide +kernel, by decide +kernel⟩, List.mem_of_getElem? (i := 970) (by decide +kernel), List.mem_of_getElem? (i := 1388) (by decide +kernel), List.mem_of_getElem? (i := 1389) (by decide +kernel)⟩
theorem lw_p107 : lw_okq (⟨"NinthStepModel", "those", "(I)I"⟩, 31) := ⟨⟨by decide +kernel, by decide +kernel⟩, List.mem_of_getElem? (i := 970) (by decide +kernel), List.mem_of_getElem? (i := 1413) (by decide +kernel), List.mem_of_getElem? (i := 1414) (by decide +kernel)⟩
def lw_privs_7 : List (MethodName × Nat) := [(⟨"NinthStepModel", "isGood", "(I)Z"⟩, 31), (⟨"NinthStepModel", "journey", "(II)I"⟩, 31), (⟨"NinthStepModel", "turnsOf", "(I)I"⟩, 31), (⟨"NinthStepModel", "turning", "(IZ)I"⟩, 31), (⟨"NinthStepModel", "stopsAt", "(III)Z"⟩, 31), (⟨"NinthStepModel", "crowdAt", "(I)I"⟩, 31), (⟨"NinthStepModel", "newStones", "()I"⟩, 31), (⟨"NinthStepModel", "noneFalls", "()Z"⟩, 31), (⟨"NinthStepModel", "rests", "(I)V"⟩, 31), (⟨"NinthStepModel", "stays", "(I)V"⟩, 31), (⟨"NinthStepModel", "draw", "(I)I"⟩, 31), (⟨"NinthStepModel", "those", "(I)I"⟩, 31)]
theorem lw_r7 : ∀ q ∈ lw_privs_7, lw_okq q := List.forall_mem_cons.mpr ⟨lw_p96, List.forall_mem_cons.mpr ⟨lw_p97, List.forall_mem_cons.mpr ⟨lw_p98, List.forall_mem_cons.mpr ⟨lw_p99, List.forall_mem_cons.mpr ⟨lw_p100, List.forall_mem_cons.mpr ⟨lw_p101, List.forall_mem_cons.mpr ⟨lw_p102, List.forall_mem_cons.mpr ⟨lw_p103, List.forall_mem_cons.mpr ⟨lw_p104, List.forall_mem_cons.mpr ⟨lw_p105, List.forall_mem_cons.mpr ⟨lw_p106, List.forall_mem_cons.mpr ⟨lw_p107, fun _ h => absurd h List.not_mem_nil⟩⟩⟩⟩⟩⟩⟩⟩⟩⟩⟩⟩
def lw_privs : List (MethodName × Nat) := lw_privs_1 ++ (lw_privs_2 ++ (lw_privs_3 ++ (lw_privs_4 ++ (lw_privs_5 ++ (lw_privs_6 ++ (lw_privs_7))))))
def lw_tbl : List Cond := k2_sels lw_privs ++ tables_1
theorem lw_privs_ok : ∀ q ∈ lw_privs, lw_okq q := by
  show ∀ q ∈ lw_privs_1 ++ (lw_privs_2 ++ (lw_privs_3 ++ (lw_privs_4 ++ (lw_privs_5 ++ (lw_privs_6 ++ (lw_privs_7)))))), lw_okq q
  exact List.forall_mem_append.mpr ⟨lw_r1, List.forall_mem_append.mpr ⟨lw_r2, List.forall_mem_append.mpr ⟨lw_r3, List.forall_mem_append.mpr ⟨lw_r4, List.forall_mem_append.mpr ⟨lw_r5, List.forall_mem_append.mpr ⟨lw_r6, lw_r7⟩⟩⟩⟩⟩⟩
-- ===== end of PART A; then your names; then what follows =====
end
section
def nR_0 : String := "NinthStep$Chance"
def nT_0 : u_T := fun k => match k with
  | 0 => ("NinthStep$Chance", "parts", "[I", true)
  | _ => ("NinthStep$Chance", "next", "[I", true)
def ny_0 : Nat → FieldType := fun k => match k with
  | 0 => (.array .int)
  | _ => (.array .int)
theorem nnm_0 : ∀ a, a < 2 → ∀ b, b < 2 → a ≠ b → (nT_0 a).2.1 ≠ (nT_0 b).2.1 := by decide +kernel
theorem nty_0 : ∀ k, k < 2 → parseFieldDescriptor (nT_0 k).2.2.1 = some (ny_0 k) := by decide +kernel
def nR_1 : String := "NinthStep$Ground"
def nT_1 : u_T := fun k => match k with
  | 0 => ("NinthStep$Ground", "end", "I", false)
  | 1 => ("NinthStep$Ground", "stones", "J", false)
  | 2 => ("NinthStep$Ground", "inns", "J", false)
  | 3 => ("NinthStep$Ground", "cliffs", "J", false)
  | _ => ("NinthStep$Ground", "views", "J", false)
def ny_1 : Nat → FieldType := fun k => match k with
  | 0 => .int
  | 1 => .long
  | 2 => .long
  | 3 => .long
  | _ => .long
theorem nnm_1 : ∀ a, a < 5 → ∀ b, b < 5 → a ≠ b → (nT_1 a).2.1 ≠ (nT_1 b).2.1 := by decide +kernel
theorem nty_1 : ∀ k, k < 5 → parseFieldDescriptor (nT_1 k).2.2.1 = some (ny_1 k) := by decide +kernel
def nR_2 : String := "NinthStep$Mule"
def nT_2 : u_T := fun k => match k with
  | 0 => ("NinthStep$Mule", "kind", "I", false)
  | 1 => ("NinthStep$Mule", "number", "I", false)
  | 2 => ("NinthStep$Mule", "at", "I", false)
  | 3 => ("NinthStep$Mule", "count", "I", false)
  | 4 => ("NinthStep$Mule", "rested", "I", false)
  | 5 => ("NinthStep$Mule", "a", "I", false)
  | 6 => ("NinthStep$Mule", "restTime", "I", false)
  | _ => ("NinthStep$Mule", "stoneWeight", "I", false)
def ny_2 : Nat → FieldType := fun k => match k with
  | 0 => .int
  | 1 => .int
  | 2 => .int
  | 3 => .int
  | 4 => .int
  | 5 => .int
  | 6 => .int
  | _ => .int
theorem nnm_2 : ∀ a, a < 8 → ∀ b, b < 8 → a ≠ b → (nT_2 a).2.1 ≠ (nT_2 b).2.1 := by decide +kernel
theorem nty_2 : ∀ k, k < 8 → parseFieldDescriptor (nT_2 k).2.2.1 = some (ny_2 k) := by decide +kernel
def nR_3 : String := "NinthStep$Shelf"
def nT_3 : u_T := fun k => match k with
  | 0 => ("NinthStep$Shelf", "held", "I", false)
  | 1 => ("NinthStep$Shelf", "size", "I", false)
  | _ => ("NinthStep$Shelf", "cells", "[J", true)
def ny_3 : Nat → FieldType := fun k => match k with
  | 0 => .int
  | 1 => .int
  | _ => (.array .long)
theorem nnm_3 : ∀ a, a < 3 → ∀ b, b < 3 → a ≠ b → (nT_3 a).2.1 ≠ (nT_3 b).2.1 := by decide +kernel
theorem nty_3 : ∀ k, k < 3 → parseFieldDescriptor (nT_3 k).2.2.1 = some (ny_3 k) := by decide +kernel
def nR_4 : String := "NinthStep$StonePlan"
def nT_4 : u_T := fun k => match k with
  | 0 => ("NinthStep$StonePlan", "safe", "[J", true)
  | 1 => ("NinthStep$StonePlan", "seconds", "[J", true)
  | 2 => ("NinthStep$StonePlan", "numberAt", "[I", true)
  | 3 => ("NinthStep$StonePlan", "outer", "LNinthStep$Mule;", true)
  | 4 => ("NinthStep$StonePlan", "branch", "LNinthStep$Mule;", true)
  | 5 => ("NinthStep$StonePlan", "inner", "LNinthStep$Mule;", true)
  | 6 => ("NinthStep$StonePlan", "trial", "LNinthStep$Mule;", true)
  | 7 => ("NinthStep$StonePlan", "ground", "LNinthStep$Ground;", false)
  | 8 => ("NinthStep$StonePlan", "first", "I", false)
  | _ => ("NinthStep$StonePlan", "second", "I", false)
def ny_4 : Nat → FieldType := fun k => match k with
  | 0 => (.array .long)
  | 1 => (.array .long)
  | 2 => (.array .int)
  | 3 => (.object "NinthStep$Mule")
  | 4 => (.object "NinthStep$Mule")
  | 5 => (.object "NinthStep$Mule")
  | 6 => (.object "NinthStep$Mule")
  | 7 => (.object "NinthStep$Ground")
  | 8 => .int
  | _ => .int
theorem nnm_4 : ∀ a, a < 10 → ∀ b, b < 10 → a ≠ b → (nT_4 a).2.1 ≠ (nT_4 b).2.1 := by decide +kernel
theorem nty_4 : ∀ k, k < 10 → parseFieldDescriptor (nT_4 k).2.2.1 = some (ny_4 k) := by decide +kernel
def nR_5 : String := "NinthStep$Tape"
def nT_5 : u_T := fun k => match k with
  | 0 => ("NinthStep$Tape", "bytes", "[I", true)
  | 1 => ("NinthStep$Tape", "size", "I", false)
  | 2 => ("NinthStep$Tape", "fault", "I", false)
  | 3 => ("NinthStep$Tape", "sort", "I", false)
  | 4 => ("NinthStep$Tape", "from", "I", false)
  | _ => ("NinthStep$Tape", "behind", "I", false)
def ny_5 : Nat → FieldType := fun k => match k with
  | 0 => (.array .int)
  | 1 => .int
  | 2 => .int
  | 3 => .int
  | 4 => .int
  | _ => .int
theorem nnm_5 : ∀ a, a < 6 → ∀ b, b < 6 → a ≠ b → (nT_5 a).2.1 ≠ (nT_5 b).2.1 := by decide +kernel
theorem nty_5 : ∀ k, k < 6 → parseFieldDescriptor (nT_5 k).2.2.1 = some (ny_5 k) := by decide +kernel
def nR_6 : String := "NinthStep$TurnPlan"
def nT_6 : u_T := fun k => match k with
  | 0 => ("NinthStep$TurnPlan", "needed", "[I", true)
  | 1 => ("NinthStep$TurnPlan", "numberAt", "[I", true)
  | 2 => ("NinthStep$TurnPlan", "trial", "LNinthStep$Mule;", true)
  | 3 => ("NinthStep$TurnPlan", "ground", "LNinthStep$Ground;", false)
  | 4 => ("NinthStep$TurnPlan", "start", "I", false)
  | _ => ("NinthStep$TurnPlan", "firstCount", "I", false)
def ny_6 : Nat → FieldType := fun k => match k with
  | 0 => (.array .int)
  | 1 => (.array .int)
  | 2 => (.object "NinthStep$Mule")
  | 3 => (.object "NinthStep$Ground")
  | 4 => .int
  | _ => .int
theorem nnm_6 : ∀ a, a < 6 → ∀ b, b < 6 → a ≠ b → (nT_6 a).2.1 ≠ (nT_6 b).2.1 := by decide +kernel
theorem nty_6 : ∀ k, k < 6 → parseFieldDescriptor (nT_6 k).2.2.1 = some (ny_6 k) := by decide +kernel
def nR_7 : String := "NinthStep$World"
def nT_7 : u_T := fun k => match k with
  | 0 => ("NinthStep$World", "ground", "LNinthStep$Ground;", true)
  | 1 => ("NinthStep$World", "mules", "[LNinthStep$Mule;", true)
  | 2 => ("NinthStep$World", "herd", "I", false)
  | 3 => ("NinthStep$World", "slipping", "I", false)
  | 4 => ("NinthStep$World", "fell", "I", false)
  | _ => ("NinthStep$World", "seedNow", "I", false)
def ny_7 : Nat → FieldType := fun k => match k with
  | 0 => (.object "NinthStep$Ground")
  | 1 => (.array (.object "NinthStep$Mule"))
  | 2 => .int
  | 3 => .int
  | 4 => .int
  | _ => .int
theorem nnm_7 : ∀ a, a < 6 → ∀ b, b < 6 → a ≠ b → (nT_7 a).2.1 ≠ (nT_7 b).2.1 := by decide +kernel
theorem nty_7 : ∀ k, k < 6 → parseFieldDescriptor (nT_7 k).2.2.1 = some (ny_7 k) := by decide +kernel
def nR_8 : String := "NinthStep"
def nT_8 : u_T := fun k => match k with
  | 0 => ("NinthStep", "now", "LNinthStep$World;", true)
  | 1 => ("NinthStep", "kept", "LNinthStep$World;", true)
  | 2 => ("NinthStep", "draft", "LNinthStep$World;", true)
  | 3 => ("NinthStep", "shelves", "[LNinthStep$Shelf;", true)
  | 4 => ("NinthStep", "tape", "LNinthStep$Tape;", true)
  | 5 => ("NinthStep", "turnPlan", "LNinthStep$TurnPlan;", true)
  | 6 => ("NinthStep", "stonePlan", "LNinthStep$StonePlan;", true)
  | 7 => ("NinthStep", "chance", "LNinthStep$Chance;", true)
  | 8 => ("NinthStep", "walker", "LNinthStep$Mule;", true)
  | 9 => ("NinthStep", "crowds", "[I", true)
  | 10 => ("NinthStep", "refusals", "[I", true)
  | _ => ("NinthStep", "isKept", "Z", false)
def ny_8 : Nat → FieldType := fun k => match k with
  | 0 => (.object "NinthStep$World")
  | 1 => (.object "NinthStep$World")
  | 2 => (.object "NinthStep$World")
  | 3 => (.array (.object "NinthStep$Shelf"))
  | 4 => (.object "NinthStep$Tape")
  | 5 => (.object "NinthStep$TurnPlan")
  | 6 => (.object "NinthStep$StonePlan")
  | 7 => (.object "NinthStep$Chance")
  | 8 => (.object "NinthStep$Mule")
  | 9 => (.array .int)
  | 10 => (.array .int)
  | _ => .boolean
theorem nnm_8 : ∀ a, a < 12 → ∀ b, b < 12 → a ≠ b → (nT_8 a).2.1 ≠ (nT_8 b).2.1 := by decide +kernel
theorem nty_8 : ∀ k, k < 12 → parseFieldDescriptor (nT_8 k).2.2.1 = some (ny_8 k) := by decide +kernel
def nR_9 : String := "NinthStepModel"
def nT_9 : u_T := fun k => match k with
  | 0 => ("NinthStepModel", "holding", "[I", true)
  | 1 => ("NinthStepModel", "rowLength", "[I", true)
  | 2 => ("NinthStepModel", "rowOf", "[J", true)
  | 3 => ("NinthStepModel", "end", "I", false)
  | 4 => ("NinthStepModel", "there", "[I", true)
  | 5 => ("NinthStepModel", "mules", "I", false)
  | 6 => ("NinthStepModel", "kind", "[I", true)
  | 7 => ("NinthStepModel", "number", "[I", true)
  | 8 => ("NinthStepModel", "place", "[I", true)
  | 9 => ("NinthStepModel", "count", "[I", true)
  | 10 => ("NinthStepModel", "rested", "[I", true)
  | 11 => ("NinthStepModel", "own", "[I", true)
  | 12 => ("NinthStepModel", "slip", "I", false)
  | 13 => ("NinthStepModel", "fell", "I", false)
  | 14 => ("NinthStepModel", "seed", "I", false)
  | 15 => ("NinthStepModel", "taped", "I", false)
  | 16 => ("NinthStepModel", "tape", "[I", true)
  | 17 => ("NinthStepModel", "at", "I", false)
  | 18 => ("NinthStepModel", "token", "I", false)
  | 19 => ("NinthStepModel", "sort", "I", false)
  | 20 => ("NinthStepModel", "value", "I", false)
  | 21 => ("NinthStepModel", "refusals", "[I", true)
  | 22 => ("NinthStepModel", "imaged", "Z", false)
  | 23 => ("NinthStepModel", "old", "[I", true)
  | 24 => ("NinthStepModel", "ahead", "[I", true)
  | 25 => ("NinthStepModel", "goer", "I", false)
  | 26 => ("NinthStepModel", "every", "I", false)
  | 27 => ("NinthStepModel", "here", "I", false)
  | 28 => ("NinthStepModel", "steps", "I", false)
  | 29 => ("NinthStepModel", "fewest", "[I", true)
  | _ => ("NinthStepModel", "turned", "[I", true)
def ny_9 : Nat → FieldType := fun k => match k with
  | 0 => (.array .int)
  | 1 => (.array .int)
  | 2 => (.array .long)
  | 3 => .int
  | 4 => (.array .int)
  | 5 => .int
  | 6 => (.array .int)
  | 7 => (.array .int)
  | 8 => (.array .int)
  | 9 => (.array .int)
  | 10 => (.array .int)
  | 11 => (.array .int)
  | 12 => .int
  | 13 => .int
  | 14 => .int
  | 15 => .int
  | 16 => (.array .int)
  | 17 => .int
  | 18 => .int
  | 19 => .int
  | 20 => .int
  | 21 => (.array .int)
  | 22 => .boolean
  | 23 => (.array .int)
  | 24 => (.array .int)
  | 25 => .int
  | 26 => .int
  | 27 => .int
  | 28 => .int
  | 29 => (.array .int)
  | _ => (.array .int)
theorem nnm_9 : ∀ a, a < 31 → ∀ b, b < 31 → a ≠ b → (nT_9 a).2.1 ≠ (nT_9 b).2.1 := by decide +kernel
theorem nty_9 : ∀ k, k < 31 → parseFieldDescriptor (nT_9 k).2.2.1 = some (ny_9 k) := by decide +kernel
def ns_cl : List vw_C := [(nR_0, nT_0, 2), (nR_1, nT_1, 5), (nR_2, nT_2, 8), (nR_3, nT_3, 3), (nR_4, nT_4, 10), (nR_5, nT_5, 6), (nR_6, nT_6, 6), (nR_7, nT_7, 6), (nR_8, nT_8, 12), (nR_9, nT_9, 31)]
def ns_ft : Nat → List Nat := fun ci => match ci with
  | 0 => [2, 2]
  | 1 => [0, 1, 1, 1, 1]
  | 2 => [0, 0, 0, 0, 0, 0, 0, 0]
  | 3 => [0, 0, 2]
  | 4 => [2, 2, 2, 2, 2, 2, 2, 2, 0, 0]
  | 5 => [2, 0, 0, 0, 0, 0]
  | 6 => [2, 2, 2, 2, 0, 0]
  | 7 => [2, 2, 0, 0, 0, 0]
  | 8 => [2, 2, 2, 2, 2, 2, 2, 2, 2, 2, 2, 0]
  | 9 => [2, 2, 2, 0, 2, 0, 2, 2, 2, 2, 2, 2, 0, 0, 0, 0, 2, 0, 0, 0, 0, 2, 0, 2, 2, 0, 0, 0, 0, 2, 2]
  | _ => []
def ns_kL : List Nat := [8, 7, 1, 12, 2, 2, 2, 2, 2, 2, 7, 1, 12, 2, 2, 2, 2, 2, 2, 7, 1, 12, 2, 2, 2, 2, 2, 2, 13, 5, 10, 6, 10, 10, 2, 4, 11, 11, 10, 2, 2, 2, 2, 0, 10, 10, 2, 10, 10, 3, 11, 3, 11, 3, 11, 3, 11, 3, 11, 3, 11, 3, 11, 3, 11, 9, 10, 10, 11, 10, 10, 10, 10, 10, 10, 10, 10, 10, 10, 10, 10, 10]
def ns_lL : List Nat := [0, 0, 0, 6, 0, 0, 0, 0, 0, 0, 0, 0, 6, 0, 0, 0, 0, 0, 0, 0, 0, 6, 0, 0, 0, 0, 0, 0, 8, 0, 250, 0, 3904, 61, 0, 0, 61, 61, 61, 0, 0, 0, 0, 0, 65, 65, 0, 61, 5, 0, 40, 0, 40, 0, 40, 0, 40, 0, 40, 0, 40, 0, 40, 0, 40, 0, 8, 8, 320, 61, 6, 6, 6, 6, 6, 6, 250, 7, 102, 102, 8000, 61]
def ns_kd (a : Nat) : Nat := ns_kL.getD a 99
def ns_ln (a : Nat) : Nat := ns_lL.getD a 0
def ns_N : Nat := 82
theorem ns_kd_lt {a k : Nat} (h : ns_kd a = k) (hk : k < 99) : a < ns_N := by
  rcases Nat.lt_or_ge a ns_N with h1 | h1
  · exact h1
  · exfalso
    have h2 : ns_kd a = 99 := by
      unfold ns_kd
      rw [List.getD_eq_getElem?_getD, List.getElem?_eq_none (show ns_kL.length ≤ a from h1)]
      rfl
    omega
end
section
/-! the memory of the whole system: ints, longs and references of every cell, by the cell's number and the place in it -/
abbrev ns_St : Type := (Nat → Nat → Int32) × (Nat → Nat → Int64) × (Nat → Nat → Option Nat)
/-- where the cells begin, the classes, the array classes, the heap at the start -/
abbrev ns_G : Type := Nat × va_G × (Nat → ClassId) × Heap
def ns_rf (b : Nat) (x : Option Nat) : Option Nat := x.map (fun a => b + a)
def ns_fv (b : Nat) (σ : ns_St) (a k t : Nat) : Value := if t = 0 then .int (σ.1 a k) else if t = 1 then .long (σ.2.1 a k) else va_rf (ns_rf b (σ.2.2 a k))
def ns_fl (b : Nat) (σ : ns_St) (a ci : Nat) : List Value := (ns_ft ci).mapIdx (fun k t => ns_fv b σ a k t)
def ns_cE (G : ns_G) (σ : ns_St) (a : Nat) : va_E :=
  if ns_kd a < 10 then .inr (ns_kd a, ns_fl G.1 σ a (ns_kd a))
  else .inl (G.2.2.1 (ns_kd a), ns_ln a, if ns_kd a = 10 then .inl (σ.1 a) else if ns_kd a = 11 then .inr (.inl (σ.2.1 a)) else .inr (.inr (.inr (.inr (fun k => ns_rf G.1 (σ.2.2 a k))))))
def ns_wl (G : ns_G) (n : Nat) (σ : ns_St) : va_W := (List.range n).map (fun k => (G.1 + k, ns_cE G σ k))
def ns_Wd (G : ns_G) (n : Nat) (σ : ns_St) (H : Heap) : Prop := H.size = G.1 + n ∧ va_P G.2.1 ns_cl (ns_wl G n σ) H ∧ ∀ q, q < G.1 → H[q]? = G.2.2.2[q]?
abbrev ns_A (G : ns_G) : Nat → Prop := fun q => G.1 ≤ q
def ns_tys (G : ns_G) : List (ClassId × FieldType) := [(G.2.2.1 10, .int), (G.2.2.1 11, .long), (G.2.2.1 12, .object "NinthStep$Mule"), (G.2.2.1 13, .object "NinthStep$Shelf")]
def ns_pI (σ : ns_St) (a k : Nat) (v : Int32) : ns_St := (va_up σ.1 a (va_up (σ.1 a) k v), σ.2.1, σ.2.2)
def ns_pJ (σ : ns_St) (a k : Nat) (v : Int64) : ns_St := (σ.1, va_up σ.2.1 a (va_up (σ.2.1 a) k v), σ.2.2)
def ns_pR (σ : ns_St) (a k : Nat) (v : Option Nat) : ns_St := (σ.1, σ.2.1, va_up σ.2.2 a (va_up (σ.2.2 a) k v))
theorem ns_wl_at (G : ns_G) {n : Nat} (σ : ns_St) {a : Nat} (h : a < n) : (ns_wl G n σ)[a]? = some (G.1 + a, ns_cE G σ a) := by
  simp [ns_wl, h]
theorem ns_wl_len (G : ns_G) (n : Nat) (σ : ns_St) : (ns_wl G n σ).length = n := by simp [ns_wl]
theorem ns_wD (G : ns_G) (n : Nat) (σ : ns_St) : va_D (ns_A G) (ns_wl G n σ) := by
  have key : ∀ (k : Nat) (q : Nat × va_E), (ns_wl G n σ)[k]? = some q → q.1 = G.1 + k := by
    intro k q hk
    have hl : k < n := by
      have := (List.getElem?_eq_some_iff.mp hk).1
      rwa [ns_wl_len] at this
    rw [ns_wl_at G σ hl] at hk
    cases hk
    rfl
  refine ⟨fun i j p q hi hj h => ?_, fun k q hk => ?_⟩
  · have h1 := key i p hi
    have h2 := key j q hj
    omega
  · have h1 := key k q hk
    show G.1 ≤ q.1
    omega
/-- one cell has changed -/
theorem ns_set {G : ns_G} {n : Nat} {σ σ' : ns_St} {H H' : Heap} {a : Nat} (hW : ns_Wd G n σ H) (hsz : H'.size = H.size) (hoth : ∀ q, q ≠ G.1 + a → H'[q]? = H[q]?)
    (hnew : va_at G.2.1 ns_cl (G.1 + a, ns_cE G σ' a) H') (hsame : ∀ b, b ≠ a → ns_cE G σ' b = ns_cE G σ b) : ns_Wd G n σ' H' := by
  obtain ⟨h1, h2, h3⟩ := hW
  refine ⟨by rw [hsz]; exact h1, fun k q hk => ?_, fun q hq => by rw [hoth q (by omega)]; exact h3 q hq⟩
  have hl : k < n := by
    have := (List.getElem?_eq_some_iff.mp hk).1
    rwa [ns_wl_len] at this
  rw [ns_wl_at G σ' hl] at hk
  cases hk
  by_cases hka : k = a
  · subst hka; exact hnew
  · have := h2 k _ (ns_wl_at G σ hl)
    rw [hsame k hka]
    exact this.kept (hoth _ (by show G.1 + k ≠ G.1 + a; omega))
/-- a new cell -/
theorem ns_push {G : ns_G} {n : Nat} {σ σ' : ns_St} {H H' : Heap} (hW : ns_Wd G n σ H) (hsz : H'.size = G.1 + n + 1) (hoth : ∀ q, q < G.1 + n → H'[q]? = H[q]?)
    (hnew : va_at G.2.1 ns_cl (G.1 + n, ns_cE G σ' n) H') (hsame : ∀ b, b ≠ n → ns_cE G σ' b = ns_cE G σ b) : ns_Wd G (n + 1) σ' H' := by
  obtain ⟨h1, h2, h3⟩ := hW
  refine ⟨by omega, fun k q hk => ?_, fun q hq => by rw [hoth q (by omega)]; exact h3 q hq⟩
  have hl : k < n + 1 := by
    have := (List.getElem?_eq_some_iff.mp hk).1
    rwa [ns_wl_len] at this
  rw [ns_wl_at G σ' hl] at hk
  cases hk
  by_cases hka : k = n
  · subst hka; exact hnew
  · have := h2 k _ (ns_wl_at G σ (by omega))
    rw [hsame k hka]
    exact this.kept (hoth _ (by show G.1 + k < G.1 + n; omega))
theorem ns_cE_obj (G : ns_G) (σ : ns_St) {a ci : Nat} (h : ns_kd a = ci) (hci : ci < 10) : ns_cE G σ a = .inr (ci, ns_fl G.1 σ a ci) := by
  subst h; simp [ns_cE, hci]
theorem ns_cE_I (G : ns_G) (σ : ns_St) {a : Nat} (h : ns_kd a = 10) : ns_cE G σ a = .inl (G.2.2.1 10, ns_ln a, .inl (σ.1 a)) := by
  simp [ns_cE, h]
theorem ns_cE_J (G : ns_G) (σ : ns_St) {a : Nat} (h : ns_kd a = 11) : ns_cE G σ a = .inl (G.2.2.1 11, ns_ln a, .inr (.inl (σ.2.1 a))) := by
  simp [ns_cE, h]
theorem ns_cE_R (G : ns_G) (σ : ns_St) {a k : Nat} (h : ns_kd a = k) (hk : k = 12 ∨ k = 13) : ns_cE G σ a = .inl (G.2.2.1 k, ns_ln a, .inr (.inr (.inr (.inr (fun k => ns_rf G.1 (σ.2.2 a k)))))) := by
  subst h; rcases hk with hk | hk <;> simp [ns_cE, hk]
theorem ns_fl_at (b : Nat) (σ : ns_St) (a ci k t : Nat) (h : (ns_ft ci)[k]? = some t) : (ns_fl b σ a ci)[k]? = some (ns_fv b σ a k t) := by
  simp [ns_fl, List.getElem?_mapIdx, h]
theorem ns_cE_ne {G : ns_G} {σ σ' : ns_St} {b : Nat} (h1 : σ'.1 b = σ.1 b) (h2 : σ'.2.1 b = σ.2.1 b) (h3 : σ'.2.2 b = σ.2.2 b) : ns_cE G σ' b = ns_cE G σ b := by
  simp only [ns_cE, ns_fl, ns_fv, h1, h2, h3]
theorem ns_pI_ne {G : ns_G} {σ : ns_St} {a k : Nat} {v : Int32} : ∀ b, b ≠ a → ns_cE G (ns_pI σ a k v) b = ns_cE G σ b := fun b h => ns_cE_ne (va_up_ne _ _ h) rfl rfl
theorem ns_pJ_ne {G : ns_G} {σ : ns_St} {a k : Nat} {v : Int64} : ∀ b, b ≠ a → ns_cE G (ns_pJ σ a k v) b = ns_cE G σ b := fun b h => ns_cE_ne rfl (va_up_ne _ _ h) rfl
theorem ns_pR_ne {G : ns_G} {σ : ns_St} {a k : Nat} {v : Option Nat} : ∀ b, b ≠ a → ns_cE G (ns_pR σ a k v) b = ns_cE G σ b := fun b h => ns_cE_ne rfl rfl (va_up_ne _ _ h)
theorem ns_fl_set (b : Nat) {σ σ' : ns_St} (a ci k t : Nat) (h : (ns_ft ci)[k]? = some t) (hne : ∀ j t', j ≠ k → ns_fv b σ' a j t' = ns_fv b σ a j t') : ns_fl b σ' a ci = (ns_fl b σ a ci).set k (ns_fv b σ' a k t) := by
  apply List.ext_getElem?
  intro j
  rw [List.getElem?_set]
  by_cases hj : k = j
  · subst hj
    rw [ns_fl_at b σ' a ci k t h]
    have hl : k < (ns_fl b σ a ci).length := (List.getElem?_eq_some_iff.mp (ns_fl_at b σ a ci k t h)).1
    simp [hl]
  · rw [if_neg hj]
    simp only [ns_fl, List.getElem?_mapIdx]
    cases (ns_ft ci)[j]? with
    | none => rfl
    | some t' => simp [hne j t' (Ne.symm hj)]
theorem ns_fl_pI (b : Nat) (σ : ns_St) (a ci k : Nat) (v : Int32) (h : (ns_ft ci)[k]? = some 0) : ns_fl b (ns_pI σ a k v) a ci = (ns_fl b σ a ci).set k (.int v) := by
  have := ns_fl_set b (σ := σ) (σ' := ns_pI σ a k v) a ci k 0 h (fun j t' hj => by simp [ns_fv, ns_pI, va_up, hj])
  rw [this]
  simp [ns_fv, ns_pI, va_up]
theorem ns_fl_pJ (b : Nat) (σ : ns_St) (a ci k : Nat) (v : Int64) (h : (ns_ft ci)[k]? = some 1) : ns_fl b (ns_pJ σ a k v) a ci = (ns_fl b σ a ci).set k (.long v) := by
  have := ns_fl_set b (σ := σ) (σ' := ns_pJ σ a k v) a ci k 1 h (fun j t' hj => by simp [ns_fv, ns_pJ, va_up, hj])
  rw [this]
  simp [ns_fv, ns_pJ, va_up]
theorem ns_fl_pR (b : Nat) (σ : ns_St) (a ci k : Nat) (v : Option Nat) (h : (ns_ft ci)[k]? = some 2) : ns_fl b (ns_pR σ a k v) a ci = (ns_fl b σ a ci).set k (va_rf (ns_rf b v)) := by
  have := ns_fl_set b (σ := σ) (σ' := ns_pR σ a k v) a ci k 2 h (fun j t' hj => by simp [ns_fv, ns_pR, va_up, hj])
  rw [this]
  simp [ns_fv, ns_pR, va_up]
def ns_isNest (w : Cond) : Bool := match w with
  | .fieldLinkNest .. => true
  | .methodLinkNest .. => true
  | _ => false
def ns_TB : List Cond := lw_tbl.filter goodWord
def ns_NB : List Cond := lw_tbl.filter ns_isNest
theorem ns_tb {w : Cond} (h : w ∈ tables_1) (hg : goodWord w = true) : w ∈ ns_TB := List.mem_filter.mpr ⟨List.mem_append_right _ h, hg⟩
theorem ns_tbS {w : Cond} (h : w ∈ k2_sels lw_privs) (hg : goodWord w = true) : w ∈ ns_TB := List.mem_filter.mpr ⟨List.mem_append_left _ h, hg⟩
theorem ns_nb {w : Cond} (h : w ∈ tables_1) (hg : ns_isNest w = true) : w ∈ ns_NB := List.mem_filter.mpr ⟨List.mem_append_right _ h, hg⟩
/-- what stays so in every state: the classes, the nest mates' links -/
def ns_K (G : ns_G) (U : State) : Prop := va_K G.2.1 ns_cl (ns_tys G) U ∧ (∀ w ∈ ns_NB, va_Nw w U) ∧ va_AO "NinthStep$Mule" U ∧ va_AO "NinthStep$Shelf" U
theorem ns_K.warm {G : ns_G} {s U : State} (hW : s.WarmedH U.vm) (h : ns_K G s) : ns_K G U := by
  refine ⟨va_K.moved hW.alike h.1, fun w hw => ?_, va_AO.moved hW.alike h.2.2.1, va_AO.moved hW.alike h.2.2.2⟩
  have h1 := h.2.1 w hw
  have h2 := (List.mem_filter.mp hw).2
  cases w with
  | fieldLinkNest a i b n d hh => exact va_Nw.warmF hW h1
  | methodLinkNest a i x hh => exact va_Nw.warmM hW h1
  | _ => cases h2
theorem ns_K.same {G : ns_G} {s U : State} (hvm : s.vm = U.vm) (h : ns_K G s) : ns_K G U := by
  have ha : s.vm.Alike U.vm := by rw [hvm]; exact Vm.Alike.refl _
  refine ⟨va_K.moved ha h.1, fun w hw => ?_, va_AO.moved ha h.2.2.1, va_AO.moved ha h.2.2.2⟩
  have h1 := h.2.1 w hw
  have h2 := (List.mem_filter.mp hw).2
  cases w with
  | fieldLinkNest a i b n d hh => exact va_Nw.same rfl hvm h1
  | methodLinkNest a i x hh => exact va_Nw.same rfl hvm h1
  | _ => cases h2
def ns_Cx (G : ns_G) (p : Program) (s : State) (m : MethodId) (args : Array Value) (meth : Method) (c : Code) (cc : ByteArray) (own : String) (nL : Nat) : Prop :=
  p.tables.exec = Jvm.exec ∧ c.code = cc ∧ c.maxLocals = nL ∧ s.vm.findClass own = some m.cls ∧ (∀ w ∈ ns_TB, w.before args s = true) ∧ ns_K G s ∧ meth.locks = false
/-- the machine, at pc with these locals and this stack, the memory σ of n cells in the heap, comes to Q -/
def VV (G : ns_G) (p : Program) (l : Launch) (e : Env) (R : Room) (s : State) (m : MethodId) (args : Array Value) (below : List Frame) (meth : Method) (c : Code) (nL cells slots : Nat) (Q : State → Prop) (n : Nat) (σ : ns_St) (pc : Nat) (lv : List (Nat × Value)) (st : List Value) : Prop :=
  ∀ (H : Heap) (locs : List Loc) (ls : Array Slot), ns_Wd G n σ H → va_S (ns_A G) s.heap H locs → lv_has ls nL lv → W p l e R s m args below meth c H locs cells slots Q (F0 m pc ls st)
def ns_Qc (G : ns_G) (o : Option Value) (n : Nat) (σ : ns_St) : Array Value → State → Outcome → State → Prop := fun _ st oc t => oc = .returned o ∧ ns_Wd G n σ t.heap ∧ va_F (ns_A G) st t
/-- a method's contract: with these arguments, in this memory, it answers o and leaves that memory -/
def ns_ok (G : ns_G) (l : Launch) (y : MethodName) (cc : ByteArray) (maxL : Nat) (ret : Option FieldType) (fr lo mc ms : Nat) (av : List Value) (n : Nat) (σ : ns_St) (o : Option Value) (n' : Nat) (σ' : ns_St) : Prop :=
  Met l y (.code y cc maxL ret :: ns_TB) { frames := fr, cells := mc, slots := ms, locals := lo } (va_Pc av (fun U => ns_Wd G n σ U.heap ∧ ns_K G U)) (ns_Qc G o n' σ') mc ms (ns_A G)
def bnd {α β : Type} (v : α) (f : α → Option β) : Option β := f v
theorem bnd_e {α β : Type} {v : α} {f : α → Option β} {r : Option β} (h : bnd v f = r) : ∃ x, x = v ∧ f x = r := ⟨v, rfl, h⟩
def grd {β : Type} (c : Prop) [Decidable c] (f : Option β) : Option β := if c then f else none
theorem grd_e {β : Type} {c : Prop} [Decidable c] {f : Option β} {r : β} (h : grd c f = some r) : c ∧ f = some r := by
  unfold grd at h
  by_cases hc : c
  · rw [if_pos hc] at h; exact ⟨hc, h⟩
  · rw [if_neg hc] at h; cases h
def drf {β : Type} (x : Option Nat) (f : Nat → Option β) : Option β := x.bind f
theorem drf_e {β : Type} {x : Option Nat} {f : Nat → Option β} {r : β} (h : drf x f = some r) : ∃ b, x = some b ∧ f b = some r := Option.bind_eq_some_iff.mp h
def cll {α β : Type} (x : Option α) (f : α → Option β) : Option β := x.bind f
theorem cll_e {α β : Type} {x : Option α} {f : α → Option β} {r : β} (h : cll x f = some r) : ∃ b, x = some b ∧ f b = some r := Option.bind_eq_some_iff.mp h
def onul {β : Type} (x : Option Nat) (a : Option β) (f : Nat → Option β) : Option β := match x with
  | none => a
  | some b => f b
def ite2 {β : Type} (c : Prop) [Decidable c] (a b : Option β) : Option β := if c then a else b
theorem ite2_t {β : Type} {c : Prop} [Decidable c] {a b r : Option β} (h : ite2 c a b = r) (hc : c) : a = r := by rw [ite2, if_pos hc] at h; exact h
theorem ite2_f {β : Type} {c : Prop} [Decidable c] {a b r : Option β} (h : ite2 c a b = r) (hc : ¬ c) : b = r := by rw [ite2, if_neg hc] at h; exact h
abbrev ns_ix (i : Int32) : Nat := i.toNatClampNeg
theorem nin_0 : ∀ w ∈ u_ws nR_0 nT_0 2, w ∈ ns_TB := by decide +kernel
theorem nin_1 : ∀ w ∈ u_ws nR_1 nT_1 5, w ∈ ns_TB := by decide +kernel
theorem nin_2 : ∀ w ∈ u_ws nR_2 nT_2 8, w ∈ ns_TB := by decide +kernel
theorem nin_3 : ∀ w ∈ u_ws nR_3 nT_3 3, w ∈ ns_TB := by decide +kernel
theorem nin_4 : ∀ w ∈ u_ws nR_4 nT_4 10, w ∈ ns_TB := by decide +kernel
theorem nin_5 : ∀ w ∈ u_ws nR_5 nT_5 6, w ∈ ns_TB := by decide +kernel
theorem nin_6 : ∀ w ∈ u_ws nR_6 nT_6 6, w ∈ ns_TB := by decide +kernel
theorem nin_7 : ∀ w ∈ u_ws nR_7 nT_7 6, w ∈ ns_TB := by decide +kernel
theorem nin_8 : ∀ w ∈ u_ws nR_8 nT_8 12, w ∈ ns_TB := by decide +kernel
theorem nin_9 : ∀ w ∈ u_ws nR_9 nT_9 31, w ∈ ns_TB := by decide +kernel
end
section
section ROWS
variable {G : ns_G} {p : Program} {l : Launch} {e : Env} {R : Room} {s : State} {m : MethodId} {args : Array Value} {below : List Frame} {meth : Method} {c : Code} {cc : ByteArray} {own : String} {nL cells slots : Nat} {Q : State → Prop} {n : Nat} {σ : ns_St} {pc : Nat} {lv : List (Nat × Value)} {st : List Value}
theorem v_open {y : MethodName} {maxL : Nat} {ret : Option FieldType} {fr lo mc ms : Nat} {av : List Value} {o : Option Value} {n' : Nat} {σ' : ns_St} {lv : List (Nat × Value)} (hy : plainName y.cls = true) (hlen : (lg_sl av).length ≤ maxL) (hlv : lv_args 0 av = lv)
    (body : ∀ (p : Program) (e : Env) (s : State) (m : MethodId) (below : List Frame) (meth : Method) (c : Code), ns_Cx G p s m av.toArray meth c cc y.cls maxL → meth.sig.returnType = ret → meth.name = y.name →
      VV G p l e { frames := fr, cells := mc, slots := ms, locals := lo } s m av.toArray below meth c maxL 0 0 (MQ below (ns_Qc G o n' σ') av.toArray s mc ms (ns_A G)) n σ 0 lv []) : ns_ok G l y cc maxL ret fr lo mc ms av n σ o n' σ' := by
  refine Met.ofW (cc := cc) (maxL := maxL) (ret := ret) hy rfl ?_
  intro p e s m args below meth c s₁ B hml hv
  obtain ⟨rfl, hWd, hK⟩ := hv
  have hts := atoms_spec (ws := (.code y cc maxL ret :: ns_TB)) B.pre
  have hl := lv_entry av (n := maxL) hlen
  rw [hlv] at hl
  rw [lg_entry_eq]
  exact body p e s m below meth c ⟨B.exec, B.bytes, hml, findClass_of_methodNamed B.named, fun w hw => hts w (List.mem_cons_of_mem _ hw), hK, B.notSynchronized⟩ B.returns (name_of_methodNamed B.named B.method).1 s.heap [] _ hWd va_S.rf hl
theorem v_sub {lv' : List (Nat × Value)} (ks : List Nat) (hl : lv_pick lv ks = lv') (k : VV G p l e R s m args below meth c nL cells slots Q n σ pc lv' st) : VV G p l e R s m args below meth c nL cells slots Q n σ pc lv st :=
  fun H locs ls a b d => k H locs ls a b (lv_sub d ks hl)
theorem v_nmI {x y : Int32} (h : y = x) (k : VV G p l e R s m args below meth c nL cells slots Q n σ pc lv (.int y :: st)) : VV G p l e R s m args below meth c nL cells slots Q n σ pc lv (.int x :: st) := h ▸ k
theorem v_nmJ {x y : Int64} (h : y = x) (k : VV G p l e R s m args below meth c nL cells slots Q n σ pc lv (.long y :: st)) : VV G p l e R s m args below meth c nL cells slots Q n σ pc lv (.long x :: st) := h ▸ k
theorem v_iconst (C : ns_Cx G p s m args meth c cc own nL) (i : Int) (x : Int32) (hx : Int32.ofInt i = x) (pc' : Nat) (hp : pc + 1 = pc') (hd : decode cc pc = .ok (.iconst i, 1)) (k : VV G p l e R s m args below meth c nL cells slots Q n σ pc' lv (.int x :: st)) : VV G p l e R s m args below meth c nL cells slots Q n σ pc lv st := by
  subst hp; exact fun H locs ls a b d => lv_iconst C.1 C.2.1 hd hx (k H locs ls a b d)
theorem v_bipush (C : ns_Cx G p s m args meth c cc own nL) (i : Int) (x : Int32) (hx : (Int8.ofInt i).toInt32 = x) (pc' : Nat) (hp : pc + 2 = pc') (hd : decode cc pc = .ok (.bipush i, 2)) (k : VV G p l e R s m args below meth c nL cells slots Q n σ pc' lv (.int x :: st)) : VV G p l e R s m args below meth c nL cells slots Q n σ pc lv st := by
  subst hp; exact fun H locs ls a b d => lv_bipush C.1 C.2.1 hd hx (k H locs ls a b d)
theorem v_sipush (C : ns_Cx G p s m args meth c cc own nL) (i : Int) (x : Int32) (hx : (Int16.ofInt i).toInt32 = x) (pc' : Nat) (hp : pc + 3 = pc') (hd : decode cc pc = .ok (.sipush i, 3)) (k : VV G p l e R s m args below meth c nL cells slots Q n σ pc' lv (.int x :: st)) : VV G p l e R s m args below meth c nL cells slots Q n σ pc lv st := by
  subst hp; exact fun H locs ls a b d => lv_sipush C.1 C.2.1 hd hx (k H locs ls a b d)
theorem v_lconst (C : ns_Cx G p s m args meth c cc own nL) (i : Fin 2) (x : Int64) (hx : Int64.ofNat (i : Nat) = x) (pc' : Nat) (hp : pc + 1 = pc') (hd : decode cc pc = .ok (.lconst i, 1)) (k : VV G p l e R s m args below meth c nL cells slots Q n σ pc' lv (.long x :: st)) : VV G p l e R s m args below meth c nL cells slots Q n σ pc lv st := by
  subst hp; exact fun H locs ls a b d => lv_lconst C.1 C.2.1 hd hx (k H locs ls a b d)
theorem v_ldc (C : ns_Cx G p s m args meth c cc own nL) (i : Nat) (x : Int32) (hw : Jvm.Cond.constant own i x ∈ ns_TB) (pc' : Nat) (hp : pc + 2 = pc') (hd : decode cc pc = .ok (.ldc i, 2)) (k : VV G p l e R s m args below meth c nL cells slots Q n σ pc' lv (.int x :: st)) : VV G p l e R s m args below meth c nL cells slots Q n σ pc lv st := by
  subst hp; exact fun H locs ls a b d => lv_ldc C.1 C.2.1 C.2.2.2.1 (C.2.2.2.2.1 _ hw) hd (k H locs ls a b d)
theorem v_ldc2 (C : ns_Cx G p s m args meth c cc own nL) (i : Nat) (x : Int64) (hw : Jvm.Cond.constantLong own i x ∈ ns_TB) (pc' : Nat) (hp : pc + 3 = pc') (hd : decode cc pc = .ok (.ldc2_w i, 3)) (k : VV G p l e R s m args below meth c nL cells slots Q n σ pc' lv (.long x :: st)) : VV G p l e R s m args below meth c nL cells slots Q n σ pc lv st := by
  subst hp; exact fun H locs ls a b d => lv_ldc2 C.1 C.2.1 C.2.2.2.1 (C.2.2.2.2.1 _ hw) hd (k H locs ls a b d)
theorem v_null (C : ns_Cx G p s m args meth c cc own nL) (pc' : Nat) (hp : pc + 1 = pc') (hd : decode cc pc = .ok (.aconst_null, 1)) (k : VV G p l e R s m args below meth c nL cells slots Q n σ pc' lv (.null :: st)) : VV G p l e R s m args below meth c nL cells slots Q n σ pc lv st := by
  subst hp; exact fun H locs ls a b d => lv_null C.1 C.2.1 hd (k H locs ls a b d)
theorem v_iload_n (C : ns_Cx G p s m args meth c cc own nL) (i : Fin 4) (q : Nat) {x : Int32} (hl : lv[q]? = some ((i : Nat), .int x)) (pc' : Nat) (hp : pc + 1 = pc') (hd : decode cc pc = .ok (.iload_n i, 1)) (k : VV G p l e R s m args below meth c nL cells slots Q n σ pc' lv (.int x :: st)) : VV G p l e R s m args below meth c nL cells slots Q n σ pc lv st := by
  subst hp; exact fun H locs ls a b d => lv_iload_n C.1 C.2.1 hd rfl (lv_at d q hl) (k H locs ls a b d)
theorem v_iload (C : ns_Cx G p s m args meth c cc own nL) (i : Nat) (q : Nat) {x : Int32} (hl : lv[q]? = some (i, .int x)) (pc' : Nat) (hp : pc + 2 = pc') (hd : decode cc pc = .ok (.iload i, 2)) (k : VV G p l e R s m args below meth c nL cells slots Q n σ pc' lv (.int x :: st)) : VV G p l e R s m args below meth c nL cells slots Q n σ pc lv st := by
  subst hp; exact fun H locs ls a b d => lv_iload C.1 C.2.1 hd (lv_at d q hl) (k H locs ls a b d)
theorem v_lload_n (C : ns_Cx G p s m args meth c cc own nL) (i : Fin 4) (q : Nat) {x : Int64} (hl : lv[q]? = some ((i : Nat), .long x)) (pc' : Nat) (hp : pc + 1 = pc') (hd : decode cc pc = .ok (.lload_n i, 1)) (k : VV G p l e R s m args below meth c nL cells slots Q n σ pc' lv (.long x :: st)) : VV G p l e R s m args below meth c nL cells slots Q n σ pc lv st := by
  subst hp; exact fun H locs ls a b d => lv_lload_n C.1 C.2.1 hd rfl (lv_at d q hl) (k H locs ls a b d)
theorem v_lload (C : ns_Cx G p s m args meth c cc own nL) (i : Nat) (q : Nat) {x : Int64} (hl : lv[q]? = some (i, .long x)) (pc' : Nat) (hp : pc + 2 = pc') (hd : decode cc pc = .ok (.lload i, 2)) (k : VV G p l e R s m args below meth c nL cells slots Q n σ pc' lv (.long x :: st)) : VV G p l e R s m args below meth c nL cells slots Q n σ pc lv st := by
  subst hp; exact fun H locs ls a b d => lv_lload C.1 C.2.1 hd (lv_at d q hl) (k H locs ls a b d)
theorem v_aload_n (C : ns_Cx G p s m args meth c cc own nL) (i : Fin 4) (q : Nat) {x : Nat} (hl : lv[q]? = some ((i : Nat), .ref x)) (pc' : Nat) (hp : pc + 1 = pc') (hd : decode cc pc = .ok (.aload_n i, 1)) (k : VV G p l e R s m args below meth c nL cells slots Q n σ pc' lv (.ref x :: st)) : VV G p l e R s m args below meth c nL cells slots Q n σ pc lv st := by
  subst hp; exact fun H locs ls a b d => lv_aload_n C.1 C.2.1 hd rfl (lv_at d q hl) (k H locs ls a b d)
theorem v_aload_nN (C : ns_Cx G p s m args meth c cc own nL) (i : Fin 4) (q : Nat) (hl : lv[q]? = some ((i : Nat), .null)) (pc' : Nat) (hp : pc + 1 = pc') (hd : decode cc pc = .ok (.aload_n i, 1)) (k : VV G p l e R s m args below meth c nL cells slots Q n σ pc' lv (.null :: st)) : VV G p l e R s m args below meth c nL cells slots Q n σ pc lv st := by
  subst hp; exact fun H locs ls a b d => lv_aload_nN C.1 C.2.1 hd rfl (lv_at d q hl) (k H locs ls a b d)
theorem v_aload (C : ns_Cx G p s m args meth c cc own nL) (i : Nat) (q : Nat) {x : Nat} (hl : lv[q]? = some (i, .ref x)) (pc' : Nat) (hp : pc + 2 = pc') (hd : decode cc pc = .ok (.aload i, 2)) (k : VV G p l e R s m args below meth c nL cells slots Q n σ pc' lv (.ref x :: st)) : VV G p l e R s m args below meth c nL cells slots Q n σ pc lv st := by
  subst hp; exact fun H locs ls a b d => lv_aload C.1 C.2.1 hd (lv_at d q hl) (k H locs ls a b d)
theorem v_aloadN (C : ns_Cx G p s m args meth c cc own nL) (i : Nat) (q : Nat) (hl : lv[q]? = some (i, .null)) (pc' : Nat) (hp : pc + 2 = pc') (hd : decode cc pc = .ok (.aload i, 2)) (k : VV G p l e R s m args below meth c nL cells slots Q n σ pc' lv (.null :: st)) : VV G p l e R s m args below meth c nL cells slots Q n σ pc lv st := by
  subst hp; exact fun H locs ls a b d => lv_aloadN C.1 C.2.1 hd (lv_at d q hl) (k H locs ls a b d)
theorem v_istore_n (C : ns_Cx G p s m args meth c cc own nL) (i : Fin 4) {x : Int32} (lv' : List (Nat × Value)) (hn : (i : Nat) < nL) (hl : ((i : Nat), Value.int x) :: lv.filter (fun q => !(q.1 == (i : Nat)) && !(q.1 + 1 == (i : Nat) && q.2.category == 2)) = lv') (pc' : Nat) (hp : pc + 1 = pc') (hd : decode cc pc = .ok (.istore_n i, 1)) (k : VV G p l e R s m args below meth c nL cells slots Q n σ pc' lv' st) : VV G p l e R s m args below meth c nL cells slots Q n σ pc lv (.int x :: st) := by
  subst hp; exact fun H locs ls a b d => lv_istore_n C.1 C.2.1 hd rfl d hn hl (fun ls' d' => k H locs ls' a b d')
theorem v_istore (C : ns_Cx G p s m args meth c cc own nL) (i : Nat) {x : Int32} (lv' : List (Nat × Value)) (hn : i < nL) (hl : (i, Value.int x) :: lv.filter (fun q => !(q.1 == i) && !(q.1 + 1 == i && q.2.category == 2)) = lv') (pc' : Nat) (hp : pc + 2 = pc') (hd : decode cc pc = .ok (.istore i, 2)) (k : VV G p l e R s m args below meth c nL cells slots Q n σ pc' lv' st) : VV G p l e R s m args below meth c nL cells slots Q n σ pc lv (.int x :: st) := by
  subst hp; exact fun H locs ls a b d => lv_istore C.1 C.2.1 hd d hn hl (fun ls' d' => k H locs ls' a b d')
theorem v_lstore_n (C : ns_Cx G p s m args meth c cc own nL) (i : Fin 4) {x : Int64} (lv' : List (Nat × Value)) (hn : (i : Nat) + 1 < nL) (hl : ((i : Nat), Value.long x) :: lv.filter (fun q => !(q.1 == (i : Nat)) && (!(q.1 == (i : Nat) + 1) && !(q.1 + 1 == (i : Nat) && q.2.category == 2))) = lv') (pc' : Nat) (hp : pc + 1 = pc') (hd : decode cc pc = .ok (.lstore_n i, 1)) (k : VV G p l e R s m args below meth c nL cells slots Q n σ pc' lv' st) : VV G p l e R s m args below meth c nL cells slots Q n σ pc lv (.long x :: st) := by
  subst hp; exact fun H locs ls a b d => lv_lstore_n C.1 C.2.1 hd rfl d hn hl (fun ls' d' => k H locs ls' a b d')
theorem v_lstore (C : ns_Cx G p s m args meth c cc own nL) (i : Nat) {x : Int64} (lv' : List (Nat × Value)) (hn : i + 1 < nL) (hl : (i, Value.long x) :: lv.filter (fun q => !(q.1 == i) && (!(q.1 == i + 1) && !(q.1 + 1 == i && q.2.category == 2))) = lv') (pc' : Nat) (hp : pc + 2 = pc') (hd : decode cc pc = .ok (.lstore i, 2)) (k : VV G p l e R s m args below meth c nL cells slots Q n σ pc' lv' st) : VV G p l e R s m args below meth c nL cells slots Q n σ pc lv (.long x :: st) := by
  subst hp; exact fun H locs ls a b d => lv_lstore C.1 C.2.1 hd d hn hl (fun ls' d' => k H locs ls' a b d')
theorem v_astore_n (C : ns_Cx G p s m args meth c cc own nL) (i : Fin 4) {x : Nat} (lv' : List (Nat × Value)) (hn : (i : Nat) < nL) (hl : ((i : Nat), Value.ref x) :: lv.filter (fun q => !(q.1 == (i : Nat)) && !(q.1 + 1 == (i : Nat) && q.2.category == 2)) = lv') (pc' : Nat) (hp : pc + 1 = pc') (hd : decode cc pc = .ok (.astore_n i, 1)) (k : VV G p l e R s m args below meth c nL cells slots Q n σ pc' lv' st) : VV G p l e R s m args below meth c nL cells slots Q n σ pc lv (.ref x :: st) := by
  subst hp; exact fun H locs ls a b d => lv_astore_n C.1 C.2.1 hd rfl d hn hl (fun ls' d' => k H locs ls' a b d')
theorem v_astore_nN (C : ns_Cx G p s m args meth c cc own nL) (i : Fin 4) (lv' : List (Nat × Value)) (hn : (i : Nat) < nL) (hl : ((i : Nat), Value.null) :: lv.filter (fun q => !(q.1 == (i : Nat)) && !(q.1 + 1 == (i : Nat) && q.2.category == 2)) = lv') (pc' : Nat) (hp : pc + 1 = pc') (hd : decode cc pc = .ok (.astore_n i, 1)) (k : VV G p l e R s m args below meth c nL cells slots Q n σ pc' lv' st) : VV G p l e R s m args below meth c nL cells slots Q n σ pc lv (.null :: st) := by
  subst hp; exact fun H locs ls a b d => lv_astore_nN C.1 C.2.1 hd rfl d hn hl (fun ls' d' => k H locs ls' a b d')
theorem v_astore (C : ns_Cx G p s m args meth c cc own nL) (i : Nat) {x : Nat} (lv' : List (Nat × Value)) (hn : i < nL) (hl : (i, Value.ref x) :: lv.filter (fun q => !(q.1 == i) && !(q.1 + 1 == i && q.2.category == 2)) = lv') (pc' : Nat) (hp : pc + 2 = pc') (hd : decode cc pc = .ok (.astore i, 2)) (k : VV G p l e R s m args below meth c nL cells slots Q n σ pc' lv' st) : VV G p l e R s m args below meth c nL cells slots Q n σ pc lv (.ref x :: st) := by
  subst hp; exact fun H locs ls a b d => lv_astore C.1 C.2.1 hd d hn hl (fun ls' d' => k H locs ls' a b d')
theorem v_astoreN (C : ns_Cx G p s m args meth c cc own nL) (i : Nat) (lv' : List (Nat × Value)) (hn : i < nL) (hl : (i, Value.null) :: lv.filter (fun q => !(q.1 == i) && !(q.1 + 1 == i && q.2.category == 2)) = lv') (pc' : Nat) (hp : pc + 2 = pc') (hd : decode cc pc = .ok (.astore i, 2)) (k : VV G p l e R s m args below meth c nL cells slots Q n σ pc' lv' st) : VV G p l e R s m args below meth c nL cells slots Q n σ pc lv (.null :: st) := by
  subst hp; exact fun H locs ls a b d => lv_astoreN C.1 C.2.1 hd d hn hl (fun ls' d' => k H locs ls' a b d')
theorem v_iinc (C : ns_Cx G p s m args meth c cc own nL) (i : Nat) (dx : Int) (q : Nat) {x : Int32} (y : Int32) (hk : lv[q]? = some (i, .int x)) (hv : y = x + Int32.ofInt dx) (lv' : List (Nat × Value)) (hn : i < nL) (hl : (i, Value.int y) :: lv.filter (fun q => !(q.1 == i) && !(q.1 + 1 == i && q.2.category == 2)) = lv') (pc' : Nat) (hp : pc + 3 = pc') (hd : decode cc pc = .ok (.iinc i dx, 3)) (k : VV G p l e R s m args below meth c nL cells slots Q n σ pc' lv' st) : VV G p l e R s m args below meth c nL cells slots Q n σ pc lv st := by
  subst hp; exact fun H locs ls a b d => lv_iinc C.1 C.2.1 hd d hk hv.symm hn hl (fun ls' d' => k H locs ls' a b d')
theorem v_iadd (C : ns_Cx G p s m args meth c cc own nL) {x : Int32} {y : Int32} (pc' : Nat) (hp : pc + 1 = pc') (hd : decode cc pc = .ok (.iadd, 1)) (k : VV G p l e R s m args below meth c nL cells slots Q n σ pc' lv (.int (x + y) :: st)) : VV G p l e R s m args below meth c nL cells slots Q n σ pc lv (.int y :: .int x :: st) := by
  subst hp; exact fun H locs ls a b d => lv_iadd C.1 C.2.1 hd (k H locs ls a b d)
theorem v_isub (C : ns_Cx G p s m args meth c cc own nL) {x : Int32} {y : Int32} (pc' : Nat) (hp : pc + 1 = pc') (hd : decode cc pc = .ok (.isub, 1)) (k : VV G p l e R s m args below meth c nL cells slots Q n σ pc' lv (.int (x - y) :: st)) : VV G p l e R s m args below meth c nL cells slots Q n σ pc lv (.int y :: .int x :: st) := by
  subst hp; exact fun H locs ls a b d => lv_isub C.1 C.2.1 hd (k H locs ls a b d)
theorem v_imul (C : ns_Cx G p s m args meth c cc own nL) {x : Int32} {y : Int32} (pc' : Nat) (hp : pc + 1 = pc') (hd : decode cc pc = .ok (.imul, 1)) (k : VV G p l e R s m args below meth c nL cells slots Q n σ pc' lv (.int (x * y) :: st)) : VV G p l e R s m args below meth c nL cells slots Q n σ pc lv (.int y :: .int x :: st) := by
  subst hp; exact fun H locs ls a b d => lv_imul C.1 C.2.1 hd (k H locs ls a b d)
theorem v_iand (C : ns_Cx G p s m args meth c cc own nL) {x : Int32} {y : Int32} (pc' : Nat) (hp : pc + 1 = pc') (hd : decode cc pc = .ok (.iand, 1)) (k : VV G p l e R s m args below meth c nL cells slots Q n σ pc' lv (.int (x &&& y) :: st)) : VV G p l e R s m args below meth c nL cells slots Q n σ pc lv (.int y :: .int x :: st) := by
  subst hp; exact fun H locs ls a b d => lv_iand C.1 C.2.1 hd (k H locs ls a b d)
theorem v_ior (C : ns_Cx G p s m args meth c cc own nL) {x : Int32} {y : Int32} (pc' : Nat) (hp : pc + 1 = pc') (hd : decode cc pc = .ok (.ior, 1)) (k : VV G p l e R s m args below meth c nL cells slots Q n σ pc' lv (.int (x ||| y) :: st)) : VV G p l e R s m args below meth c nL cells slots Q n σ pc lv (.int y :: .int x :: st) := by
  subst hp; exact fun H locs ls a b d => lv_ior C.1 C.2.1 hd (k H locs ls a b d)
theorem v_ixor (C : ns_Cx G p s m args meth c cc own nL) {x : Int32} {y : Int32} (pc' : Nat) (hp : pc + 1 = pc') (hd : decode cc pc = .ok (.ixor, 1)) (k : VV G p l e R s m args below meth c nL cells slots Q n σ pc' lv (.int (x ^^^ y) :: st)) : VV G p l e R s m args below meth c nL cells slots Q n σ pc lv (.int y :: .int x :: st) := by
  subst hp; exact fun H locs ls a b d => lv_ixor C.1 C.2.1 hd (k H locs ls a b d)
theorem v_ladd (C : ns_Cx G p s m args meth c cc own nL) {x : Int64} {y : Int64} (pc' : Nat) (hp : pc + 1 = pc') (hd : decode cc pc = .ok (.ladd, 1)) (k : VV G p l e R s m args below meth c nL cells slots Q n σ pc' lv (.long (x + y) :: st)) : VV G p l e R s m args below meth c nL cells slots Q n σ pc lv (.long y :: .long x :: st) := by
  subst hp; exact fun H locs ls a b d => lv_ladd C.1 C.2.1 hd (k H locs ls a b d)
theorem v_lsub (C : ns_Cx G p s m args meth c cc own nL) {x : Int64} {y : Int64} (pc' : Nat) (hp : pc + 1 = pc') (hd : decode cc pc = .ok (.lsub, 1)) (k : VV G p l e R s m args below meth c nL cells slots Q n σ pc' lv (.long (x - y) :: st)) : VV G p l e R s m args below meth c nL cells slots Q n σ pc lv (.long y :: .long x :: st) := by
  subst hp; exact fun H locs ls a b d => lv_lsub C.1 C.2.1 hd (k H locs ls a b d)
theorem v_lmul (C : ns_Cx G p s m args meth c cc own nL) {x : Int64} {y : Int64} (pc' : Nat) (hp : pc + 1 = pc') (hd : decode cc pc = .ok (.lmul, 1)) (k : VV G p l e R s m args below meth c nL cells slots Q n σ pc' lv (.long (x * y) :: st)) : VV G p l e R s m args below meth c nL cells slots Q n σ pc lv (.long y :: .long x :: st) := by
  subst hp; exact fun H locs ls a b d => lv_lmul C.1 C.2.1 hd (k H locs ls a b d)
theorem v_land (C : ns_Cx G p s m args meth c cc own nL) {x : Int64} {y : Int64} (pc' : Nat) (hp : pc + 1 = pc') (hd : decode cc pc = .ok (.land, 1)) (k : VV G p l e R s m args below meth c nL cells slots Q n σ pc' lv (.long (x &&& y) :: st)) : VV G p l e R s m args below meth c nL cells slots Q n σ pc lv (.long y :: .long x :: st) := by
  subst hp; exact fun H locs ls a b d => lv_land C.1 C.2.1 hd (k H locs ls a b d)
theorem v_lor (C : ns_Cx G p s m args meth c cc own nL) {x : Int64} {y : Int64} (pc' : Nat) (hp : pc + 1 = pc') (hd : decode cc pc = .ok (.lor, 1)) (k : VV G p l e R s m args below meth c nL cells slots Q n σ pc' lv (.long (x ||| y) :: st)) : VV G p l e R s m args below meth c nL cells slots Q n σ pc lv (.long y :: .long x :: st) := by
  subst hp; exact fun H locs ls a b d => lv_lor C.1 C.2.1 hd (k H locs ls a b d)
theorem v_lxor (C : ns_Cx G p s m args meth c cc own nL) {x : Int64} {y : Int64} (pc' : Nat) (hp : pc + 1 = pc') (hd : decode cc pc = .ok (.lxor, 1)) (k : VV G p l e R s m args below meth c nL cells slots Q n σ pc' lv (.long (x ^^^ y) :: st)) : VV G p l e R s m args below meth c nL cells slots Q n σ pc lv (.long y :: .long x :: st) := by
  subst hp; exact fun H locs ls a b d => lv_lxor C.1 C.2.1 hd (k H locs ls a b d)
theorem v_idiv (C : ns_Cx G p s m args meth c cc own nL) {x : Int32} {y : Int32} (hne : ¬ y = 0) (pc' : Nat) (hp : pc + 1 = pc') (hd : decode cc pc = .ok (.idiv, 1)) (k : VV G p l e R s m args below meth c nL cells slots Q n σ pc' lv (.int (x / y) :: st)) : VV G p l e R s m args below meth c nL cells slots Q n σ pc lv (.int y :: .int x :: st) := by
  subst hp; exact fun H locs ls a b d => lv_idiv C.1 C.2.1 hd hne (k H locs ls a b d)
theorem v_irem (C : ns_Cx G p s m args meth c cc own nL) {x : Int32} {y : Int32} (hne : ¬ y = 0) (pc' : Nat) (hp : pc + 1 = pc') (hd : decode cc pc = .ok (.irem, 1)) (k : VV G p l e R s m args below meth c nL cells slots Q n σ pc' lv (.int (x - x / y * y) :: st)) : VV G p l e R s m args below meth c nL cells slots Q n σ pc lv (.int y :: .int x :: st) := by
  subst hp; exact fun H locs ls a b d => lv_irem C.1 C.2.1 hd hne (k H locs ls a b d)
theorem v_ldiv (C : ns_Cx G p s m args meth c cc own nL) {x : Int64} {y : Int64} (hne : ¬ y = 0) (pc' : Nat) (hp : pc + 1 = pc') (hd : decode cc pc = .ok (.ldiv, 1)) (k : VV G p l e R s m args below meth c nL cells slots Q n σ pc' lv (.long (x / y) :: st)) : VV G p l e R s m args below meth c nL cells slots Q n σ pc lv (.long y :: .long x :: st) := by
  subst hp; exact fun H locs ls a b d => lv_ldiv C.1 C.2.1 hd hne (k H locs ls a b d)
theorem v_ishl (C : ns_Cx G p s m args meth c cc own nL) {x : Int32} {y : Int32} (pc' : Nat) (hp : pc + 1 = pc') (hd : decode cc pc = .ok (.ishl, 1)) (k : VV G p l e R s m args below meth c nL cells slots Q n σ pc' lv (.int (x <<< (y &&& 31)) :: st)) : VV G p l e R s m args below meth c nL cells slots Q n σ pc lv (.int y :: .int x :: st) := by
  subst hp; exact fun H locs ls a b d => lv_ishl C.1 C.2.1 hd (k H locs ls a b d)
theorem v_ishr (C : ns_Cx G p s m args meth c cc own nL) {x : Int32} {y : Int32} (pc' : Nat) (hp : pc + 1 = pc') (hd : decode cc pc = .ok (.ishr, 1)) (k : VV G p l e R s m args below meth c nL cells slots Q n σ pc' lv (.int (x >>> (y &&& 31)) :: st)) : VV G p l e R s m args below meth c nL cells slots Q n σ pc lv (.int y :: .int x :: st) := by
  subst hp; exact fun H locs ls a b d => lv_ishr C.1 C.2.1 hd (k H locs ls a b d)
theorem v_iushr (C : ns_Cx G p s m args meth c cc own nL) {x : Int32} {y : Int32} (pc' : Nat) (hp : pc + 1 = pc') (hd : decode cc pc = .ok (.iushr, 1)) (k : VV G p l e R s m args below meth c nL cells slots Q n σ pc' lv (.int ((x.toUInt32 >>> (y.toUInt32 &&& Int32.toUInt32 31)).toInt32) :: st)) : VV G p l e R s m args below meth c nL cells slots Q n σ pc lv (.int y :: .int x :: st) := by
  subst hp; exact fun H locs ls a b d => lv_iushr C.1 C.2.1 hd rfl (k H locs ls a b d)
theorem v_lushr (C : ns_Cx G p s m args meth c cc own nL) {x : Int64} {y : Int32} (pc' : Nat) (hp : pc + 1 = pc') (hd : decode cc pc = .ok (.lushr, 1)) (k : VV G p l e R s m args below meth c nL cells slots Q n σ pc' lv (.long ((x.toUInt64 >>> (y.toInt64.toUInt64 &&& Int64.toUInt64 63)).toInt64) :: st)) : VV G p l e R s m args below meth c nL cells slots Q n σ pc lv (.int y :: .long x :: st) := by
  subst hp; exact fun H locs ls a b d => lv_lushr C.1 C.2.1 hd rfl (k H locs ls a b d)
theorem v_lshl (C : ns_Cx G p s m args meth c cc own nL) {x : Int64} {y : Int32} (pc' : Nat) (hp : pc + 1 = pc') (hd : decode cc pc = .ok (.lshl, 1)) (k : VV G p l e R s m args below meth c nL cells slots Q n σ pc' lv (.long (x <<< (y.toInt64 &&& 63)) :: st)) : VV G p l e R s m args below meth c nL cells slots Q n σ pc lv (.int y :: .long x :: st) := by
  subst hp; exact fun H locs ls a b d => lv_lshl C.1 C.2.1 hd rfl (k H locs ls a b d)
theorem v_lshr (C : ns_Cx G p s m args meth c cc own nL) {x : Int64} {y : Int32} (pc' : Nat) (hp : pc + 1 = pc') (hd : decode cc pc = .ok (.lshr, 1)) (k : VV G p l e R s m args below meth c nL cells slots Q n σ pc' lv (.long (x >>> (y.toInt64 &&& 63)) :: st)) : VV G p l e R s m args below meth c nL cells slots Q n σ pc lv (.int y :: .long x :: st) := by
  subst hp; exact fun H locs ls a b d => lv_lshr C.1 C.2.1 hd rfl (k H locs ls a b d)
theorem v_ineg (C : ns_Cx G p s m args meth c cc own nL) {x : Int32} (pc' : Nat) (hp : pc + 1 = pc') (hd : decode cc pc = .ok (.ineg, 1)) (k : VV G p l e R s m args below meth c nL cells slots Q n σ pc' lv (.int (-x) :: st)) : VV G p l e R s m args below meth c nL cells slots Q n σ pc lv (.int x :: st) := by
  subst hp; exact fun H locs ls a b d => lv_ineg C.1 C.2.1 hd (k H locs ls a b d)
theorem v_i2l (C : ns_Cx G p s m args meth c cc own nL) {x : Int32} (pc' : Nat) (hp : pc + 1 = pc') (hd : decode cc pc = .ok (.i2l, 1)) (k : VV G p l e R s m args below meth c nL cells slots Q n σ pc' lv (.long (x.toInt64) :: st)) : VV G p l e R s m args below meth c nL cells slots Q n σ pc lv (.int x :: st) := by
  subst hp; exact fun H locs ls a b d => lv_i2l C.1 C.2.1 hd rfl (k H locs ls a b d)
theorem v_l2i (C : ns_Cx G p s m args meth c cc own nL) {x : Int64} (pc' : Nat) (hp : pc + 1 = pc') (hd : decode cc pc = .ok (.l2i, 1)) (k : VV G p l e R s m args below meth c nL cells slots Q n σ pc' lv (.int (x.toInt32) :: st)) : VV G p l e R s m args below meth c nL cells slots Q n σ pc lv (.long x :: st) := by
  subst hp; exact fun H locs ls a b d => lv_l2i C.1 C.2.1 hd rfl (k H locs ls a b d)
theorem v_i2b (C : ns_Cx G p s m args meth c cc own nL) {x : Int32} (pc' : Nat) (hp : pc + 1 = pc') (hd : decode cc pc = .ok (.i2b, 1)) (k : VV G p l e R s m args below meth c nL cells slots Q n σ pc' lv (.int (x.toInt8.toInt32) :: st)) : VV G p l e R s m args below meth c nL cells slots Q n σ pc lv (.int x :: st) := by
  subst hp; exact fun H locs ls a b d => lv_i2b C.1 C.2.1 hd rfl (k H locs ls a b d)
theorem v_i2s (C : ns_Cx G p s m args meth c cc own nL) {x : Int32} (pc' : Nat) (hp : pc + 1 = pc') (hd : decode cc pc = .ok (.i2s, 1)) (k : VV G p l e R s m args below meth c nL cells slots Q n σ pc' lv (.int (x.toInt16.toInt32) :: st)) : VV G p l e R s m args below meth c nL cells slots Q n σ pc lv (.int x :: st) := by
  subst hp; exact fun H locs ls a b d => lv_i2s C.1 C.2.1 hd rfl (k H locs ls a b d)
theorem v_lneg (C : ns_Cx G p s m args meth c cc own nL) {x : Int64} (pc' : Nat) (hp : pc + 1 = pc') (hd : decode cc pc = .ok (.lneg, 1)) (k : VV G p l e R s m args below meth c nL cells slots Q n σ pc' lv (.long (-x) :: st)) : VV G p l e R s m args below meth c nL cells slots Q n σ pc lv (.long x :: st) := by
  subst hp; exact fun H locs ls a b d => lv_lneg C.1 C.2.1 hd (k H locs ls a b d)
theorem v_lcmp (C : ns_Cx G p s m args meth c cc own nL) {x y : Int64} (pc' : Nat) (hp : pc + 1 = pc') (hd : decode cc pc = .ok (.lcmp, 1)) (k : VV G p l e R s m args below meth c nL cells slots Q n σ pc' lv (.int (lg_cmp x y) :: st)) : VV G p l e R s m args below meth c nL cells slots Q n σ pc lv (.long y :: .long x :: st) := by
  subst hp; exact fun H locs ls a b d => W.lcmp C.1 C.2.1 hd (k H locs ls a b d)
theorem v_dup (C : ns_Cx G p s m args meth c cc own nL) {va : Value} (hva : va.category = 1) (pc' : Nat) (hp : pc + 1 = pc') (hd : decode cc pc = .ok (.dup, 1)) (k : VV G p l e R s m args below meth c nL cells slots Q n σ pc' lv (va :: va :: st)) : VV G p l e R s m args below meth c nL cells slots Q n σ pc lv (va :: st) := by
  subst hp; exact fun H locs ls a b d => lv_dup C.1 C.2.1 hd hva (k H locs ls a b d)
theorem v_pop (C : ns_Cx G p s m args meth c cc own nL) {va : Value} (hva : va.category = 1) (pc' : Nat) (hp : pc + 1 = pc') (hd : decode cc pc = .ok (.pop, 1)) (k : VV G p l e R s m args below meth c nL cells slots Q n σ pc' lv (st)) : VV G p l e R s m args below meth c nL cells slots Q n σ pc lv (va :: st) := by
  subst hp; exact fun H locs ls a b d => lv_pop C.1 C.2.1 hd hva (k H locs ls a b d)
theorem v_dup_x1 (C : ns_Cx G p s m args meth c cc own nL) {va vb : Value} (hva : va.category = 1) (hvb : vb.category = 1) (pc' : Nat) (hp : pc + 1 = pc') (hd : decode cc pc = .ok (.dup_x1, 1)) (k : VV G p l e R s m args below meth c nL cells slots Q n σ pc' lv (va :: vb :: va :: st)) : VV G p l e R s m args below meth c nL cells slots Q n σ pc lv (va :: vb :: st) := by
  subst hp; exact fun H locs ls a b d => lv_dup_x1 C.1 C.2.1 hd hva hvb (k H locs ls a b d)
theorem v_dup_x2 (C : ns_Cx G p s m args meth c cc own nL) {va vb vc : Value} (hva : va.category = 1) (hvb : vb.category = 1) (hvc : vc.category = 1) (pc' : Nat) (hp : pc + 1 = pc') (hd : decode cc pc = .ok (.dup_x2, 1)) (k : VV G p l e R s m args below meth c nL cells slots Q n σ pc' lv (va :: vb :: vc :: va :: st)) : VV G p l e R s m args below meth c nL cells slots Q n σ pc lv (va :: vb :: vc :: st) := by
  subst hp; exact fun H locs ls a b d => lv_dup_x2 C.1 C.2.1 hd hva hvb hvc (k H locs ls a b d)
theorem v_dup2_11 (C : ns_Cx G p s m args meth c cc own nL) {va vb : Value} (hva : va.category = 1) (hvb : vb.category = 1) (pc' : Nat) (hp : pc + 1 = pc') (hd : decode cc pc = .ok (.dup2, 1)) (k : VV G p l e R s m args below meth c nL cells slots Q n σ pc' lv (va :: vb :: va :: vb :: st)) : VV G p l e R s m args below meth c nL cells slots Q n σ pc lv (va :: vb :: st) := by
  subst hp; exact fun H locs ls a b d => lv_dup2_11 C.1 C.2.1 hd hva hvb (k H locs ls a b d)
theorem v_dup2_2 (C : ns_Cx G p s m args meth c cc own nL) {va : Value} (hva : va.category = 2) (pc' : Nat) (hp : pc + 1 = pc') (hd : decode cc pc = .ok (.dup2, 1)) (k : VV G p l e R s m args below meth c nL cells slots Q n σ pc' lv (va :: va :: st)) : VV G p l e R s m args below meth c nL cells slots Q n σ pc lv (va :: st) := by
  subst hp; exact fun H locs ls a b d => lv_dup2_2 C.1 C.2.1 hd hva (k H locs ls a b d)
theorem v_pop2_2 (C : ns_Cx G p s m args meth c cc own nL) {va : Value} (hva : va.category = 2) (pc' : Nat) (hp : pc + 1 = pc') (hd : decode cc pc = .ok (.pop2, 1)) (k : VV G p l e R s m args below meth c nL cells slots Q n σ pc' lv (st)) : VV G p l e R s m args below meth c nL cells slots Q n σ pc lv (va :: st) := by
  subst hp; exact fun H locs ls a b d => lv_pop2_2 C.1 C.2.1 hd hva (k H locs ls a b d)
theorem v_if_eq (C : ns_Cx G p s m args meth c cc own nL) {x : Int32} (tgt : Nat) (pc' : Nat) (hp : pc + 3 = pc') (hd : decode cc pc = .ok (.ifCond .eq ((tgt : Int) - (pc : Int)), 3)) (kt : x = 0 → VV G p l e R s m args below meth c nL cells slots Q n σ tgt lv st) (kf : ¬ x = 0 → VV G p l e R s m args below meth c nL cells slots Q n σ pc' lv st) : VV G p l e R s m args below meth c nL cells slots Q n σ pc lv (.int x :: st) := by
  subst hp; exact fun H locs ls a b d => lv_if_eq C.1 C.2.1 hd (by omega) (fun h => kt h H locs ls a b d) (fun h => kf h H locs ls a b d)
theorem v_icmp_eq (C : ns_Cx G p s m args meth c cc own nL) {x y : Int32} (tgt : Nat) (pc' : Nat) (hp : pc + 3 = pc') (hd : decode cc pc = .ok (.if_icmp .eq ((tgt : Int) - (pc : Int)), 3)) (kt : x = y → VV G p l e R s m args below meth c nL cells slots Q n σ tgt lv st) (kf : ¬ x = y → VV G p l e R s m args below meth c nL cells slots Q n σ pc' lv st) : VV G p l e R s m args below meth c nL cells slots Q n σ pc lv (.int y :: .int x :: st) := by
  subst hp; exact fun H locs ls a b d => lv_icmp_eq C.1 C.2.1 hd (by omega) (fun h => kt h H locs ls a b d) (fun h => kf h H locs ls a b d)
theorem v_if_ne (C : ns_Cx G p s m args meth c cc own nL) {x : Int32} (tgt : Nat) (pc' : Nat) (hp : pc + 3 = pc') (hd : decode cc pc = .ok (.ifCond .ne ((tgt : Int) - (pc : Int)), 3)) (kt : ¬ x = 0 → VV G p l e R s m args below meth c nL cells slots Q n σ tgt lv st) (kf : x = 0 → VV G p l e R s m args below meth c nL cells slots Q n σ pc' lv st) : VV G p l e R s m args below meth c nL cells slots Q n σ pc lv (.int x :: st) := by
  subst hp; exact fun H locs ls a b d => lv_if_ne C.1 C.2.1 hd (by omega) (fun h => kt h H locs ls a b d) (fun h => kf h H locs ls a b d)
theorem v_icmp_ne (C : ns_Cx G p s m args meth c cc own nL) {x y : Int32} (tgt : Nat) (pc' : Nat) (hp : pc + 3 = pc') (hd : decode cc pc = .ok (.if_icmp .ne ((tgt : Int) - (pc : Int)), 3)) (kt : ¬ x = y → VV G p l e R s m args below meth c nL cells slots Q n σ tgt lv st) (kf : x = y → VV G p l e R s m args below meth c nL cells slots Q n σ pc' lv st) : VV G p l e R s m args below meth c nL cells slots Q n σ pc lv (.int y :: .int x :: st) := by
  subst hp; exact fun H locs ls a b d => lv_icmp_ne C.1 C.2.1 hd (by omega) (fun h => kt h H locs ls a b d) (fun h => kf h H locs ls a b d)
theorem v_if_lt (C : ns_Cx G p s m args meth c cc own nL) {x : Int32} (tgt : Nat) (pc' : Nat) (hp : pc + 3 = pc') (hd : decode cc pc = .ok (.ifCond .lt ((tgt : Int) - (pc : Int)), 3)) (kt : x < 0 → VV G p l e R s m args below meth c nL cells slots Q n σ tgt lv st) (kf : ¬ x < 0 → VV G p l e R s m args below meth c nL cells slots Q n σ pc' lv st) : VV G p l e R s m args below meth c nL cells slots Q n σ pc lv (.int x :: st) := by
  subst hp; exact fun H locs ls a b d => lv_if_lt C.1 C.2.1 hd (by omega) (fun h => kt h H locs ls a b d) (fun h => kf h H locs ls a b d)
theorem v_icmp_lt (C : ns_Cx G p s m args meth c cc own nL) {x y : Int32} (tgt : Nat) (pc' : Nat) (hp : pc + 3 = pc') (hd : decode cc pc = .ok (.if_icmp .lt ((tgt : Int) - (pc : Int)), 3)) (kt : x < y → VV G p l e R s m args below meth c nL cells slots Q n σ tgt lv st) (kf : ¬ x < y → VV G p l e R s m args below meth c nL cells slots Q n σ pc' lv st) : VV G p l e R s m args below meth c nL cells slots Q n σ pc lv (.int y :: .int x :: st) := by
  subst hp; exact fun H locs ls a b d => lv_icmp_lt C.1 C.2.1 hd (by omega) (fun h => kt h H locs ls a b d) (fun h => kf h H locs ls a b d)
theorem v_if_ge (C : ns_Cx G p s m args meth c cc own nL) {x : Int32} (tgt : Nat) (pc' : Nat) (hp : pc + 3 = pc') (hd : decode cc pc = .ok (.ifCond .ge ((tgt : Int) - (pc : Int)), 3)) (kt : 0 ≤ x → VV G p l e R s m args below meth c nL cells slots Q n σ tgt lv st) (kf : ¬ 0 ≤ x → VV G p l e R s m args below meth c nL cells slots Q n σ pc' lv st) : VV G p l e R s m args below meth c nL cells slots Q n σ pc lv (.int x :: st) := by
  subst hp; exact fun H locs ls a b d => lv_if_ge C.1 C.2.1 hd (by omega) (fun h => kt h H locs ls a b d) (fun h => kf h H locs ls a b d)
theorem v_icmp_ge (C : ns_Cx G p s m args meth c cc own nL) {x y : Int32} (tgt : Nat) (pc' : Nat) (hp : pc + 3 = pc') (hd : decode cc pc = .ok (.if_icmp .ge ((tgt : Int) - (pc : Int)), 3)) (kt : y ≤ x → VV G p l e R s m args below meth c nL cells slots Q n σ tgt lv st) (kf : ¬ y ≤ x → VV G p l e R s m args below meth c nL cells slots Q n σ pc' lv st) : VV G p l e R s m args below meth c nL cells slots Q n σ pc lv (.int y :: .int x :: st) := by
  subst hp; exact fun H locs ls a b d => lv_icmp_ge C.1 C.2.1 hd (by omega) (fun h => kt h H locs ls a b d) (fun h => kf h H locs ls a b d)
theorem v_if_gt (C : ns_Cx G p s m args meth c cc own nL) {x : Int32} (tgt : Nat) (pc' : Nat) (hp : pc + 3 = pc') (hd : decode cc pc = .ok (.ifCond .gt ((tgt : Int) - (pc : Int)), 3)) (kt : 0 < x → VV G p l e R s m args below meth c nL cells slots Q n σ tgt lv st) (kf : ¬ 0 < x → VV G p l e R s m args below meth c nL cells slots Q n σ pc' lv st) : VV G p l e R s m args below meth c nL cells slots Q n σ pc lv (.int x :: st) := by
  subst hp; exact fun H locs ls a b d => lv_if_gt C.1 C.2.1 hd (by omega) (fun h => kt h H locs ls a b d) (fun h => kf h H locs ls a b d)
theorem v_icmp_gt (C : ns_Cx G p s m args meth c cc own nL) {x y : Int32} (tgt : Nat) (pc' : Nat) (hp : pc + 3 = pc') (hd : decode cc pc = .ok (.if_icmp .gt ((tgt : Int) - (pc : Int)), 3)) (kt : y < x → VV G p l e R s m args below meth c nL cells slots Q n σ tgt lv st) (kf : ¬ y < x → VV G p l e R s m args below meth c nL cells slots Q n σ pc' lv st) : VV G p l e R s m args below meth c nL cells slots Q n σ pc lv (.int y :: .int x :: st) := by
  subst hp; exact fun H locs ls a b d => lv_icmp_gt C.1 C.2.1 hd (by omega) (fun h => kt h H locs ls a b d) (fun h => kf h H locs ls a b d)
theorem v_if_le (C : ns_Cx G p s m args meth c cc own nL) {x : Int32} (tgt : Nat) (pc' : Nat) (hp : pc + 3 = pc') (hd : decode cc pc = .ok (.ifCond .le ((tgt : Int) - (pc : Int)), 3)) (kt : x ≤ 0 → VV G p l e R s m args below meth c nL cells slots Q n σ tgt lv st) (kf : ¬ x ≤ 0 → VV G p l e R s m args below meth c nL cells slots Q n σ pc' lv st) : VV G p l e R s m args below meth c nL cells slots Q n σ pc lv (.int x :: st) := by
  subst hp; exact fun H locs ls a b d => lv_if_le C.1 C.2.1 hd (by omega) (fun h => kt h H locs ls a b d) (fun h => kf h H locs ls a b d)
theorem v_icmp_le (C : ns_Cx G p s m args meth c cc own nL) {x y : Int32} (tgt : Nat) (pc' : Nat) (hp : pc + 3 = pc') (hd : decode cc pc = .ok (.if_icmp .le ((tgt : Int) - (pc : Int)), 3)) (kt : x ≤ y → VV G p l e R s m args below meth c nL cells slots Q n σ tgt lv st) (kf : ¬ x ≤ y → VV G p l e R s m args below meth c nL cells slots Q n σ pc' lv st) : VV G p l e R s m args below meth c nL cells slots Q n σ pc lv (.int y :: .int x :: st) := by
  subst hp; exact fun H locs ls a b d => lv_icmp_le C.1 C.2.1 hd (by omega) (fun h => kt h H locs ls a b d) (fun h => kf h H locs ls a b d)
theorem v_goto (C : ns_Cx G p s m args meth c cc own nL) (tgt : Nat) (hd : decode cc pc = .ok (.goto ((tgt : Int) - (pc : Int)), 3)) (k : VV G p l e R s m args below meth c nL cells slots Q n σ tgt lv st) : VV G p l e R s m args below meth c nL cells slots Q n σ pc lv st :=
  fun H locs ls a b d => lv_goto C.1 C.2.1 hd (by omega) (k H locs ls a b d)
theorem v_ifnull (C : ns_Cx G p s m args meth c cc own nL) {x : Nat} (tgt : Nat) (pc' : Nat) (hp : pc + 3 = pc') (hd : decode cc pc = .ok (.ifnull ((tgt : Int) - (pc : Int)), 3)) (k : VV G p l e R s m args below meth c nL cells slots Q n σ pc' lv st) : VV G p l e R s m args below meth c nL cells slots Q n σ pc lv (.ref x :: st) := by
  subst hp; exact fun H locs ls a b d => lv_ifnull C.1 C.2.1 hd (k H locs ls a b d)
theorem v_ifnullN (C : ns_Cx G p s m args meth c cc own nL) (tgt : Nat) (hd : decode cc pc = .ok (.ifnull ((tgt : Int) - (pc : Int)), 3)) (k : VV G p l e R s m args below meth c nL cells slots Q n σ tgt lv st) : VV G p l e R s m args below meth c nL cells slots Q n σ pc lv (.null :: st) :=
  fun H locs ls a b d => lv_ifnullN C.1 C.2.1 hd (by omega) (k H locs ls a b d)
theorem v_ifnonnull (C : ns_Cx G p s m args meth c cc own nL) {x : Nat} (tgt : Nat) (hd : decode cc pc = .ok (.ifnonnull ((tgt : Int) - (pc : Int)), 3)) (k : VV G p l e R s m args below meth c nL cells slots Q n σ tgt lv st) : VV G p l e R s m args below meth c nL cells slots Q n σ pc lv (.ref x :: st) :=
  fun H locs ls a b d => lv_ifnonnull C.1 C.2.1 hd (by omega) (k H locs ls a b d)
theorem v_ifnonnullN (C : ns_Cx G p s m args meth c cc own nL) (tgt : Nat) (pc' : Nat) (hp : pc + 3 = pc') (hd : decode cc pc = .ok (.ifnonnull ((tgt : Int) - (pc : Int)), 3)) (k : VV G p l e R s m args below meth c nL cells slots Q n σ pc' lv st) : VV G p l e R s m args below meth c nL cells slots Q n σ pc lv (.null :: st) := by
  subst hp; exact fun H locs ls a b d => lv_ifnonnullN C.1 C.2.1 hd (k H locs ls a b d)
/-! fields -/
theorem ns_get0 {H : Heap} (hW : ns_Wd G n σ H) {a ci k t : Nat} (ha : a < n) (hk : ns_kd a = ci) (hci : ci < 10) (ht : (ns_ft ci)[k]? = some t) :
    (ns_wl G n σ)[a]? = some (G.1 + a, .inr (ci, ns_fl G.1 σ a ci)) ∧ (ns_fl G.1 σ a ci)[k]? = some (ns_fv G.1 σ a k t) :=
  ⟨by rw [ns_wl_at G σ ha, ns_cE_obj G σ hk hci], ns_fl_at G.1 σ a ci k t ht⟩
theorem v_get (C : ns_Cx G p s m args meth c cc own nL) {a : Nat} (ci : Nat) {Cn : String} {T : u_T} {N : Nat} (hc : ns_cl[ci]? = some (Cn, T, N)) (hin : ∀ w ∈ u_ws Cn T N, w ∈ ns_TB) (k t : Nat) (v : Value) (ha : a < n) (hkd : ns_kd a = ci) (hci : ci < 10) (hkN : k < N) (ht : (ns_ft ci)[k]? = some t) (hv : ns_fv G.1 σ a k t = v) (i : Nat) {ref : String} (hw : Cond.fieldLink own i ref (T k).2.1 (T k).2.2.1 ∈ ns_TB) (href : (T k).1 = ref) (pc' : Nat) (hp : pc + 3 = pc') (hd : decode cc pc = .ok (.getfield i, 3)) (kk : VV G p l e R s m args below meth c nL cells slots Q n σ pc' lv (v :: st)) : VV G p l e R s m args below meth c nL cells slots Q n σ pc lv (.ref (G.1 + a) :: st) := by
  subst hp; subst href; subst hv
  intro H locs ls hW hS hl
  obtain ⟨h1, h2⟩ := ns_get0 hW ha hkd hci ht
  exact va_get C.1 C.2.1 C.2.2.2.2.1 hin C.2.2.2.1 C.2.2.2.2.2.1.1 hW.2.1 a h1 hc k hkN (C.2.2.2.2.1 _ hw) (fun _ h => h) h2 hd (kk H locs ls hW hS hl)
theorem v_getN (C : ns_Cx G p s m args meth c cc own nL) {a : Nat} (ci : Nat) {Cn host : String} {T : u_T} {N : Nat} (hc : ns_cl[ci]? = some (Cn, T, N)) (hin : ∀ w ∈ u_ws Cn T N, w ∈ ns_TB) (k t : Nat) (v : Value) (ha : a < n) (hkd : ns_kd a = ci) (hci : ci < 10) (hkN : k < N) (ht : (ns_ft ci)[k]? = some t) (hv : ns_fv G.1 σ a k t = v) (i : Nat) {ref : String} (hw : Cond.fieldLinkNest own i ref (T k).2.1 (T k).2.2.1 host ∈ ns_NB) (href : (T k).1 = ref) (pc' : Nat) (hp : pc + 3 = pc') (hd : decode cc pc = .ok (.getfield i, 3)) (kk : VV G p l e R s m args below meth c nL cells slots Q n σ pc' lv (v :: st)) : VV G p l e R s m args below meth c nL cells slots Q n σ pc lv (.ref (G.1 + a) :: st) := by
  subst hp; subst href; subst hv
  intro H locs ls hW hS hl
  obtain ⟨h1, h2⟩ := ns_get0 hW ha hkd hci ht
  exact va_getN C.1 C.2.1 C.2.2.2.2.1 hin C.2.2.2.1 C.2.2.2.2.2.1.1 hW.2.1 a h1 hc k hkN (va_Nw.use rfl (C.2.2.2.2.2.1.2.1 _ hw)) (fun _ h => h) h2 hd (kk H locs ls hW hS hl)
/-- the cell behind a store into a field -/
theorem ns_put0 {H' : Heap} {cell : Cell} {σ' : ns_St} {a ci k : Nat} {Cn : String} {T : u_T} {N : Nat} {v : Value} {iS : Nat → Nat} (hc : ns_cl[ci]? = some (Cn, T, N)) (hkd : ns_kd a = ci) (hci : ci < 10) (hkN : k < N)
    (hcls : cell.cls = G.2.1.1 ci) (hvm : cell.vm = .none) (hiS : iS = G.2.1.2 ci) (hslots : ∀ j, j < N → cell.slots[iS j]? = some (vp_V (ns_fl G.1 σ a ci) j)) (hap : ∀ x y, x < N → y < N → x ≠ y → iS x ≠ iS y)
    (hlen : k < (ns_fl G.1 σ a ci).length) (e1 : H'[G.1 + a]? = some (cell.setSlot (iS k) v)) (hfl : ns_fl G.1 σ' a ci = (ns_fl G.1 σ a ci).set k v) : va_at G.2.1 ns_cl (G.1 + a, ns_cE G σ' a) H' := by
  subst hiS
  rw [ns_cE_obj G σ' hkd hci, hfl]
  exact ⟨_, hc, t_OB.to (V := updV (vp_V (ns_fl G.1 σ a ci)) k v) ⟨_, e1, hcls, hvm, t_set hslots hap hkN v⟩ (fun j _ => vp_updV_set hlen v j)⟩
theorem v_put (C : ns_Cx G p s m args meth c cc own nL) {a : Nat} {σ' : ns_St} (ci : Nat) {Cn : String} {T : u_T} {N : Nat} (hc : ns_cl[ci]? = some (Cn, T, N)) (hin : ∀ w ∈ u_ws Cn T N, w ∈ ns_TB) (ty0 : Nat → FieldType) (hty : ∀ k, k < N → parseFieldDescriptor (T k).2.2.1 = some (ty0 k)) (hnm : ∀ a, a < N → ∀ b, b < N → a ≠ b → (T a).2.1 ≠ (T b).2.1) (k t : Nat) {v : Value} (ha : a < n) (hkd : ns_kd a = ci) (hci : ci < 10) (hkN : k < N) (ht : (ns_ft ci)[k]? = some t) (hfin : (T k).2.2.2 = false) (hn : narrow (ty0 k) v = v) (hfit : fits (ty0 k) v = true) (hfl : ns_fl G.1 σ' a ci = (ns_fl G.1 σ a ci).set k v) (hne : ∀ b, b ≠ a → ns_cE G σ' b = ns_cE G σ b) (i : Nat) {ref : String} (hw : Cond.fieldLink own i ref (T k).2.1 (T k).2.2.1 ∈ ns_TB) (href : (T k).1 = ref) (pc' : Nat) (hp : pc + 3 = pc') (hd : decode cc pc = .ok (.putfield i, 3)) (kk : VV G p l e R s m args below meth c nL cells slots Q n σ' pc' lv st) : VV G p l e R s m args below meth c nL cells slots Q n σ pc lv (v :: .ref (G.1 + a) :: st) := by
  subst hp; subst href
  intro H locs ls hW hS hl
  obtain ⟨h1, h2⟩ := ns_get0 hW ha hkd hci ht
  have hK := C.2.2.2.2.2.1.1
  have hts := C.2.2.2.2.1
  have hap := va_apart (own := own) hts hin ty0 hty hnm hK hc
  obtain ⟨r, q0, cell, q1, q2, q3, q4⟩ := hW.2.1 a _ h1
  have hr : r = (Cn, T, N) := Option.some.inj (q0.symm.trans hc)
  subst hr
  obtain ⟨hSl, hfc, kC, hkC, hkind⟩ := hK.1 ci _ hc
  obtain ⟨cf, kf, fi, f, hi, hsl⟩ := hSl k hkN
  have hlay := hts _ (hin _ (u_in_lay hkN))
  unfold u_lay at hlay
  rw [if_neg (by rw [hfin]; decide)] at hlay
  have hst := (u_facts hfc hkC (u_lays hts hin hkN) hi).1
  have h6 := u_store hfc hkC hkind hlay hi (hty k hkN) hn hfit
  refine W.putK C.1 C.2.1 (f := f) ⟨C.2.2.2.1, hts _ hw, ⟨_, _, _, hi⟩, hst⟩ (by rw [q2]; exact h6) q1 q3 (by rw [hsl]; exact k2_hasslot (q4 k hkN)) rfl rfl hd fun H' e1 e2 e3 => ?_
  rw [hsl] at e1 ⊢
  exact kk H' _ ls (ns_set hW e2 e3 (ns_put0 hc hkd hci hkN q2 q3 rfl q4 hap (List.getElem?_eq_some_iff.mp h2).1 e1 hfl) hne) (hS.put e2 e3 (Nat.le_add_right _ _)) hl
theorem v_putN (C : ns_Cx G p s m args meth c cc own nL) {a : Nat} {σ' : ns_St} (ci : Nat) {Cn host : String} {T : u_T} {N : Nat} (hc : ns_cl[ci]? = some (Cn, T, N)) (hin : ∀ w ∈ u_ws Cn T N, w ∈ ns_TB) (ty0 : Nat → FieldType) (hty : ∀ k, k < N → parseFieldDescriptor (T k).2.2.1 = some (ty0 k)) (hnm : ∀ a, a < N → ∀ b, b < N → a ≠ b → (T a).2.1 ≠ (T b).2.1) (k t : Nat) {v : Value} (ha : a < n) (hkd : ns_kd a = ci) (hci : ci < 10) (hkN : k < N) (ht : (ns_ft ci)[k]? = some t) (hfin : (T k).2.2.2 = false) (hn : narrow (ty0 k) v = v) (hfit : fits (ty0 k) v = true) (hfl : ns_fl G.1 σ' a ci = (ns_fl G.1 σ a ci).set k v) (hne : ∀ b, b ≠ a → ns_cE G σ' b = ns_cE G σ b) (i : Nat) {ref : String} (hw : Cond.fieldLinkNest own i ref (T k).2.1 (T k).2.2.1 host ∈ ns_NB) (href : (T k).1 = ref) (pc' : Nat) (hp : pc + 3 = pc') (hd : decode cc pc = .ok (.putfield i, 3)) (kk : VV G p l e R s m args below meth c nL cells slots Q n σ' pc' lv st) : VV G p l e R s m args below meth c nL cells slots Q n σ pc lv (v :: .ref (G.1 + a) :: st) := by
  subst hp; subst href
  intro H locs ls hW hS hl
  obtain ⟨h1, h2⟩ := ns_get0 hW ha hkd hci ht
  have hK := C.2.2.2.2.2.1.1
  have hts := C.2.2.2.2.1
  have hap := va_apart (own := own) hts hin ty0 hty hnm hK hc
  obtain ⟨r, q0, cell, q1, q2, q3, q4⟩ := hW.2.1 a _ h1
  have hr : r = (Cn, T, N) := Option.some.inj (q0.symm.trans hc)
  subst hr
  obtain ⟨hSl, hfc, kC, hkC, hkind⟩ := hK.1 ci _ hc
  obtain ⟨cf, kf, fi, f, hi, hsl⟩ := hSl k hkN
  have hlay := hts _ (hin _ (u_in_lay hkN))
  unfold u_lay at hlay
  rw [if_neg (by rw [hfin]; decide)] at hlay
  have hst := (u_facts hfc hkC (u_lays hts hin hkN) hi).1
  have h6 := u_store hfc hkC hkind hlay hi (hty k hkN) hn hfit
  refine va_WputK C.1 C.2.1 (f := f) C.2.2.2.1 (va_Nw.use rfl (C.2.2.2.2.2.1.2.1 _ hw)) hi hst (by rw [q2]; exact h6) q1 q3 (by rw [hsl]; exact k2_hasslot (q4 k hkN)) rfl rfl hd fun H' e1 e2 e3 => ?_
  rw [hsl] at e1 ⊢
  exact kk H' _ ls (ns_set hW e2 e3 (ns_put0 hc hkd hci hkN q2 q3 rfl q4 hap (List.getElem?_eq_some_iff.mp h2).1 e1 hfl) hne) (hS.put e2 e3 (Nat.le_add_right _ _)) hl
theorem v_putF (C : ns_Cx G p s m args meth c cc own nL) (hname : meth.name = "<init>") {a : Nat} {σ' : ns_St} (ci : Nat) {Cn : String} {T : u_T} {N : Nat} (hc : ns_cl[ci]? = some (Cn, T, N)) (hin : ∀ w ∈ u_ws Cn T N, w ∈ ns_TB) (ty0 : Nat → FieldType) (hty : ∀ k, k < N → parseFieldDescriptor (T k).2.2.1 = some (ty0 k)) (hnm : ∀ a, a < N → ∀ b, b < N → a ≠ b → (T a).2.1 ≠ (T b).2.1) (k t : Nat) {v : Value} (ha : a < n) (hkd : ns_kd a = ci) (hci : ci < 10) (hkN : k < N) (ht : (ns_ft ci)[k]? = some t) (hfin : (T k).2.2.2 = true) (hn : narrow (ty0 k) v = v) (hfit : fits (ty0 k) v = true) (hfl : ns_fl G.1 σ' a ci = (ns_fl G.1 σ a ci).set k v) (hne : ∀ b, b ≠ a → ns_cE G σ' b = ns_cE G σ b) (i : Nat) {ref : String} (hw : Cond.fieldLink own i ref (T k).2.1 (T k).2.2.1 ∈ ns_TB) (href : (T k).1 = ref) (hdecl : (T k).1 = own) (pc' : Nat) (hp : pc + 3 = pc') (hd : decode cc pc = .ok (.putfield i, 3)) (kk : VV G p l e R s m args below meth c nL cells slots Q n σ' pc' lv st) : VV G p l e R s m args below meth c nL cells slots Q n σ pc lv (v :: .ref (G.1 + a) :: st) := by
  subst hp; subst href
  intro H locs ls hW hS hl
  obtain ⟨h1, h2⟩ := ns_get0 hW ha hkd hci ht
  have hK := C.2.2.2.2.2.1.1
  have hts := C.2.2.2.2.1
  have hap := va_apart (own := own) hts hin ty0 hty hnm hK hc
  obtain ⟨r, q0, cell, q1, q2, q3, q4⟩ := hW.2.1 a _ h1
  have hr : r = (Cn, T, N) := Option.some.inj (q0.symm.trans hc)
  subst hr
  obtain ⟨hSl, hfc, kC, hkC, hkind⟩ := hK.1 ci _ hc
  obtain ⟨cf, kf, fi, f, hi, hsl⟩ := hSl k hkN
  have hlay := hts _ (hin _ (u_in_lay hkN))
  unfold u_lay at hlay
  rw [if_pos hfin] at hlay
  have hst := (u_facts hfc hkC (u_lays hts hin hkN) hi).1
  have hown := C.2.2.2.1
  have hcf : m.cls = cf := by
    obtain ⟨_, _, c', _, _, _, -, -, hf', -, -, -, hown2, -⟩ := Cond.laysFinal_spec hlay
    have e1 : c' = cf := by have := hi.symm.trans hf'; simp at this; exact this.1.symm
    rw [hdecl] at hown2
    rw [← e1]; exact Option.some.inj (hown.symm.trans hown2)
  have h6 := u_fits hfc hkC hkind (Or.inr hlay) hi (hty k hkN) hn hfit
  refine W.putFinK C.1 C.2.1 hown (hts _ hw) hi hst hcf hname (by rw [q2]; exact h6) q1 q3 (by rw [hsl]; exact k2_hasslot (q4 k hkN)) rfl rfl hd fun H' e1 e2 e3 => ?_
  rw [hsl] at e1 ⊢
  exact kk H' _ ls (ns_set hW e2 e3 (ns_put0 hc hkd hci hkN q2 q3 rfl q4 hap (List.getElem?_eq_some_iff.mp h2).1 e1 hfl) hne) (hS.put e2 e3 (Nat.le_add_right _ _)) hl
/-! arrays -/
theorem v_iald (C : ns_Cx G p s m args meth c cc own nL) {a : Nat} {i : Int32} (ha : a < n) (hkd : ns_kd a = 10) (hi : vp_in i (ns_ln a)) (pc' : Nat) (hp : pc + 1 = pc') (hd : decode cc pc = .ok (.iaload, 1)) (kk : VV G p l e R s m args below meth c nL cells slots Q n σ pc' lv (.int (σ.1 a (ns_ix i)) :: st)) : VV G p l e R s m args below meth c nL cells slots Q n σ pc lv (.int i :: .ref (G.1 + a) :: st) := by
  subst hp
  intro H locs ls hW hS hl
  exact va_iald C.1 C.2.1 C.2.2.2.2.2.1.1 hW.2.1 a 0 (by rw [ns_wl_at G σ ha, ns_cE_I G σ hkd]) rfl hi hd (kk H locs ls hW hS hl)
theorem v_lald (C : ns_Cx G p s m args meth c cc own nL) {a : Nat} {i : Int32} (ha : a < n) (hkd : ns_kd a = 11) (hi : vp_in i (ns_ln a)) (pc' : Nat) (hp : pc + 1 = pc') (hd : decode cc pc = .ok (.laload, 1)) (kk : VV G p l e R s m args below meth c nL cells slots Q n σ pc' lv (.long (σ.2.1 a (ns_ix i)) :: st)) : VV G p l e R s m args below meth c nL cells slots Q n σ pc lv (.int i :: .ref (G.1 + a) :: st) := by
  subst hp
  intro H locs ls hW hS hl
  exact va_lald C.1 C.2.1 C.2.2.2.2.2.1.1 hW.2.1 a 1 (by rw [ns_wl_at G σ ha, ns_cE_J G σ hkd]) rfl hi hd (kk H locs ls hW hS hl)
theorem v_aald (C : ns_Cx G p s m args meth c cc own nL) {a b : Nat} {i : Int32} (kd : Nat) (hk : kd = 12 ∨ kd = 13) (ha : a < n) (hkd : ns_kd a = kd) (hi : vp_in i (ns_ln a)) (hb : σ.2.2 a (ns_ix i) = some b) (pc' : Nat) (hp : pc + 1 = pc') (hd : decode cc pc = .ok (.aaload, 1)) (kk : VV G p l e R s m args below meth c nL cells slots Q n σ pc' lv (.ref (G.1 + b) :: st)) : VV G p l e R s m args below meth c nL cells slots Q n σ pc lv (.int i :: .ref (G.1 + a) :: st) := by
  subst hp
  intro H locs ls hW hS hl
  have key := kk H locs ls hW hS hl
  rcases hk with rfl | rfl
  · refine va_aldq C.1 C.2.1 C.2.2.2.2.2.1.1 hW.2.1 a 2 (by rw [ns_wl_at G σ ha, ns_cE_R G σ hkd (Or.inl rfl)]) rfl hi hd ?_
    show W p l e R s m args below meth c H locs cells slots Q (F0 m (pc + 1) ls (va_rf (ns_rf G.1 (σ.2.2 a (ns_ix i))) :: st))
    rw [hb]; exact key
  · refine va_aldq C.1 C.2.1 C.2.2.2.2.2.1.1 hW.2.1 a 3 (by rw [ns_wl_at G σ ha, ns_cE_R G σ hkd (Or.inr rfl)]) rfl hi hd ?_
    show W p l e R s m args below meth c H locs cells slots Q (F0 m (pc + 1) ls (va_rf (ns_rf G.1 (σ.2.2 a (ns_ix i))) :: st))
    rw [hb]; exact key
theorem v_alenI (C : ns_Cx G p s m args meth c cc own nL) {a : Nat} (x : Int32) (ha : a < n) (hkd : ns_kd a = 10) (hx : x = Int32.ofNat (ns_ln a)) (pc' : Nat) (hp : pc + 1 = pc') (hd : decode cc pc = .ok (.arraylength, 1)) (kk : VV G p l e R s m args below meth c nL cells slots Q n σ pc' lv (.int x :: st)) : VV G p l e R s m args below meth c nL cells slots Q n σ pc lv (.ref (G.1 + a) :: st) := by
  subst hp; subst hx
  intro H locs ls hW hS hl
  exact va_alen C.1 C.2.1 C.2.2.2.2.2.1.1 hW.2.1 a 0 (by rw [ns_wl_at G σ ha, ns_cE_I G σ hkd]) rfl rfl hd (kk H locs ls hW hS hl)
theorem v_iast (C : ns_Cx G p s m args meth c cc own nL) {a : Nat} {i x : Int32} {σ' : ns_St} (hσ : σ' = ns_pI σ a (ns_ix i) x) (ha : a < n) (hkd : ns_kd a = 10) (hi : vp_in i (ns_ln a)) (pc' : Nat) (hp : pc + 1 = pc') (hd : decode cc pc = .ok (.iastore, 1)) (kk : VV G p l e R s m args below meth c nL cells slots Q n σ' pc' lv st) : VV G p l e R s m args below meth c nL cells slots Q n σ pc lv (.int x :: .int i :: .ref (G.1 + a) :: st) := by
  subst hp; subst hσ
  intro H locs ls hW hS hl
  have h00 := hW.2.1 a (G.1 + a, .inl (G.2.2.1 10, ns_ln a, .inl (σ.1 a))) (by rw [ns_wl_at G σ ha, ns_cE_I G σ hkd])
  have h0 : H[G.1 + a]? = some (arrV (G.2.2.1 10) (ns_ln a) (fun j => .int (σ.1 a j))) := h00
  refine W.iast C.1 C.2.1 h0 ((C.2.2.2.2.2.1.1.2 0 _ rfl).1 (ns_ln a) (fun j => .int (σ.1 a j))) (fun q => by cases q) (by rw [arrV_size]; exact hi) rfl rfl hd fun H1 e1 z oq => ?_
  refine kk H1 _ ls (ns_set hW z oq ?_ ns_pI_ne) (hS.put z oq (Nat.le_add_right _ _)) hl
  rw [ns_cE_I G _ hkd]
  show H1[G.1 + a]? = some (vp_cell _ _)
  rw [vp_cell_i, e1, arrV_store]
  congr 2
  funext q
  by_cases hq : q = i.toNatClampNeg
  · subst hq; simp [updV, ns_pI, va_up]
  · simp [updV, ns_pI, va_up, hq]
theorem v_last (C : ns_Cx G p s m args meth c cc own nL) {a : Nat} {i : Int32} {x : Int64} {σ' : ns_St} (hσ : σ' = ns_pJ σ a (ns_ix i) x) (ha : a < n) (hkd : ns_kd a = 11) (hi : vp_in i (ns_ln a)) (pc' : Nat) (hp : pc + 1 = pc') (hd : decode cc pc = .ok (.lastore, 1)) (kk : VV G p l e R s m args below meth c nL cells slots Q n σ' pc' lv st) : VV G p l e R s m args below meth c nL cells slots Q n σ pc lv (.long x :: .int i :: .ref (G.1 + a) :: st) := by
  subst hp; subst hσ
  intro H locs ls hW hS hl
  have h00 := hW.2.1 a (G.1 + a, .inl (G.2.2.1 11, ns_ln a, .inr (.inl (σ.2.1 a)))) (by rw [ns_wl_at G σ ha, ns_cE_J G σ hkd])
  have h0 : H[G.1 + a]? = some (arrV (G.2.2.1 11) (ns_ln a) (fun j => .long (σ.2.1 a j))) := h00
  refine W.last C.1 C.2.1 h0 ((C.2.2.2.2.2.1.1.2 1 _ rfl).1 (ns_ln a) (fun j => .long (σ.2.1 a j))) (fun q => by cases q) (by rw [arrV_size]; exact hi) rfl rfl hd fun H1 e1 z oq => ?_
  refine kk H1 _ ls (ns_set hW z oq ?_ ns_pJ_ne) (hS.put z oq (Nat.le_add_right _ _)) hl
  rw [ns_cE_J G _ hkd]
  show H1[G.1 + a]? = some (vp_cell _ _)
  rw [vp_cell_l, e1, arrV_store]
  congr 2
  funext q
  by_cases hq : q = i.toNatClampNeg
  · subst hq; simp [updV, ns_pJ, va_up]
  · simp [updV, ns_pJ, va_up, hq]
/-! returns -/
theorem v_iret (C : ns_Cx G p s m args meth c cc own nL) (hr : meth.sig.returnType = some .int) {x : Int32} (hd : decode cc pc = .ok (.ireturn, 1)) : VV G p l e R s m args below meth c nL cells slots (MQ below (ns_Qc G (some (.int x)) n σ) args s cells slots (ns_A G)) n σ pc lv [.int x] :=
  fun H locs ls hW hS hl => W.iret C.1 C.2.1 hr (fun t ht hw => ⟨rfl, by rw [ht]; exact hW, hS.F ht⟩) hS.2.2 hd C.2.2.2.2.2.2
theorem v_zret (C : ns_Cx G p s m args meth c cc own nL) (hr : meth.sig.returnType = some .boolean) {x : Int32} (hn : narrow .boolean (.int x) = .int x) (hd : decode cc pc = .ok (.ireturn, 1)) : VV G p l e R s m args below meth c nL cells slots (MQ below (ns_Qc G (some (.int x)) n σ) args s cells slots (ns_A G)) n σ pc lv [.int x] :=
  fun H locs ls hW hS hl => W.zret C.1 C.2.1 hr hn (fun t ht hw => ⟨rfl, by rw [ht]; exact hW, hS.F ht⟩) hS.2.2 hd C.2.2.2.2.2.2
theorem v_lret (C : ns_Cx G p s m args meth c cc own nL) (hr : meth.sig.returnType = some .long) {x : Int64} (hd : decode cc pc = .ok (.lreturn, 1)) : VV G p l e R s m args below meth c nL cells slots (MQ below (ns_Qc G (some (.long x)) n σ) args s cells slots (ns_A G)) n σ pc lv [.long x] :=
  fun H locs ls hW hS hl => W.lret C.1 C.2.1 hr (fun t ht hw => ⟨rfl, by rw [ht]; exact hW, hS.F ht⟩) hS.2.2 hd C.2.2.2.2.2.2
theorem v_vret (C : ns_Cx G p s m args meth c cc own nL) (hr : meth.sig.returnType = none) (hd : decode cc pc = .ok (.return_, 1)) : VV G p l e R s m args below meth c nL cells slots (MQ below (ns_Qc G none n σ) args s cells slots (ns_A G)) n σ pc lv [] :=
  fun H locs ls hW hS hl => W.vret C.1 C.2.1 hr (fun t ht hw => ⟨rfl, by rw [ht]; exact hW, hS.F ht⟩) hS.2.2 hd C.2.2.2.2.2.2
theorem v_aret (C : ns_Cx G p s m args meth c cc own nL) {nm : String} (hr : meth.sig.returnType = some (.object nm)) {x : Option Nat} (hd : decode cc pc = .ok (.areturn, 1)) : VV G p l e R s m args below meth c nL cells slots (MQ below (ns_Qc G (some (va_rf (ns_rf G.1 x))) n σ) args s cells slots (ns_A G)) n σ pc lv [va_rf (ns_rf G.1 x)] :=
  fun H locs ls hW hS hl => W.aret C.1 C.2.1 hr (Or.inl ⟨_, rfl⟩) (by cases x with | none => exact Or.inl rfl | some b => exact Or.inr ⟨_, rfl⟩) (fun t ht hw => ⟨rfl, by rw [ht]; exact hW, hS.F ht⟩) hS.2.2 hd C.2.2.2.2.2.2
/-! calls -/
theorem ns_call {mc ms : Nat} {H : Heap} {locs : List Loc} {ls : Array Slot} {st0 rest : List Value} {o : Option Value} {n' : Nat} {σ' : ns_St} {a : Array Value} (hr : va_Run p l e R s m args below meth c H locs cells slots mc ms (F0 m pc ls st0) rest (ns_Qc G o n' σ' a) (ns_A G)) (hS : va_S (ns_A G) s.heap H locs)
    (kk : ∀ (H1 : Heap) (locs1 : List Loc), ns_Wd G n' σ' H1 → va_S (ns_A G) s.heap H1 locs1 → W p l e R s m args below meth c H1 locs1 (cells + mc) (slots + ms) Q (F0 m (pc + 3) ls (o.toList ++ rest))) : W p l e R s m args below meth c H locs cells slots Q (F0 m pc ls st0) := by
  intro T hT X
  obtain ⟨v, st₀, t, T', L, h0, X', hL, e1, e2, ⟨hv, hW, hz, hk⟩, st⟩ := hr T hT X
  cases hv
  rw [h0] at hz hk
  obtain ⟨t2, a1, b1⟩ := kk T'.heap (locs ++ L) (by rw [e1]; exact hW)
    ⟨Nat.le_trans hS.1 (by rw [e1]; exact hz), fun q h1 h2 => by rw [e1, hk q (Nat.lt_of_lt_of_le h1 hS.1) h2]; exact hS.2.1 q h1 h2, fun q hq => by
      rcases List.mem_append.mp hq with h | h
      · exact hS.2.2 q h
      · exact hL q h⟩ T' rfl X'
  exact ⟨t2, st t2 a1, b1⟩
theorem ns_good {y : MethodName} {bytes : ByteArray} {maxL : Nat} {ret : Option FieldType} (h : Cond.code y bytes maxL ret ∈ ns_TB) : GoodIn ns_TB (Cond.code y bytes maxL ret :: ns_TB) := by
  intro w hw
  have hm : w ∈ ns_TB := by
    rcases List.mem_cons.mp hw with rfl | h2
    · exact h
    · exact h2
  exact ⟨hm, good_of_word (List.mem_filter.mp hm).2⟩
theorem ns_blind (G : ns_G) (av : List Value) (n : Nat) (σ : ns_St) : FrameBlind (va_Pc av (fun U => ns_Wd G n σ U.heap ∧ ns_K G U)) :=
  fun a U g mk h => ⟨h.1, h.2.1, ns_K.same (s := U) (U := U.calling g mk a) rfl h.2.2⟩
theorem ns_sums (xs : List Value) (m : MethodId) (ls : Array Slot) (st0 : List Value) (h : (xs.map fun v => v.category).sum ≤ 8) : 2 * (F0 m pc ls st0).monitorRoom + (xs.map fun v => v.category).sum ≤ 8 := lv_room h
theorem v_callV (C : ns_Cx G p s m args meth c cc own nL) {a : Nat} (ci : Nat) {Cn : String} {T : u_T} {N : Nat} (hc : ns_cl[ci]? = some (Cn, T, N)) (ha : a < n) (hkd : ns_kd a = ci) (hci : ci < 10) {y : MethodName} {bytes : ByteArray} {maxL : Nat} {ret : Option FieldType} {fr lo mc ms : Nat} (As rest : List Value) {o : Option Value} {n' : Nat} {σ' : ns_St} (hM : ns_ok G l y bytes maxL ret fr lo mc ms (.ref (G.1 + a) :: As) n σ o n' σ') (i na : Nat) (hcode : Cond.code y bytes maxL ret ∈ ns_TB) (hlink : Cond.methodLink own i y ∈ ns_TB) (hinst : Cond.instanceMethod y ∈ ns_TB) (hsel : Cond.selects Cn y y ∈ ns_TB) (hini : Cond.initialized Cn ∈ ns_TB) (hd1 : y.cls = Cn ∧ y.cls ≠ "java/lang/invoke/MethodHandle" ∧ y.cls ≠ "java/lang/invoke/VarHandle" ∧ (parseMethodDescriptor y.desc).map (fun d => d.parameters.length) = some na) (hna : As.length = na) (hR : fr + 1 ≤ R.frames ∧ 8 + (maxL + 11) + lo ≤ R.locals) (hf : cells + mc ≤ R.cells ∧ slots + ms ≤ R.slots) (hsum : (rest.map fun v => v.category).sum ≤ 8) (hst : st = As.reverse ++ .ref (G.1 + a) :: rest) (pc' : Nat) (hp : pc + 3 = pc') (hd : decode cc pc = .ok (.invokevirtual i, 3)) (st' : List Value) (hst' : o.toList ++ rest = st') (kk : VV G p l e R s m args below meth c nL (cells + mc) (slots + ms) Q n' σ' pc' lv st') : VV G p l e R s m args below meth c nL cells slots Q n σ pc lv st := by
  subst hp; subst hst'
  intro H locs ls hW hS hl
  have hts := C.2.2.2.2.1
  refine ns_call (n' := n') (σ' := σ') (va_runV (As := As) (rest := rest) (C := Cn) (n := na) ⟨C.1, C.2.1, C.2.2.1, C.2.2.2.1, hts⟩ hM ⟨⟨rfl, rfl, hR.1, hR.2, pay_in hts (ns_good hcode), List.mem_cons_self, hts _ hcode, hd1.1.symm ▸ hts _ hini, ⟨hd1.2.1, hd1.2.2.1⟩, fun sig h => ?_, hts _ hlink⟩, hts _ hinst, hts _ hsel⟩ ⟨ns_blind G _ n σ, ?_, fun U hU hw => ⟨rfl, by rw [hU]; exact hW, ns_K.warm hw C.2.2.2.2.2.1⟩⟩ rfl hna hl.1 hst (lv_room hsum) hd hf) hS (fun H1 locs1 h1 h2 => kk H1 locs1 ls h1 h2 hl)
  · have h2 := hd1.2.2.2
    rw [h] at h2
    exact (Option.some.inj h2).symm
  · exact va_recv C.2.2.2.2.2.1.1 hW.2.1 hc (by rw [ns_wl_at G σ ha, ns_cE_obj G σ hkd hci])
theorem v_callVN (C : ns_Cx G p s m args meth c cc own nL) {a : Nat} (ci : Nat) {Cn host : String} {T : u_T} {N : Nat} (hc : ns_cl[ci]? = some (Cn, T, N)) (ha : a < n) (hkd : ns_kd a = ci) (hci : ci < 10) {y : MethodName} {bytes : ByteArray} {maxL : Nat} {ret : Option FieldType} {fr lo mc ms : Nat} (As rest : List Value) {o : Option Value} {n' : Nat} {σ' : ns_St} (hM : ns_ok G l y bytes maxL ret fr lo mc ms (.ref (G.1 + a) :: As) n σ o n' σ') (i na : Nat) (hcode : Cond.code y bytes maxL ret ∈ ns_TB) (hlink : Cond.methodLinkNest own i y host ∈ ns_NB) (hinst : Cond.instanceMethod y ∈ ns_TB) (hsel : Cond.selects Cn y y ∈ ns_TB) (hini : Cond.initialized Cn ∈ ns_TB) (hd1 : y.cls = Cn ∧ y.cls ≠ "java/lang/invoke/MethodHandle" ∧ y.cls ≠ "java/lang/invoke/VarHandle" ∧ (parseMethodDescriptor y.desc).map (fun d => d.parameters.length) = some na) (hna : As.length = na) (hR : fr + 1 ≤ R.frames ∧ 8 + (maxL + 11) + lo ≤ R.locals) (hf : cells + mc ≤ R.cells ∧ slots + ms ≤ R.slots) (hsum : (rest.map fun v => v.category).sum ≤ 8) (hst : st = As.reverse ++ .ref (G.1 + a) :: rest) (pc' : Nat) (hp : pc + 3 = pc') (hd : decode cc pc = .ok (.invokevirtual i, 3)) (st' : List Value) (hst' : o.toList ++ rest = st') (kk : VV G p l e R s m args below meth c nL (cells + mc) (slots + ms) Q n' σ' pc' lv st') : VV G p l e R s m args below meth c nL cells slots Q n σ pc lv st := by
  subst hp; subst hst'
  intro H locs ls hW hS hl
  have hts := C.2.2.2.2.1
  refine ns_call (n' := n') (σ' := σ') (va_runVN (As := As) (rest := rest) (C := Cn) (n := na) ⟨C.1, C.2.1, C.2.2.1, C.2.2.2.1, hts⟩ hM ⟨va_cnB na hts (ns_good hcode) rfl rfl rfl (C.2.2.2.2.2.1.2.1 _ hlink) (hd1.1.symm ▸ hts _ hini) hd1.2 hR, hts _ hinst, hts _ hsel⟩ ⟨ns_blind G _ n σ, ?_, fun U hU hw => ⟨rfl, by rw [hU]; exact hW, ns_K.warm hw C.2.2.2.2.2.1⟩⟩ rfl hna hl.1 hst (lv_room hsum) hd hf) hS (fun H1 locs1 h1 h2 => kk H1 locs1 ls h1 h2 hl)
  exact va_recv C.2.2.2.2.2.1.1 hW.2.1 hc (by rw [ns_wl_at G σ ha, ns_cE_obj G σ hkd hci])
theorem v_callS (C : ns_Cx G p s m args meth c cc own nL) {y : MethodName} {bytes : ByteArray} {maxL : Nat} {ret : Option FieldType} {fr lo mc ms : Nat} (As rest : List Value) {o : Option Value} {n' : Nat} {σ' : ns_St} (hM : ns_ok G l y bytes maxL ret fr lo mc ms As n σ o n' σ') (i na : Nat) (hcode : Cond.code y bytes maxL ret ∈ ns_TB) (hlink : Cond.methodLink own i y ∈ ns_TB) (hstat : Cond.static y ∈ ns_TB) (hini : Cond.initialized y.cls ∈ ns_TB) (hd1 : y.cls ≠ "java/lang/invoke/MethodHandle" ∧ y.cls ≠ "java/lang/invoke/VarHandle" ∧ (parseMethodDescriptor y.desc).map (fun d => d.parameters.length) = some na) (hna : As.length = na) (hR : fr + 1 ≤ R.frames ∧ 8 + (maxL + 11) + lo ≤ R.locals) (hf : cells + mc ≤ R.cells ∧ slots + ms ≤ R.slots) (hsum : (rest.map fun v => v.category).sum ≤ 8) (hst : st = As.reverse ++ rest) (pc' : Nat) (hp : pc + 3 = pc') (hd : decode cc pc = .ok (.invokestatic i, 3)) (st' : List Value) (hst' : o.toList ++ rest = st') (kk : VV G p l e R s m args below meth c nL (cells + mc) (slots + ms) Q n' σ' pc' lv st') : VV G p l e R s m args below meth c nL cells slots Q n σ pc lv st := by
  subst hp; subst hst'
  intro H locs ls hW hS hl
  have hts := C.2.2.2.2.1
  refine ns_call (n' := n') (σ' := σ') (va_runS (As := As) (rest := rest) (n := na) ⟨C.1, C.2.1, C.2.2.1, C.2.2.2.1, hts⟩ hM ⟨⟨rfl, rfl, hR.1, hR.2, pay_in hts (ns_good hcode), List.mem_cons_self, hts _ hcode, hts _ hini, ⟨hd1.1, hd1.2.1⟩, fun sig h => ?_, hts _ hlink⟩, hts _ hstat⟩ ⟨ns_blind G _ n σ, fun U hU hw => ⟨rfl, by rw [hU]; exact hW, ns_K.warm hw C.2.2.2.2.2.1⟩⟩ rfl hna hl.1 hst (lv_room hsum) hd hf) hS (fun H1 locs1 h1 h2 => kk H1 locs1 ls h1 h2 hl)
  have h2 := hd1.2.2
  rw [h] at h2
  exact (Option.some.inj h2).symm
theorem v_callSN (C : ns_Cx G p s m args meth c cc own nL) {y : MethodName} {host : String} {bytes : ByteArray} {maxL : Nat} {ret : Option FieldType} {fr lo mc ms : Nat} (As rest : List Value) {o : Option Value} {n' : Nat} {σ' : ns_St} (hM : ns_ok G l y bytes maxL ret fr lo mc ms As n σ o n' σ') (i na : Nat) (hcode : Cond.code y bytes maxL ret ∈ ns_TB) (hlink : Cond.methodLinkNest own i y host ∈ ns_NB) (hstat : Cond.static y ∈ ns_TB) (hini : Cond.initialized y.cls ∈ ns_TB) (hd1 : y.cls ≠ "java/lang/invoke/MethodHandle" ∧ y.cls ≠ "java/lang/invoke/VarHandle" ∧ (parseMethodDescriptor y.desc).map (fun d => d.parameters.length) = some na) (hna : As.length = na) (hR : fr + 1 ≤ R.frames ∧ 8 + (maxL + 11) + lo ≤ R.locals) (hf : cells + mc ≤ R.cells ∧ slots + ms ≤ R.slots) (hsum : (rest.map fun v => v.category).sum ≤ 8) (hst : st = As.reverse ++ rest) (pc' : Nat) (hp : pc + 3 = pc') (hd : decode cc pc = .ok (.invokestatic i, 3)) (st' : List Value) (hst' : o.toList ++ rest = st') (kk : VV G p l e R s m args below meth c nL (cells + mc) (slots + ms) Q n' σ' pc' lv st') : VV G p l e R s m args below meth c nL cells slots Q n σ pc lv st := by
  subst hp; subst hst'
  intro H locs ls hW hS hl
  have hts := C.2.2.2.2.1
  exact ns_call (n' := n') (σ' := σ') (va_runSN (As := As) (rest := rest) (n := na) ⟨C.1, C.2.1, C.2.2.1, C.2.2.2.1, hts⟩ hM ⟨va_cnB na hts (ns_good hcode) rfl rfl rfl (C.2.2.2.2.2.1.2.1 _ hlink) (hts _ hini) hd1 hR, hts _ hstat, trivial⟩ ⟨ns_blind G _ n σ, fun U hU hw => ⟨rfl, by rw [hU]; exact hW, ns_K.warm hw C.2.2.2.2.2.1⟩⟩ rfl hna hl.1 hst (lv_room hsum) hd hf) hS (fun H1 locs1 h1 h2 => kk H1 locs1 ls h1 h2 hl)
end ROWS
end
