section
-- ===== PART A: goes FIRST, ahead of the names: the tables' words, and 'selects' of the private methods out of them =====
/-- a private method of a class that the tables say can be made, by its rows of tables_1 -/
def lw_okq (q : MethodName × Nat) : Prop := (q.1.cls ≠ "java/lang/invoke/MethodHandle" ∧ q.1.cls ≠ "java/lang/invoke/VarHandle") ∧ Cond.instantiable q.1.cls q.2 ∈ tables_1 ∧ Cond.privateMethod q.1 ∈ tables_1 ∧ Cond.instanceMethod q.1 ∈ tables_1
theorem lw_p0 : lw_okq (⟨"WindowDesk$Text", "nextToken", "()V"⟩, 6) := ⟨⟨by decide +kernel, by decide +kernel⟩, List.mem_of_getElem? (i := 21) (by decide +kernel), List.mem_of_getElem? (i := 271) (by decide +kernel), List.mem_of_getElem? (i := 272) (by decide +kernel)⟩
theorem lw_p1 : lw_okq (⟨"WindowDesk$Text", "nextNumber", "()V"⟩, 6) := ⟨⟨by decide +kernel, by decide +kernel⟩, List.mem_of_getElem? (i := 21) (by decide +kernel), List.mem_of_getElem? (i := 278) (by decide +kernel), List.mem_of_getElem? (i := 279) (by decide +kernel)⟩
theorem lw_p2 : lw_okq (⟨"WindowDesk$Text", "readRoom", "(LWindowDesk$Tasks;)Z"⟩, 6) := ⟨⟨by decide +kernel, by decide +kernel⟩, List.mem_of_getElem? (i := 21) (by decide +kernel), List.mem_of_getElem? (i := 285) (by decide +kernel), List.mem_of_getElem? (i := 286) (by decide +kernel)⟩
theorem lw_p3 : lw_okq (⟨"WindowDesk$Text", "readNumber", "(II)Z"⟩, 6) := ⟨⟨by decide +kernel, by decide +kernel⟩, List.mem_of_getElem? (i := 21) (by decide +kernel), List.mem_of_getElem? (i := 289) (by decide +kernel), List.mem_of_getElem? (i := 290) (by decide +kernel)⟩
theorem lw_p4 : lw_okq (⟨"WindowDesk$Text", "readTask", "(LWindowDesk$Tasks;LWindowDesk$Windows;)Z"⟩, 6) := ⟨⟨by decide +kernel, by decide +kernel⟩, List.mem_of_getElem? (i := 21) (by decide +kernel), List.mem_of_getElem? (i := 293) (by decide +kernel), List.mem_of_getElem? (i := 294) (by decide +kernel)⟩
theorem lw_p5 : lw_okq (⟨"WindowDesk$Text", "readItemEnd", "()Z"⟩, 6) := ⟨⟨by decide +kernel, by decide +kernel⟩, List.mem_of_getElem? (i := 21) (by decide +kernel), List.mem_of_getElem? (i := 312) (by decide +kernel), List.mem_of_getElem? (i := 313) (by decide +kernel)⟩
theorem lw_p6 : lw_okq (⟨"WindowDesk$Search", "open", "(LWindowDesk$Windows;)V"⟩, 7) := ⟨⟨by decide +kernel, by decide +kernel⟩, List.mem_of_getElem? (i := 185) (by decide +kernel), List.mem_of_getElem? (i := 341) (by decide +kernel), List.mem_of_getElem? (i := 342) (by decide +kernel)⟩
theorem lw_p7 : lw_okq (⟨"WindowDesk$Search", "pin", "(II)V"⟩, 7) := ⟨⟨by decide +kernel, by decide +kernel⟩, List.mem_of_getElem? (i := 185) (by decide +kernel), List.mem_of_getElem? (i := 345) (by decide +kernel), List.mem_of_getElem? (i := 346) (by decide +kernel)⟩
theorem lw_p8 : lw_okq (⟨"WindowDesk$Search", "isAny", "()Z"⟩, 7) := ⟨⟨by decide +kernel, by decide +kernel⟩, List.mem_of_getElem? (i := 185) (by decide +kernel), List.mem_of_getElem? (i := 349) (by decide +kernel), List.mem_of_getElem? (i := 350) (by decide +kernel)⟩
theorem lw_p9 : lw_okq (⟨"WindowDesk$Search", "isAnyBeside", "(II)Z"⟩, 7) := ⟨⟨by decide +kernel, by decide +kernel⟩, List.mem_of_getElem? (i := 185) (by decide +kernel), List.mem_of_getElem? (i := 353) (by decide +kernel), List.mem_of_getElem? (i := 354) (by decide +kernel)⟩
theorem lw_p10 : lw_okq (⟨"WindowDesk$Search", "earliestFit", "(I)I"⟩, 7) := ⟨⟨by decide +kernel, by decide +kernel⟩, List.mem_of_getElem? (i := 185) (by decide +kernel), List.mem_of_getElem? (i := 357) (by decide +kernel), List.mem_of_getElem? (i := 358) (by decide +kernel)⟩
theorem lw_p11 : lw_okq (⟨"WindowDesk$Search", "hasRoom", "(II)Z"⟩, 7) := ⟨⟨by decide +kernel, by decide +kernel⟩, List.mem_of_getElem? (i := 185) (by decide +kernel), List.mem_of_getElem? (i := 365) (by decide +kernel), List.mem_of_getElem? (i := 366) (by decide +kernel)⟩
theorem lw_p12 : lw_okq (⟨"WindowDesk$Search", "fill", "(III)V"⟩, 7) := ⟨⟨by decide +kernel, by decide +kernel⟩, List.mem_of_getElem? (i := 185) (by decide +kernel), List.mem_of_getElem? (i := 369) (by decide +kernel), List.mem_of_getElem? (i := 370) (by decide +kernel)⟩
theorem lw_p13 : lw_okq (⟨"WindowDesk$Search", "pinFirst", "(I)V"⟩, 7) := ⟨⟨by decide +kernel, by decide +kernel⟩, List.mem_of_getElem? (i := 185) (by decide +kernel), List.mem_of_getElem? (i := 377) (by decide +kernel), List.mem_of_getElem? (i := 378) (by decide +kernel)⟩
theorem lw_p14 : lw_okq (⟨"WindowDesk$Sight", "sumUp", "(II)V"⟩, 9) := ⟨⟨by decide +kernel, by decide +kernel⟩, List.mem_of_getElem? (i := 124) (by decide +kernel), List.mem_of_getElem? (i := 405) (by decide +kernel), List.mem_of_getElem? (i := 406) (by decide +kernel)⟩
theorem lw_p15 : lw_okq (⟨"WindowDesk$Rules", "tightenSide", "(IILWindowDesk$Windows;)Z"⟩, 4) := ⟨⟨by decide +kernel, by decide +kernel⟩, List.mem_of_getElem? (i := 166) (by decide +kernel), List.mem_of_getElem? (i := 443) (by decide +kernel), List.mem_of_getElem? (i := 444) (by decide +kernel)⟩
def lw_privs_1 : List (MethodName × Nat) := [(⟨"WindowDesk$Text", "nextToken", "()V"⟩, 6), (⟨"WindowDesk$Text", "nextNumber", "()V"⟩, 6), (⟨"WindowDesk$Text", "readRoom", "(LWindowDesk$Tasks;)Z"⟩, 6), (⟨"WindowDesk$Text", "readNumber", "(II)Z"⟩, 6), (⟨"WindowDesk$Text", "readTask", "(LWindowDesk$Tasks;LWindowDesk$Windows;)Z"⟩, 6), (⟨"WindowDesk$Text", "readItemEnd", "()Z"⟩, 6), (⟨"WindowDesk$Search", "open", "(LWindowDesk$Windows;)V"⟩, 7), (⟨"WindowDesk$Search", "pin", "(II)V"⟩, 7), (⟨"WindowDesk$Search", "isAny", "()Z"⟩, 7), (⟨"WindowDesk$Search", "isAnyBeside", "(II)Z"⟩, 7), (⟨"WindowDesk$Search", "earliestFit", "(I)I"⟩, 7), (⟨"WindowDesk$Search", "hasRoom", "(II)Z"⟩, 7), (⟨"WindowDesk$Search", "fill", "(III)V"⟩, 7), (⟨"WindowDesk$Search", "pinFirst", "(I)V"⟩, 7), (⟨"WindowDesk$Sight", "sumUp", "(II)V"⟩, 9), (⟨"WindowDesk$Rules", "tightenSide", "(IILWindowDesk$Windows;)Z"⟩, 4)]
theorem lw_r1 : ∀ q ∈ lw_privs_1, lw_okq q := List.forall_mem_cons.mpr ⟨lw_p0, List.forall_mem_cons.mpr ⟨lw_p1, List.forall_mem_cons.mpr ⟨lw_p2, List.forall_mem_cons.mpr ⟨lw_p3, List.forall_mem_cons.mpr ⟨lw_p4, List.forall_mem_cons.mpr ⟨lw_p5, List.forall_mem_cons.mpr ⟨lw_p6, List.forall_mem_cons.mpr ⟨lw_p7, List.forall_mem_cons.mpr ⟨lw_p8, List.forall_mem_cons.mpr ⟨lw_p9, List.forall_mem_cons.mpr ⟨lw_p10, List.forall_mem_cons.mpr ⟨lw_p11, List.forall_mem_cons.mpr ⟨lw_p12, List.forall_mem_cons.mpr ⟨lw_p13, List.forall_mem_cons.mpr ⟨lw_p14, List.forall_mem_cons.mpr ⟨lw_p15, fun _ h => absurd h List.not_mem_nil⟩⟩⟩⟩⟩⟩⟩⟩⟩⟩⟩⟩⟩⟩⟩⟩
theorem lw_p16 : lw_okq (⟨"WindowDesk$Rules", "byMust", "(I)V"⟩, 4) := ⟨⟨by decide +kernel, by decide +kernel⟩, List.mem_of_getElem? (i := 166) (by decide +kernel), List.mem_of_getElem? (i := 448) (by decide +kernel), List.mem_of_getElem? (i := 449) (by decide +kernel)⟩
theorem lw_p17 : lw_okq (⟨"WindowDesk$Rules", "tell", "(III)V"⟩, 4) := ⟨⟨by decide +kernel, by decide +kernel⟩, List.mem_of_getElem? (i := 166) (by decide +kernel), List.mem_of_getElem? (i := 453) (by decide +kernel), List.mem_of_getElem? (i := 454) (by decide +kernel)⟩
theorem lw_p18 : lw_okq (⟨"WindowDesk$Rules", "byEdge", "(I)V"⟩, 4) := ⟨⟨by decide +kernel, by decide +kernel⟩, List.mem_of_getElem? (i := 166) (by decide +kernel), List.mem_of_getElem? (i := 457) (by decide +kernel), List.mem_of_getElem? (i := 458) (by decide +kernel)⟩
theorem lw_p19 : lw_okq (⟨"WindowDesk$Rules", "endsBehind", "(II)Z"⟩, 4) := ⟨⟨by decide +kernel, by decide +kernel⟩, List.mem_of_getElem? (i := 166) (by decide +kernel), List.mem_of_getElem? (i := 461) (by decide +kernel), List.mem_of_getElem? (i := 462) (by decide +kernel)⟩
theorem lw_p20 : lw_okq (⟨"WindowDesk$Rules", "tellRest", "(III)V"⟩, 4) := ⟨⟨by decide +kernel, by decide +kernel⟩, List.mem_of_getElem? (i := 166) (by decide +kernel), List.mem_of_getElem? (i := 466) (by decide +kernel), List.mem_of_getElem? (i := 467) (by decide +kernel)⟩
theorem lw_p21 : lw_okq (⟨"WindowDesk$Rules", "byFirst", "(I)V"⟩, 4) := ⟨⟨by decide +kernel, by decide +kernel⟩, List.mem_of_getElem? (i := 166) (by decide +kernel), List.mem_of_getElem? (i := 470) (by decide +kernel), List.mem_of_getElem? (i := 471) (by decide +kernel)⟩
theorem lw_p22 : lw_okq (⟨"WindowDesk$Rules", "canNotBeFirst", "(II)Z"⟩, 4) := ⟨⟨by decide +kernel, by decide +kernel⟩, List.mem_of_getElem? (i := 166) (by decide +kernel), List.mem_of_getElem? (i := 474) (by decide +kernel), List.mem_of_getElem? (i := 475) (by decide +kernel)⟩
theorem lw_p23 : lw_okq (⟨"WindowDesk$Rules", "bySpan", "(I)V"⟩, 4) := ⟨⟨by decide +kernel, by decide +kernel⟩, List.mem_of_getElem? (i := 166) (by decide +kernel), List.mem_of_getElem? (i := 478) (by decide +kernel), List.mem_of_getElem? (i := 479) (by decide +kernel)⟩
theorem lw_p24 : lw_okq (⟨"WindowDesk$Sight", "least", "(III)I"⟩, 9) := ⟨⟨by decide +kernel, by decide +kernel⟩, List.mem_of_getElem? (i := 124) (by decide +kernel), List.mem_of_getElem? (i := 486) (by decide +kernel), List.mem_of_getElem? (i := 487) (by decide +kernel)⟩
theorem lw_p25 : lw_okq (⟨"WindowDesk", "mayPut", "(III)Z"⟩, 11) := ⟨⟨by decide +kernel, by decide +kernel⟩, List.mem_of_getElem? (i := 13) (by decide +kernel), List.mem_of_getElem? (i := 508) (by decide +kernel), List.mem_of_getElem? (i := 509) (by decide +kernel)⟩
theorem lw_p26 : lw_okq (⟨"WindowDesk$Search", "growNeeds", "(I)V"⟩, 7) := ⟨⟨by decide +kernel, by decide +kernel⟩, List.mem_of_getElem? (i := 185) (by decide +kernel), List.mem_of_getElem? (i := 559) (by decide +kernel), List.mem_of_getElem? (i := 560) (by decide +kernel)⟩
theorem lw_p27 : lw_okq (⟨"WindowDesk$Search", "putInOrder", "()V"⟩, 7) := ⟨⟨by decide +kernel, by decide +kernel⟩, List.mem_of_getElem? (i := 185) (by decide +kernel), List.mem_of_getElem? (i := 585) (by decide +kernel), List.mem_of_getElem? (i := 586) (by decide +kernel)⟩
theorem lw_p28 : lw_okq (⟨"WindowDesk$Search", "countFrom", "(I)V"⟩, 7) := ⟨⟨by decide +kernel, by decide +kernel⟩, List.mem_of_getElem? (i := 185) (by decide +kernel), List.mem_of_getElem? (i := 590) (by decide +kernel), List.mem_of_getElem? (i := 591) (by decide +kernel)⟩
theorem lw_p29 : lw_okq (⟨"WindowDesk$Search", "countWith", "(III)V"⟩, 7) := ⟨⟨by decide +kernel, by decide +kernel⟩, List.mem_of_getElem? (i := 185) (by decide +kernel), List.mem_of_getElem? (i := 594) (by decide +kernel), List.mem_of_getElem? (i := 595) (by decide +kernel)⟩
theorem lw_p30 : lw_okq (⟨"WindowDeskModel", "blanks", "()V"⟩, 28) := ⟨⟨by decide +kernel, by decide +kernel⟩, List.mem_of_getElem? (i := 612) (by decide +kernel), List.mem_of_getElem? (i := 718) (by decide +kernel), List.mem_of_getElem? (i := 719) (by decide +kernel)⟩
theorem lw_p31 : lw_okq (⟨"WindowDeskModel", "readsItem", "(Z)Z"⟩, 28) := ⟨⟨by decide +kernel, by decide +kernel⟩, List.mem_of_getElem? (i := 612) (by decide +kernel), List.mem_of_getElem? (i := 722) (by decide +kernel), List.mem_of_getElem? (i := 723) (by decide +kernel)⟩
def lw_privs_2 : List (MethodName × Nat) := [(⟨"WindowDesk$Rules", "byMust", "(I)V"⟩, 4), (⟨"WindowDesk$Rules", "tell", "(III)V"⟩, 4), (⟨"WindowDesk$Rules", "byEdge", "(I)V"⟩, 4), (⟨"WindowDesk$Rules", "endsBehind", "(II)Z"⟩, 4), (⟨"WindowDesk$Rules", "tellRest", "(III)V"⟩, 4), (⟨"WindowDesk$Rules", "byFirst", "(I)V"⟩, 4), (⟨"WindowDesk$Rules", "canNotBeFirst", "(II)Z"⟩, 4), (⟨"WindowDesk$Rules", "bySpan", "(I)V"⟩, 4), (⟨"WindowDesk$Sight", "least", "(III)I"⟩, 9), (⟨"WindowDesk", "mayPut", "(III)Z"⟩, 11), (⟨"WindowDesk$Search", "growNeeds", "(I)V"⟩, 7), (⟨"WindowDesk$Search", "putInOrder", "()V"⟩, 7), (⟨"WindowDesk$Search", "countFrom", "(I)V"⟩, 7), (⟨"WindowDesk$Search", "countWith", "(III)V"⟩, 7), (⟨"WindowDeskModel", "blanks", "()V"⟩, 28), (⟨"WindowDeskModel", "readsItem", "(Z)Z"⟩, 28)]
theorem lw_r2 : ∀ q ∈ lw_privs_2, lw_okq q := List.forall_mem_cons.mpr ⟨lw_p16, List.forall_mem_cons.mpr ⟨lw_p17, List.forall_mem_cons.mpr ⟨lw_p18, List.forall_mem_cons.mpr ⟨lw_p19, List.forall_mem_cons.mpr ⟨lw_p20, List.forall_mem_cons.mpr ⟨lw_p21, List.forall_mem_cons.mpr ⟨lw_p22, List.forall_mem_cons.mpr ⟨lw_p23, List.forall_mem_cons.mpr ⟨lw_p24, List.forall_mem_cons.mpr ⟨lw_p25, List.forall_mem_cons.mpr ⟨lw_p26, List.forall_mem_cons.mpr ⟨lw_p27, List.forall_mem_cons.mpr ⟨lw_p28, List.forall_mem_cons.mpr ⟨lw_p29, List.forall_mem_cons.mpr ⟨lw_p30, List.forall_mem_cons.mpr ⟨lw_p31, fun _ h => absurd h List.not_mem_nil⟩⟩⟩⟩⟩⟩⟩⟩⟩⟩⟩⟩⟩⟩⟩⟩
theorem lw_p32 : lw_okq (⟨"WindowDeskModel", "next", "()V"⟩, 28) := ⟨⟨by decide +kernel, by decide +kernel⟩, List.mem_of_getElem? (i := 612) (by decide +kernel), List.mem_of_getElem? (i := 726) (by decide +kernel), List.mem_of_getElem? (i := 727) (by decide +kernel)⟩
theorem lw_p33 : lw_okq (⟨"WindowDeskModel", "isFigure", "()Z"⟩, 28) := ⟨⟨by decide +kernel, by decide +kernel⟩, List.mem_of_getElem? (i := 612) (by decide +kernel), List.mem_of_getElem? (i := 730) (by decide +kernel), List.mem_of_getElem? (i := 731) (by decide +kernel)⟩
theorem lw_p34 : lw_okq (⟨"WindowDeskModel", "readsTask", "()Z"⟩, 28) := ⟨⟨by decide +kernel, by decide +kernel⟩, List.mem_of_getElem? (i := 612) (by decide +kernel), List.mem_of_getElem? (i := 734) (by decide +kernel), List.mem_of_getElem? (i := 735) (by decide +kernel)⟩
theorem lw_p35 : lw_okq (⟨"WindowDeskModel", "fails", "()Z"⟩, 28) := ⟨⟨by decide +kernel, by decide +kernel⟩, List.mem_of_getElem? (i := 612) (by decide +kernel), List.mem_of_getElem? (i := 738) (by decide +kernel), List.mem_of_getElem? (i := 739) (by decide +kernel)⟩
theorem lw_p36 : lw_okq (⟨"WindowDeskModel", "number", "(II)Z"⟩, 28) := ⟨⟨by decide +kernel, by decide +kernel⟩, List.mem_of_getElem? (i := 612) (by decide +kernel), List.mem_of_getElem? (i := 742) (by decide +kernel), List.mem_of_getElem? (i := 743) (by decide +kernel)⟩
theorem lw_p37 : lw_okq (⟨"WindowDeskModel", "ends", "()Z"⟩, 28) := ⟨⟨by decide +kernel, by decide +kernel⟩, List.mem_of_getElem? (i := 612) (by decide +kernel), List.mem_of_getElem? (i := 746) (by decide +kernel), List.mem_of_getElem? (i := 747) (by decide +kernel)⟩
theorem lw_p38 : lw_okq (⟨"WindowDeskModel", "isBroken", "()Z"⟩, 28) := ⟨⟨by decide +kernel, by decide +kernel⟩, List.mem_of_getElem? (i := 612) (by decide +kernel), List.mem_of_getElem? (i := 754) (by decide +kernel), List.mem_of_getElem? (i := 755) (by decide +kernel)⟩
theorem lw_p39 : lw_okq (⟨"WindowDeskModel", "remember", "()V"⟩, 28) := ⟨⟨by decide +kernel, by decide +kernel⟩, List.mem_of_getElem? (i := 612) (by decide +kernel), List.mem_of_getElem? (i := 758) (by decide +kernel), List.mem_of_getElem? (i := 759) (by decide +kernel)⟩
theorem lw_p40 : lw_okq (⟨"WindowDeskModel", "rules", "(I)V"⟩, 28) := ⟨⟨by decide +kernel, by decide +kernel⟩, List.mem_of_getElem? (i := 612) (by decide +kernel), List.mem_of_getElem? (i := 762) (by decide +kernel), List.mem_of_getElem? (i := 763) (by decide +kernel)⟩
theorem lw_p41 : lw_okq (⟨"WindowDeskModel", "passes", "(II)V"⟩, 28) := ⟨⟨by decide +kernel, by decide +kernel⟩, List.mem_of_getElem? (i := 612) (by decide +kernel), List.mem_of_getElem? (i := 766) (by decide +kernel), List.mem_of_getElem? (i := 767) (by decide +kernel)⟩
theorem lw_p42 : lw_okq (⟨"WindowDeskModel", "musts", "(I)V"⟩, 28) := ⟨⟨by decide +kernel, by decide +kernel⟩, List.mem_of_getElem? (i := 612) (by decide +kernel), List.mem_of_getElem? (i := 770) (by decide +kernel), List.mem_of_getElem? (i := 771) (by decide +kernel)⟩
theorem lw_p43 : lw_okq (⟨"WindowDeskModel", "isShut", "(II)Z"⟩, 28) := ⟨⟨by decide +kernel, by decide +kernel⟩, List.mem_of_getElem? (i := 612) (by decide +kernel), List.mem_of_getElem? (i := 774) (by decide +kernel), List.mem_of_getElem? (i := 775) (by decide +kernel)⟩
theorem lw_p44 : lw_okq (⟨"WindowDeskModel", "start", "(I)I"⟩, 28) := ⟨⟨by decide +kernel, by decide +kernel⟩, List.mem_of_getElem? (i := 612) (by decide +kernel), List.mem_of_getElem? (i := 778) (by decide +kernel), List.mem_of_getElem? (i := 779) (by decide +kernel)⟩
theorem lw_p45 : lw_okq (⟨"WindowDeskModel", "done", "(I)I"⟩, 28) := ⟨⟨by decide +kernel, by decide +kernel⟩, List.mem_of_getElem? (i := 612) (by decide +kernel), List.mem_of_getElem? (i := 782) (by decide +kernel), List.mem_of_getElem? (i := 783) (by decide +kernel)⟩
theorem lw_p46 : lw_okq (⟨"WindowDeskModel", "tells", "(III)V"⟩, 28) := ⟨⟨by decide +kernel, by decide +kernel⟩, List.mem_of_getElem? (i := 612) (by decide +kernel), List.mem_of_getElem? (i := 786) (by decide +kernel), List.mem_of_getElem? (i := 787) (by decide +kernel)⟩
theorem lw_p47 : lw_okq (⟨"WindowDeskModel", "edges", "(I)V"⟩, 28) := ⟨⟨by decide +kernel, by decide +kernel⟩, List.mem_of_getElem? (i := 612) (by decide +kernel), List.mem_of_getElem? (i := 790) (by decide +kernel), List.mem_of_getElem? (i := 791) (by decide +kernel)⟩
def lw_privs_3 : List (MethodName × Nat) := [(⟨"WindowDeskModel", "next", "()V"⟩, 28), (⟨"WindowDeskModel", "isFigure", "()Z"⟩, 28), (⟨"WindowDeskModel", "readsTask", "()Z"⟩, 28), (⟨"WindowDeskModel", "fails", "()Z"⟩, 28), (⟨"WindowDeskModel", "number", "(II)Z"⟩, 28), (⟨"WindowDeskModel", "ends", "()Z"⟩, 28), (⟨"WindowDeskModel", "isBroken", "()Z"⟩, 28), (⟨"WindowDeskModel", "remember", "()V"⟩, 28), (⟨"WindowDeskModel", "rules", "(I)V"⟩, 28), (⟨"WindowDeskModel", "passes", "(II)V"⟩, 28), (⟨"WindowDeskModel", "musts", "(I)V"⟩, 28), (⟨"WindowDeskModel", "isShut", "(II)Z"⟩, 28), (⟨"WindowDeskModel", "start", "(I)I"⟩, 28), (⟨"WindowDeskModel", "done", "(I)I"⟩, 28), (⟨"WindowDeskModel", "tells", "(III)V"⟩, 28), (⟨"WindowDeskModel", "edges", "(I)V"⟩, 28)]
theorem lw_r3 : ∀ q ∈ lw_privs_3, lw_okq q := List.forall_mem_cons.mpr ⟨lw_p32, List.forall_mem_cons.mpr ⟨lw_p33, List.forall_mem_cons.mpr ⟨lw_p34, List.forall_mem_cons.mpr ⟨lw_p35, List.forall_mem_cons.mpr ⟨lw_p36, List.forall_mem_cons.mpr ⟨lw_p37, List.forall_mem_cons.mpr ⟨lw_p38, List.forall_mem_cons.mpr ⟨lw_p39, List.forall_mem_cons.mpr ⟨lw_p40, List.forall_mem_cons.mpr ⟨lw_p41, List.forall_mem_cons.mpr ⟨lw_p42, List.forall_mem_cons.mpr ⟨lw_p43, List.forall_mem_cons.mpr ⟨lw_p44, List.forall_mem_cons.mpr ⟨lw_p45, List.forall_mem_cons.mpr ⟨lw_p46, List.forall_mem_cons.mpr ⟨lw_p47, fun _ h => absurd h List.not_mem_nil⟩⟩⟩⟩⟩⟩⟩⟩⟩⟩⟩⟩⟩⟩⟩⟩
theorem lw_p48 : lw_okq (⟨"WindowDeskModel", "all", "()I"⟩, 28) := ⟨⟨by decide +kernel, by decide +kernel⟩, List.mem_of_getElem? (i := 612) (by decide +kernel), List.mem_of_getElem? (i := 794) (by decide +kernel), List.mem_of_getElem? (i := 795) (by decide +kernel)⟩
theorem lw_p49 : lw_okq (⟨"WindowDeskModel", "setEarly", "(I)I"⟩, 28) := ⟨⟨by decide +kernel, by decide +kernel⟩, List.mem_of_getElem? (i := 612) (by decide +kernel), List.mem_of_getElem? (i := 798) (by decide +kernel), List.mem_of_getElem? (i := 799) (by decide +kernel)⟩
theorem lw_p50 : lw_okq (⟨"WindowDeskModel", "energy", "(I)I"⟩, 28) := ⟨⟨by decide +kernel, by decide +kernel⟩, List.mem_of_getElem? (i := 612) (by decide +kernel), List.mem_of_getElem? (i := 805) (by decide +kernel), List.mem_of_getElem? (i := 806) (by decide +kernel)⟩
theorem lw_p51 : lw_okq (⟨"WindowDeskModel", "setLate", "(I)I"⟩, 28) := ⟨⟨by decide +kernel, by decide +kernel⟩, List.mem_of_getElem? (i := 612) (by decide +kernel), List.mem_of_getElem? (i := 809) (by decide +kernel), List.mem_of_getElem? (i := 810) (by decide +kernel)⟩
theorem lw_p52 : lw_okq (⟨"WindowDeskModel", "firsts", "(I)V"⟩, 28) := ⟨⟨by decide +kernel, by decide +kernel⟩, List.mem_of_getElem? (i := 612) (by decide +kernel), List.mem_of_getElem? (i := 813) (by decide +kernel), List.mem_of_getElem? (i := 814) (by decide +kernel)⟩
theorem lw_p53 : lw_okq (⟨"WindowDeskModel", "setDone", "(I)I"⟩, 28) := ⟨⟨by decide +kernel, by decide +kernel⟩, List.mem_of_getElem? (i := 612) (by decide +kernel), List.mem_of_getElem? (i := 817) (by decide +kernel), List.mem_of_getElem? (i := 818) (by decide +kernel)⟩
theorem lw_p54 : lw_okq (⟨"WindowDeskModel", "spans", "(I)V"⟩, 28) := ⟨⟨by decide +kernel, by decide +kernel⟩, List.mem_of_getElem? (i := 612) (by decide +kernel), List.mem_of_getElem? (i := 821) (by decide +kernel), List.mem_of_getElem? (i := 822) (by decide +kernel)⟩
theorem lw_p55 : lw_okq (⟨"WindowDeskModel", "leastOf", "(III)I"⟩, 28) := ⟨⟨by decide +kernel, by decide +kernel⟩, List.mem_of_getElem? (i := 612) (by decide +kernel), List.mem_of_getElem? (i := 825) (by decide +kernel), List.mem_of_getElem? (i := 826) (by decide +kernel)⟩
theorem lw_p56 : lw_okq (⟨"WindowDeskModel", "unlike", "()I"⟩, 28) := ⟨⟨by decide +kernel, by decide +kernel⟩, List.mem_of_getElem? (i := 612) (by decide +kernel), List.mem_of_getElem? (i := 832) (by decide +kernel), List.mem_of_getElem? (i := 833) (by decide +kernel)⟩
theorem lw_p57 : lw_okq (⟨"WindowDeskModel", "windows", "()I"⟩, 28) := ⟨⟨by decide +kernel, by decide +kernel⟩, List.mem_of_getElem? (i := 612) (by decide +kernel), List.mem_of_getElem? (i := 836) (by decide +kernel), List.mem_of_getElem? (i := 837) (by decide +kernel)⟩
theorem lw_p58 : lw_okq (⟨"WindowDeskModel", "isTask", "(I)Z"⟩, 28) := ⟨⟨by decide +kernel, by decide +kernel⟩, List.mem_of_getElem? (i := 612) (by decide +kernel), List.mem_of_getElem? (i := 844) (by decide +kernel), List.mem_of_getElem? (i := 845) (by decide +kernel)⟩
theorem lw_p59 : lw_okq (⟨"WindowDeskModel", "belong", "(I)I"⟩, 28) := ⟨⟨by decide +kernel, by decide +kernel⟩, List.mem_of_getElem? (i := 612) (by decide +kernel), List.mem_of_getElem? (i := 856) (by decide +kernel), List.mem_of_getElem? (i := 857) (by decide +kernel)⟩
theorem lw_p60 : lw_okq (⟨"WindowDeskModel", "plain", "()V"⟩, 28) := ⟨⟨by decide +kernel, by decide +kernel⟩, List.mem_of_getElem? (i := 612) (by decide +kernel), List.mem_of_getElem? (i := 860) (by decide +kernel), List.mem_of_getElem? (i := 861) (by decide +kernel)⟩
theorem lw_p61 : lw_okq (⟨"WindowDeskModel", "schedules", "(IIII)I"⟩, 28) := ⟨⟨by decide +kernel, by decide +kernel⟩, List.mem_of_getElem? (i := 612) (by decide +kernel), List.mem_of_getElem? (i := 864) (by decide +kernel), List.mem_of_getElem? (i := 865) (by decide +kernel)⟩
theorem lw_p62 : lw_okq (⟨"WindowDeskModel", "runs", "(II)V"⟩, 28) := ⟨⟨by decide +kernel, by decide +kernel⟩, List.mem_of_getElem? (i := 612) (by decide +kernel), List.mem_of_getElem? (i := 868) (by decide +kernel), List.mem_of_getElem? (i := 869) (by decide +kernel)⟩
theorem lw_p63 : lw_okq (⟨"WindowDeskModel", "isRoom", "(I)Z"⟩, 28) := ⟨⟨by decide +kernel, by decide +kernel⟩, List.mem_of_getElem? (i := 612) (by decide +kernel), List.mem_of_getElem? (i := 872) (by decide +kernel), List.mem_of_getElem? (i := 873) (by decide +kernel)⟩
def lw_privs_4 : List (MethodName × Nat) := [(⟨"WindowDeskModel", "all", "()I"⟩, 28), (⟨"WindowDeskModel", "setEarly", "(I)I"⟩, 28), (⟨"WindowDeskModel", "energy", "(I)I"⟩, 28), (⟨"WindowDeskModel", "setLate", "(I)I"⟩, 28), (⟨"WindowDeskModel", "firsts", "(I)V"⟩, 28), (⟨"WindowDeskModel", "setDone", "(I)I"⟩, 28), (⟨"WindowDeskModel", "spans", "(I)V"⟩, 28), (⟨"WindowDeskModel", "leastOf", "(III)I"⟩, 28), (⟨"WindowDeskModel", "unlike", "()I"⟩, 28), (⟨"WindowDeskModel", "windows", "()I"⟩, 28), (⟨"WindowDeskModel", "isTask", "(I)Z"⟩, 28), (⟨"WindowDeskModel", "belong", "(I)I"⟩, 28), (⟨"WindowDeskModel", "plain", "()V"⟩, 28), (⟨"WindowDeskModel", "schedules", "(IIII)I"⟩, 28), (⟨"WindowDeskModel", "runs", "(II)V"⟩, 28), (⟨"WindowDeskModel", "isRoom", "(I)Z"⟩, 28)]
theorem lw_r4 : ∀ q ∈ lw_privs_4, lw_okq q := List.forall_mem_cons.mpr ⟨lw_p48, List.forall_mem_cons.mpr ⟨lw_p49, List.forall_mem_cons.mpr ⟨lw_p50, List.forall_mem_cons.mpr ⟨lw_p51, List.forall_mem_cons.mpr ⟨lw_p52, List.forall_mem_cons.mpr ⟨lw_p53, List.forall_mem_cons.mpr ⟨lw_p54, List.forall_mem_cons.mpr ⟨lw_p55, List.forall_mem_cons.mpr ⟨lw_p56, List.forall_mem_cons.mpr ⟨lw_p57, List.forall_mem_cons.mpr ⟨lw_p58, List.forall_mem_cons.mpr ⟨lw_p59, List.forall_mem_cons.mpr ⟨lw_p60, List.forall_mem_cons.mpr ⟨lw_p61, List.forall_mem_cons.mpr ⟨lw_p62, List.forall_mem_cons.mpr ⟨lw_p63, fun _ h => absurd h List.not_mem_nil⟩⟩⟩⟩⟩⟩⟩⟩⟩⟩⟩⟩⟩⟩⟩⟩
theorem lw_p64 : lw_okq (⟨"WindowDeskModel", "firstOf", "(I)I"⟩, 28) := ⟨⟨by decide +kernel, by decide +kernel⟩, List.mem_of_getElem? (i := 612) (by decide +kernel), List.mem_of_getElem? (i := 876) (by decide +kernel), List.mem_of_getElem? (i := 877) (by decide +kernel)⟩
theorem lw_p65 : lw_okq (⟨"WindowDeskModel", "asIs", "()V"⟩, 28) := ⟨⟨by decide +kernel, by decide +kernel⟩, List.mem_of_getElem? (i := 612) (by decide +kernel), List.mem_of_getElem? (i := 888) (by decide +kernel), List.mem_of_getElem? (i := 889) (by decide +kernel)⟩
theorem lw_p66 : lw_okq (⟨"WindowDeskModel", "wrapOf", "(I)I"⟩, 28) := ⟨⟨by decide +kernel, by decide +kernel⟩, List.mem_of_getElem? (i := 612) (by decide +kernel), List.mem_of_getElem? (i := 896) (by decide +kernel), List.mem_of_getElem? (i := 897) (by decide +kernel)⟩
theorem lw_p67 : lw_okq (⟨"WindowDeskModel", "countSchedules", "()I"⟩, 28) := ⟨⟨by decide +kernel, by decide +kernel⟩, List.mem_of_getElem? (i := 612) (by decide +kernel), List.mem_of_getElem? (i := 920) (by decide +kernel), List.mem_of_getElem? (i := 921) (by decide +kernel)⟩
theorem lw_p68 : lw_okq (⟨"WindowDeskModel", "shortest", "()I"⟩, 28) := ⟨⟨by decide +kernel, by decide +kernel⟩, List.mem_of_getElem? (i := 612) (by decide +kernel), List.mem_of_getElem? (i := 924) (by decide +kernel), List.mem_of_getElem? (i := 925) (by decide +kernel)⟩
theorem lw_p69 : lw_okq (⟨"WindowDeskModel", "heavy", "()I"⟩, 28) := ⟨⟨by decide +kernel, by decide +kernel⟩, List.mem_of_getElem? (i := 612) (by decide +kernel), List.mem_of_getElem? (i := 928) (by decide +kernel), List.mem_of_getElem? (i := 929) (by decide +kernel)⟩
def lw_privs_5 : List (MethodName × Nat) := [(⟨"WindowDeskModel", "firstOf", "(I)I"⟩, 28), (⟨"WindowDeskModel", "asIs", "()V"⟩, 28), (⟨"WindowDeskModel", "wrapOf", "(I)I"⟩, 28), (⟨"WindowDeskModel", "countSchedules", "()I"⟩, 28), (⟨"WindowDeskModel", "shortest", "()I"⟩, 28), (⟨"WindowDeskModel", "heavy", "()I"⟩, 28)]
theorem lw_r5 : ∀ q ∈ lw_privs_5, lw_okq q := List.forall_mem_cons.mpr ⟨lw_p64, List.forall_mem_cons.mpr ⟨lw_p65, List.forall_mem_cons.mpr ⟨lw_p66, List.forall_mem_cons.mpr ⟨lw_p67, List.forall_mem_cons.mpr ⟨lw_p68, List.forall_mem_cons.mpr ⟨lw_p69, fun _ h => absurd h List.not_mem_nil⟩⟩⟩⟩⟩⟩
def lw_privs : List (MethodName × Nat) := lw_privs_1 ++ (lw_privs_2 ++ (lw_privs_3 ++ (lw_privs_4 ++ (lw_privs_5))))
def lw_tbl : List Cond := k2_sels lw_privs ++ tables_1
theorem lw_privs_ok : ∀ q ∈ lw_privs, lw_okq q := by
  show ∀ q ∈ lw_privs_1 ++ (lw_privs_2 ++ (lw_privs_3 ++ (lw_privs_4 ++ (lw_privs_5)))), lw_okq q
  exact List.forall_mem_append.mpr ⟨lw_r1, List.forall_mem_append.mpr ⟨lw_r2, List.forall_mem_append.mpr ⟨lw_r3, List.forall_mem_append.mpr ⟨lw_r4, lw_r5⟩⟩⟩⟩
end
section
def RX0 : String := "WindowDesk$History"
def TX0 : u_T := fun k => match k with
  | 0 => ("WindowDesk$History", "ring", "[LWindowDesk$Windows;", true)
  | 1 => ("WindowDesk$History", "newest", "I", false)
  | _ => ("WindowDesk$History", "known", "I", false)
def tyX0 : Nat → FieldType := fun k => match k with
  | 0 => .array (.object "WindowDesk$Windows")
  | 1 => .int
  | _ => .int
abbrev wsX00 : List Cond := u_ws RX0 TX0 3
theorem nmX0 : ∀ a, a < 3 → ∀ b, b < 3 → a ≠ b → (TX0 a).2.1 ≠ (TX0 b).2.1 := by decide +kernel
theorem tyX0_ok : ∀ k, k < 3 → parseFieldDescriptor (TX0 k).2.2.1 = some (tyX0 k) := by decide +kernel
abbrev cX0_init : ByteArray := prog_2_method_1_code
def yX0_init : MethodName := ⟨RX0, "<init>", "()V"⟩
abbrev cX0_add : ByteArray := prog_2_method_2_code
def yX0_add : MethodName := ⟨RX0, "add", "(LWindowDesk$Windows;)V"⟩
abbrev cX0_latest : ByteArray := prog_2_method_3_code
def yX0_latest : MethodName := ⟨RX0, "latest", "()LWindowDesk$Windows;"⟩
abbrev cX0_giveBack : ByteArray := prog_2_method_4_code
def yX0_giveBack : MethodName := ⟨RX0, "giveBack", "(LWindowDesk$Windows;)V"⟩
def RX1 : String := "WindowDesk$Rules"
def TX1 : u_T := fun k => match k with
  | 0 => ("WindowDesk$Rules", "tasks", "LWindowDesk$Tasks;", true)
  | 1 => ("WindowDesk$Rules", "sight", "LWindowDesk$Sight;", true)
  | 2 => ("WindowDesk$Rules", "told", "[I", true)
  | _ => ("WindowDesk$Rules", "cause", "[I", true)
def tyX1 : Nat → FieldType := fun k => match k with
  | 0 => .object "WindowDesk$Tasks"
  | 1 => .object "WindowDesk$Sight"
  | 2 => .array .int
  | _ => .array .int
abbrev wsX10 : List Cond := u_ws RX1 TX1 4
theorem nmX1 : ∀ a, a < 4 → ∀ b, b < 4 → a ≠ b → (TX1 a).2.1 ≠ (TX1 b).2.1 := by decide +kernel
theorem tyX1_ok : ∀ k, k < 4 → parseFieldDescriptor (TX1 k).2.2.1 = some (tyX1 k) := by decide +kernel
abbrev cX1_init : ByteArray := prog_3_method_1_code
def yX1_init : MethodName := ⟨RX1, "<init>", "(LWindowDesk$Tasks;LWindowDesk$Sight;)V"⟩
abbrev cX1_tightenByAll : ByteArray := prog_3_method_2_code
def yX1_tightenByAll : MethodName := ⟨RX1, "tightenByAll", "(LWindowDesk$Windows;)V"⟩
abbrev cX1_tighten : ByteArray := prog_3_method_3_code
def yX1_tighten : MethodName := ⟨RX1, "tighten", "(ILWindowDesk$Windows;)Z"⟩
abbrev cX1_tightenSide : ByteArray := prog_3_method_4_code
def yX1_tightenSide : MethodName := ⟨RX1, "tightenSide", "(IILWindowDesk$Windows;)Z"⟩
abbrev cX1_tell : ByteArray := prog_3_method_5_code
def yX1_tell : MethodName := ⟨RX1, "tell", "(III)V"⟩
abbrev cX1_byMust : ByteArray := prog_3_method_6_code
def yX1_byMust : MethodName := ⟨RX1, "byMust", "(I)V"⟩
abbrev cX1_byEdge : ByteArray := prog_3_method_7_code
def yX1_byEdge : MethodName := ⟨RX1, "byEdge", "(I)V"⟩
abbrev cX1_endsBehind : ByteArray := prog_3_method_8_code
def yX1_endsBehind : MethodName := ⟨RX1, "endsBehind", "(II)Z"⟩
abbrev cX1_tellRest : ByteArray := prog_3_method_9_code
def yX1_tellRest : MethodName := ⟨RX1, "tellRest", "(III)V"⟩
abbrev cX1_byFirst : ByteArray := prog_3_method_10_code
def yX1_byFirst : MethodName := ⟨RX1, "byFirst", "(I)V"⟩
abbrev cX1_canNotBeFirst : ByteArray := prog_3_method_11_code
def yX1_canNotBeFirst : MethodName := ⟨RX1, "canNotBeFirst", "(II)Z"⟩
abbrev cX1_bySpan : ByteArray := prog_3_method_12_code
def yX1_bySpan : MethodName := ⟨RX1, "bySpan", "(I)V"⟩
def RX2 : String := "WindowDesk$Search"
def TX2 : u_T := fun k => match k with
  | 0 => ("WindowDesk$Search", "tasks", "LWindowDesk$Tasks;", true)
  | 1 => ("WindowDesk$Search", "early", "[I", true)
  | 2 => ("WindowDesk$Search", "late", "[I", true)
  | 3 => ("WindowDesk$Search", "need", "[I", true)
  | 4 => ("WindowDesk$Search", "order", "[I", true)
  | 5 => ("WindowDesk$Search", "load", "[I", true)
  | _ => ("WindowDesk$Search", "found", "I", false)
def tyX2 : Nat → FieldType := fun k => match k with
  | 0 => .object "WindowDesk$Tasks"
  | 1 => .array .int
  | 2 => .array .int
  | 3 => .array .int
  | 4 => .array .int
  | 5 => .array .int
  | _ => .int
abbrev wsX20 : List Cond := u_ws RX2 TX2 7
theorem nmX2 : ∀ a, a < 7 → ∀ b, b < 7 → a ≠ b → (TX2 a).2.1 ≠ (TX2 b).2.1 := by decide +kernel
theorem tyX2_ok : ∀ k, k < 7 → parseFieldDescriptor (TX2 k).2.2.1 = some (tyX2 k) := by decide +kernel
abbrev cX2_init : ByteArray := prog_4_method_1_code
def yX2_init : MethodName := ⟨RX2, "<init>", "(LWindowDesk$Tasks;)V"⟩
abbrev cX2_open : ByteArray := prog_4_method_2_code
def yX2_open : MethodName := ⟨RX2, "open", "(LWindowDesk$Windows;)V"⟩
abbrev cX2_pin : ByteArray := prog_4_method_3_code
def yX2_pin : MethodName := ⟨RX2, "pin", "(II)V"⟩
abbrev cX2_schedules : ByteArray := prog_4_method_4_code
def yX2_schedules : MethodName := ⟨RX2, "schedules", "(LWindowDesk$Windows;)I"⟩
abbrev cX2_putInOrder : ByteArray := prog_4_method_5_code
def yX2_putInOrder : MethodName := ⟨RX2, "putInOrder", "()V"⟩
abbrev cX2_countFrom : ByteArray := prog_4_method_6_code
def yX2_countFrom : MethodName := ⟨RX2, "countFrom", "(I)V"⟩
abbrev cX2_countWith : ByteArray := prog_4_method_7_code
def yX2_countWith : MethodName := ⟨RX2, "countWith", "(III)V"⟩
abbrev cX2_belong : ByteArray := prog_4_method_8_code
def yX2_belong : MethodName := ⟨RX2, "belong", "(LWindowDesk$Windows;I)I"⟩
abbrev cX2_firstOf : ByteArray := prog_4_method_9_code
def yX2_firstOf : MethodName := ⟨RX2, "firstOf", "(LWindowDesk$Windows;I)I"⟩
abbrev cX2_pinFirst : ByteArray := prog_4_method_10_code
def yX2_pinFirst : MethodName := ⟨RX2, "pinFirst", "(I)V"⟩
abbrev cX2_shortest : ByteArray := prog_4_method_11_code
def yX2_shortest : MethodName := ⟨RX2, "shortest", "(LWindowDesk$Windows;)I"⟩
abbrev cX2_luckyOf : ByteArray := prog_4_method_12_code
def yX2_luckyOf : MethodName := ⟨RX2, "luckyOf", "(LWindowDesk$Windows;I)I"⟩
abbrev cX2_growNeeds : ByteArray := prog_4_method_13_code
def yX2_growNeeds : MethodName := ⟨RX2, "growNeeds", "(I)V"⟩
abbrev cX2_isAny : ByteArray := prog_4_method_14_code
def yX2_isAny : MethodName := ⟨RX2, "isAny", "()Z"⟩
abbrev cX2_isAnyBeside : ByteArray := prog_4_method_15_code
def yX2_isAnyBeside : MethodName := ⟨RX2, "isAnyBeside", "(II)Z"⟩
abbrev cX2_earliestFit : ByteArray := prog_4_method_16_code
def yX2_earliestFit : MethodName := ⟨RX2, "earliestFit", "(I)I"⟩
abbrev cX2_hasRoom : ByteArray := prog_4_method_17_code
def yX2_hasRoom : MethodName := ⟨RX2, "hasRoom", "(II)Z"⟩
abbrev cX2_fill : ByteArray := prog_4_method_18_code
def yX2_fill : MethodName := ⟨RX2, "fill", "(III)V"⟩
def RX3 : String := "WindowDesk$Sight"
def TX3 : u_T := fun k => match k with
  | 0 => ("WindowDesk$Sight", "tasks", "LWindowDesk$Tasks;", true)
  | 1 => ("WindowDesk$Sight", "early", "[I", true)
  | 2 => ("WindowDesk$Sight", "late", "[I", true)
  | 3 => ("WindowDesk$Sight", "done", "[I", true)
  | 4 => ("WindowDesk$Sight", "start", "[I", true)
  | 5 => ("WindowDesk$Sight", "setEarly", "[I", true)
  | 6 => ("WindowDesk$Sight", "setLate", "[I", true)
  | 7 => ("WindowDesk$Sight", "setDone", "[I", true)
  | _ => ("WindowDesk$Sight", "setEnergy", "[I", true)
def tyX3 : Nat → FieldType := fun k => match k with
  | 0 => .object "WindowDesk$Tasks"
  | 1 => .array .int
  | 2 => .array .int
  | 3 => .array .int
  | 4 => .array .int
  | 5 => .array .int
  | 6 => .array .int
  | 7 => .array .int
  | _ => .array .int
abbrev wsX30 : List Cond := u_ws RX3 TX3 9
theorem nmX3 : ∀ a, a < 9 → ∀ b, b < 9 → a ≠ b → (TX3 a).2.1 ≠ (TX3 b).2.1 := by decide +kernel
theorem tyX3_ok : ∀ k, k < 9 → parseFieldDescriptor (TX3 k).2.2.1 = some (tyX3 k) := by decide +kernel
abbrev cX3_init : ByteArray := prog_5_method_1_code
def yX3_init : MethodName := ⟨RX3, "<init>", "(LWindowDesk$Tasks;)V"⟩
abbrev cX3_look : ByteArray := prog_5_method_2_code
def yX3_look : MethodName := ⟨RX3, "look", "(LWindowDesk$Windows;I)V"⟩
abbrev cX3_sumUp : ByteArray := prog_5_method_3_code
def yX3_sumUp : MethodName := ⟨RX3, "sumUp", "(II)V"⟩
abbrev cX3_surely : ByteArray := prog_5_method_4_code
def yX3_surely : MethodName := ⟨RX3, "surely", "(II)I"⟩
abbrev cX3_mostLeft : ByteArray := prog_5_method_5_code
def yX3_mostLeft : MethodName := ⟨RX3, "mostLeft", "(III)I"⟩
abbrev cX3_least : ByteArray := prog_5_method_6_code
def yX3_least : MethodName := ⟨RX3, "least", "(III)I"⟩
abbrev cX3_free : ByteArray := prog_5_method_7_code
def yX3_free : MethodName := ⟨RX3, "free", "(III)I"⟩
abbrev cX3_heaviest : ByteArray := prog_5_method_8_code
def yX3_heaviest : MethodName := ⟨RX3, "heaviest", "()I"⟩
abbrev cX3_wrapOf : ByteArray := prog_5_method_9_code
def yX3_wrapOf : MethodName := ⟨RX3, "wrapOf", "(I)I"⟩
abbrev cX3_greyest : ByteArray := prog_5_method_10_code
def yX3_greyest : MethodName := ⟨RX3, "greyest", "(II)I"⟩
def RX4 : String := "WindowDesk$Tasks"
def TX4 : u_T := fun k => match k with
  | 0 => ("WindowDesk$Tasks", "room", "I", false)
  | 1 => ("WindowDesk$Tasks", "number", "I", false)
  | 2 => ("WindowDesk$Tasks", "lasting", "[I", true)
  | _ => ("WindowDesk$Tasks", "need", "[I", true)
def tyX4 : Nat → FieldType := fun k => match k with
  | 0 => .int
  | 1 => .int
  | 2 => .array .int
  | _ => .array .int
abbrev wsX40 : List Cond := u_ws RX4 TX4 4
theorem nmX4 : ∀ a, a < 4 → ∀ b, b < 4 → a ≠ b → (TX4 a).2.1 ≠ (TX4 b).2.1 := by decide +kernel
theorem tyX4_ok : ∀ k, k < 4 → parseFieldDescriptor (TX4 k).2.2.1 = some (tyX4 k) := by decide +kernel
abbrev cX4_init : ByteArray := prog_6_method_1_code
def yX4_init : MethodName := ⟨RX4, "<init>", "()V"⟩
abbrev cX4_forget : ByteArray := prog_6_method_2_code
def yX4_forget : MethodName := ⟨RX4, "forget", "()V"⟩
abbrev cX4_add : ByteArray := prog_6_method_3_code
def yX4_add : MethodName := ⟨RX4, "add", "(II)V"⟩
abbrev cX4_take : ByteArray := prog_6_method_4_code
def yX4_take : MethodName := ⟨RX4, "take", "(LWindowDesk$Tasks;)V"⟩
abbrev cX4_has : ByteArray := prog_6_method_5_code
def yX4_has : MethodName := ⟨RX4, "has", "(I)Z"⟩
abbrev cX4_hasSet : ByteArray := prog_6_method_6_code
def yX4_hasSet : MethodName := ⟨RX4, "hasSet", "(I)Z"⟩
abbrev cX4_energyOfAll : ByteArray := prog_6_method_7_code
def yX4_energyOfAll : MethodName := ⟨RX4, "energyOfAll", "()I"⟩
abbrev cX4_energy : ByteArray := prog_6_method_8_code
def yX4_energy : MethodName := ⟨RX4, "energy", "(I)I"⟩
def RX5 : String := "WindowDesk$Text"
def TX5 : u_T := fun k => match k with
  | 0 => ("WindowDesk$Text", "letters", "[I", true)
  | 1 => ("WindowDesk$Text", "length", "I", false)
  | 2 => ("WindowDesk$Text", "place", "I", false)
  | 3 => ("WindowDesk$Text", "token", "I", false)
  | 4 => ("WindowDesk$Text", "tokenPlace", "I", false)
  | _ => ("WindowDesk$Text", "value", "I", false)
def tyX5 : Nat → FieldType := fun k => match k with
  | 0 => .array .int
  | 1 => .int
  | 2 => .int
  | 3 => .int
  | 4 => .int
  | _ => .int
abbrev wsX50 : List Cond := u_ws RX5 TX5 6
theorem nmX5 : ∀ a, a < 6 → ∀ b, b < 6 → a ≠ b → (TX5 a).2.1 ≠ (TX5 b).2.1 := by decide +kernel
theorem tyX5_ok : ∀ k, k < 6 → parseFieldDescriptor (TX5 k).2.2.1 = some (tyX5 k) := by decide +kernel
abbrev cX5_init : ByteArray := prog_7_method_1_code
def yX5_init : MethodName := ⟨RX5, "<init>", "()V"⟩
abbrev cX5_add : ByteArray := prog_7_method_2_code
def yX5_add : MethodName := ⟨RX5, "add", "(I)Z"⟩
abbrev cX5_read : ByteArray := prog_7_method_3_code
def yX5_read : MethodName := ⟨RX5, "read", "(LWindowDesk$Tasks;LWindowDesk$Windows;)I"⟩
abbrev cX5_readItemEnd : ByteArray := prog_7_method_4_code
def yX5_readItemEnd : MethodName := ⟨RX5, "readItemEnd", "()Z"⟩
abbrev cX5_readRoom : ByteArray := prog_7_method_5_code
def yX5_readRoom : MethodName := ⟨RX5, "readRoom", "(LWindowDesk$Tasks;)Z"⟩
abbrev cX5_readTask : ByteArray := prog_7_method_6_code
def yX5_readTask : MethodName := ⟨RX5, "readTask", "(LWindowDesk$Tasks;LWindowDesk$Windows;)Z"⟩
abbrev cX5_readNumber : ByteArray := prog_7_method_7_code
def yX5_readNumber : MethodName := ⟨RX5, "readNumber", "(II)Z"⟩
abbrev cX5_nextToken : ByteArray := prog_7_method_8_code
def yX5_nextToken : MethodName := ⟨RX5, "nextToken", "()V"⟩
abbrev cX5_nextNumber : ByteArray := prog_7_method_9_code
def yX5_nextNumber : MethodName := ⟨RX5, "nextNumber", "()V"⟩
abbrev cX5_isDigit : ByteArray := prog_7_method_10_code
def yX5_isDigit : MethodName := ⟨RX5, "isDigit", "(I)Z"⟩
def RX6 : String := "WindowDesk$Windows"
def TX6 : u_T := fun k => match k with
  | 0 => ("WindowDesk$Windows", "edges", "[I", true)
  | 1 => ("WindowDesk$Windows", "rulesOf", "[I", true)
  | _ => ("WindowDesk$Windows", "causes", "[I", true)
def tyX6 : Nat → FieldType := fun k => match k with
  | 0 => .array .int
  | 1 => .array .int
  | _ => .array .int
abbrev wsX60 : List Cond := u_ws RX6 TX6 3
theorem nmX6 : ∀ a, a < 3 → ∀ b, b < 3 → a ≠ b → (TX6 a).2.1 ≠ (TX6 b).2.1 := by decide +kernel
theorem tyX6_ok : ∀ k, k < 3 → parseFieldDescriptor (TX6 k).2.2.1 = some (tyX6 k) := by decide +kernel
abbrev cX6_init : ByteArray := prog_8_method_1_code
def yX6_init : MethodName := ⟨RX6, "<init>", "()V"⟩
abbrev cX6_placeOf : ByteArray := prog_8_method_2_code
def yX6_placeOf : MethodName := ⟨RX6, "placeOf", "(II)I"⟩
abbrev cX6_edge : ByteArray := prog_8_method_3_code
def yX6_edge : MethodName := ⟨RX6, "edge", "(II)I"⟩
abbrev cX6_ruleOf : ByteArray := prog_8_method_4_code
def yX6_ruleOf : MethodName := ⟨RX6, "ruleOf", "(II)I"⟩
abbrev cX6_causeOf : ByteArray := prog_8_method_5_code
def yX6_causeOf : MethodName := ⟨RX6, "causeOf", "(II)I"⟩
abbrev cX6_open : ByteArray := prog_8_method_6_code
def yX6_open : MethodName := ⟨RX6, "open", "(III)V"⟩
abbrev cX6_move : ByteArray := prog_8_method_7_code
def yX6_move : MethodName := ⟨RX6, "move", "(IIIII)V"⟩
abbrev cX6_take : ByteArray := prog_8_method_8_code
def yX6_take : MethodName := ⟨RX6, "take", "(LWindowDesk$Windows;)V"⟩
abbrev cX6_isBroken : ByteArray := prog_8_method_9_code
def yX6_isBroken : MethodName := ⟨RX6, "isBroken", "(LWindowDesk$Tasks;)Z"⟩
abbrev cX6_others : ByteArray := prog_8_method_10_code
def yX6_others : MethodName := ⟨RX6, "others", "(LWindowDesk$Windows;I)I"⟩
def RX7 : String := "WindowDesk"
def TX7 : u_T := fun k => match k with
  | 0 => ("WindowDesk", "text", "LWindowDesk$Text;", true)
  | 1 => ("WindowDesk", "tasks", "LWindowDesk$Tasks;", true)
  | 2 => ("WindowDesk", "toldTasks", "LWindowDesk$Tasks;", true)
  | 3 => ("WindowDesk", "now", "LWindowDesk$Windows;", true)
  | 4 => ("WindowDesk", "toldWindows", "LWindowDesk$Windows;", true)
  | 5 => ("WindowDesk", "images", "[LWindowDesk$Windows;", true)
  | 6 => ("WindowDesk", "kept", "[Z", true)
  | 7 => ("WindowDesk", "history", "LWindowDesk$History;", true)
  | 8 => ("WindowDesk", "sight", "LWindowDesk$Sight;", true)
  | 9 => ("WindowDesk", "rules", "LWindowDesk$Rules;", true)
  | _ => ("WindowDesk", "search", "LWindowDesk$Search;", true)
def tyX7 : Nat → FieldType := fun k => match k with
  | 0 => .object "WindowDesk$Text"
  | 1 => .object "WindowDesk$Tasks"
  | 2 => .object "WindowDesk$Tasks"
  | 3 => .object "WindowDesk$Windows"
  | 4 => .object "WindowDesk$Windows"
  | 5 => .array (.object "WindowDesk$Windows")
  | 6 => .array .boolean
  | 7 => .object "WindowDesk$History"
  | 8 => .object "WindowDesk$Sight"
  | 9 => .object "WindowDesk$Rules"
  | _ => .object "WindowDesk$Search"
abbrev wsX70 : List Cond := u_ws RX7 TX7 11
theorem nmX7 : ∀ a, a < 11 → ∀ b, b < 11 → a ≠ b → (TX7 a).2.1 ≠ (TX7 b).2.1 := by decide +kernel
theorem tyX7_ok : ∀ k, k < 11 → parseFieldDescriptor (TX7 k).2.2.1 = some (tyX7 k) := by decide +kernel
abbrev cX7_init : ByteArray := prog_1_method_1_code
def yX7_init : MethodName := ⟨RX7, "<init>", "()V"⟩
abbrev cX7_type : ByteArray := prog_1_method_2_code
def yX7_type : MethodName := ⟨RX7, "type", "(I)I"⟩
abbrev cX7_clear : ByteArray := prog_1_method_3_code
def yX7_clear : MethodName := ⟨RX7, "clear", "()I"⟩
abbrev cX7_desk : ByteArray := prog_1_method_4_code
def yX7_desk : MethodName := ⟨RX7, "desk", "()I"⟩
abbrev cX7_task : ByteArray := prog_1_method_5_code
def yX7_task : MethodName := ⟨RX7, "task", "(II)I"⟩
abbrev cX7_why : ByteArray := prog_1_method_6_code
def yX7_why : MethodName := ⟨RX7, "why", "(III)I"⟩
abbrev cX7_must : ByteArray := prog_1_method_7_code
def yX7_must : MethodName := ⟨RX7, "must", "(I)I"⟩
abbrev cX7_tightens : ByteArray := prog_1_method_8_code
def yX7_tightens : MethodName := ⟨RX7, "tightens", "(I)I"⟩
abbrev cX7_puts : ByteArray := prog_1_method_9_code
def yX7_puts : MethodName := ⟨RX7, "puts", "(III)I"⟩
abbrev cX7_undo : ByteArray := prog_1_method_10_code
def yX7_undo : MethodName := ⟨RX7, "undo", "()I"⟩
abbrev cX7_wrap : ByteArray := prog_1_method_11_code
def yX7_wrap : MethodName := ⟨RX7, "wrap", "(I)I"⟩
abbrev cX7_grey : ByteArray := prog_1_method_12_code
def yX7_grey : MethodName := ⟨RX7, "grey", "(III)I"⟩
abbrev cX7_odds : ByteArray := prog_1_method_13_code
def yX7_odds : MethodName := ⟨RX7, "odds", "(II)I"⟩
abbrev cX7_keep : ByteArray := prog_1_method_14_code
def yX7_keep : MethodName := ⟨RX7, "keep", "(I)I"⟩
abbrev cX7_back : ByteArray := prog_1_method_15_code
def yX7_back : MethodName := ⟨RX7, "back", "(I)I"⟩
abbrev cX7_count : ByteArray := prog_1_method_16_code
def yX7_count : MethodName := ⟨RX7, "count", "(I)I"⟩
abbrev cX7_mayPut : ByteArray := prog_1_method_17_code
def yX7_mayPut : MethodName := ⟨RX7, "mayPut", "(III)Z"⟩
abbrev cX7_isZeroOrOne : ByteArray := prog_1_method_18_code
def yX7_isZeroOrOne : MethodName := ⟨RX7, "isZeroOrOne", "(I)Z"⟩
abbrev cX7_power : ByteArray := prog_1_method_19_code
def yX7_power : MethodName := ⟨RX7, "power", "(II)I"⟩
abbrev cX7_commonDivisor : ByteArray := prog_1_method_20_code
def yX7_commonDivisor : MethodName := ⟨RX7, "commonDivisor", "(II)I"⟩
def RX8 : String := "WindowDeskModel"
def TX8 : u_T := fun k => match k with
  | 0 => ("WindowDeskModel", "n", "I", false)
  | 1 => ("WindowDeskModel", "room", "I", false)
  | 2 => ("WindowDeskModel", "length", "[I", true)
  | 3 => ("WindowDeskModel", "need", "[I", true)
  | 4 => ("WindowDeskModel", "now", "[I", true)
  | 5 => ("WindowDeskModel", "undoMany", "I", false)
  | 6 => ("WindowDeskModel", "undoAt", "I", false)
  | 7 => ("WindowDeskModel", "undos", "[I", true)
  | 8 => ("WindowDeskModel", "isKept", "[Z", true)
  | 9 => ("WindowDeskModel", "kept", "[I", true)
  | 10 => ("WindowDeskModel", "letterMany", "I", false)
  | 11 => ("WindowDeskModel", "text", "[I", true)
  | 12 => ("WindowDeskModel", "readAt", "I", false)
  | 13 => ("WindowDeskModel", "tokenAt", "I", false)
  | 14 => ("WindowDeskModel", "token", "I", false)
  | 15 => ("WindowDeskModel", "value", "I", false)
  | 16 => ("WindowDeskModel", "faultAt", "I", false)
  | 17 => ("WindowDeskModel", "readMany", "I", false)
  | 18 => ("WindowDeskModel", "readRoom", "I", false)
  | 19 => ("WindowDeskModel", "readTask", "[I", true)
  | 20 => ("WindowDeskModel", "early", "[I", true)
  | 21 => ("WindowDeskModel", "late", "[I", true)
  | 22 => ("WindowDeskModel", "told", "[I", true)
  | 23 => ("WindowDeskModel", "why", "[I", true)
  | 24 => ("WindowDeskModel", "ahead", "[I", true)
  | 25 => ("WindowDeskModel", "begins", "[I", true)
  | 26 => ("WindowDeskModel", "uses", "[I", true)
  | _ => ("WindowDeskModel", "grown", "[I", true)
def tyX8 : Nat → FieldType := fun k => match k with
  | 0 => .int
  | 1 => .int
  | 2 => .array .int
  | 3 => .array .int
  | 4 => .array .int
  | 5 => .int
  | 6 => .int
  | 7 => .array .int
  | 8 => .array .boolean
  | 9 => .array .int
  | 10 => .int
  | 11 => .array .int
  | 12 => .int
  | 13 => .int
  | 14 => .int
  | 15 => .int
  | 16 => .int
  | 17 => .int
  | 18 => .int
  | 19 => .array .int
  | 20 => .array .int
  | 21 => .array .int
  | 22 => .array .int
  | 23 => .array .int
  | 24 => .array .int
  | 25 => .array .int
  | 26 => .array .int
  | _ => .array .int
abbrev wsX80 : List Cond := u_ws RX8 TX8 28
theorem nmX8 : ∀ a, a < 28 → ∀ b, b < 28 → a ≠ b → (TX8 a).2.1 ≠ (TX8 b).2.1 := by decide +kernel
theorem tyX8_ok : ∀ k, k < 28 → parseFieldDescriptor (TX8 k).2.2.1 = some (tyX8 k) := by decide +kernel
abbrev cX8_init : ByteArray := prog_10_method_1_code
def yX8_init : MethodName := ⟨RX8, "<init>", "()V"⟩
abbrev cX8_in : ByteArray := prog_10_method_2_code
def yX8_in : MethodName := ⟨RX8, "in", "(III)Z"⟩
abbrev cX8_has : ByteArray := prog_10_method_3_code
def yX8_has : MethodName := ⟨RX8, "has", "(II)Z"⟩
abbrev cX8_type : ByteArray := prog_10_method_4_code
def yX8_type : MethodName := ⟨RX8, "type", "(I)I"⟩
abbrev cX8_clear : ByteArray := prog_10_method_5_code
def yX8_clear : MethodName := ⟨RX8, "clear", "()I"⟩
abbrev cX8_isFigure : ByteArray := prog_10_method_6_code
def yX8_isFigure : MethodName := ⟨RX8, "isFigure", "()Z"⟩
abbrev cX8_blanks : ByteArray := prog_10_method_7_code
def yX8_blanks : MethodName := ⟨RX8, "blanks", "()V"⟩
abbrev cX8_next : ByteArray := prog_10_method_8_code
def yX8_next : MethodName := ⟨RX8, "next", "()V"⟩
abbrev cX8_fails : ByteArray := prog_10_method_9_code
def yX8_fails : MethodName := ⟨RX8, "fails", "()Z"⟩
abbrev cX8_number : ByteArray := prog_10_method_10_code
def yX8_number : MethodName := ⟨RX8, "number", "(II)Z"⟩
abbrev cX8_ends : ByteArray := prog_10_method_11_code
def yX8_ends : MethodName := ⟨RX8, "ends", "()Z"⟩
abbrev cX8_readsTask : ByteArray := prog_10_method_12_code
def yX8_readsTask : MethodName := ⟨RX8, "readsTask", "()Z"⟩
abbrev cX8_readsItem : ByteArray := prog_10_method_13_code
def yX8_readsItem : MethodName := ⟨RX8, "readsItem", "(Z)Z"⟩
abbrev cX8_desk : ByteArray := prog_10_method_14_code
def yX8_desk : MethodName := ⟨RX8, "desk", "()I"⟩
abbrev cX8_isTask : ByteArray := prog_10_method_15_code
def yX8_isTask : MethodName := ⟨RX8, "isTask", "(I)Z"⟩
abbrev cX8_all : ByteArray := prog_10_method_16_code
def yX8_all : MethodName := ⟨RX8, "all", "()I"⟩
abbrev cX8_isBroken : ByteArray := prog_10_method_17_code
def yX8_isBroken : MethodName := ⟨RX8, "isBroken", "()Z"⟩
abbrev cX8_done : ByteArray := prog_10_method_18_code
def yX8_done : MethodName := ⟨RX8, "done", "(I)I"⟩
abbrev cX8_start : ByteArray := prog_10_method_19_code
def yX8_start : MethodName := ⟨RX8, "start", "(I)I"⟩
abbrev cX8_setEarly : ByteArray := prog_10_method_20_code
def yX8_setEarly : MethodName := ⟨RX8, "setEarly", "(I)I"⟩
abbrev cX8_setLate : ByteArray := prog_10_method_21_code
def yX8_setLate : MethodName := ⟨RX8, "setLate", "(I)I"⟩
abbrev cX8_setDone : ByteArray := prog_10_method_22_code
def yX8_setDone : MethodName := ⟨RX8, "setDone", "(I)I"⟩
abbrev cX8_energy : ByteArray := prog_10_method_23_code
def yX8_energy : MethodName := ⟨RX8, "energy", "(I)I"⟩
abbrev cX8_tells : ByteArray := prog_10_method_24_code
def yX8_tells : MethodName := ⟨RX8, "tells", "(III)V"⟩
abbrev cX8_isShut : ByteArray := prog_10_method_25_code
def yX8_isShut : MethodName := ⟨RX8, "isShut", "(II)Z"⟩
abbrev cX8_musts : ByteArray := prog_10_method_26_code
def yX8_musts : MethodName := ⟨RX8, "musts", "(I)V"⟩
abbrev cX8_edges : ByteArray := prog_10_method_27_code
def yX8_edges : MethodName := ⟨RX8, "edges", "(I)V"⟩
abbrev cX8_firsts : ByteArray := prog_10_method_28_code
def yX8_firsts : MethodName := ⟨RX8, "firsts", "(I)V"⟩
abbrev cX8_lesser : ByteArray := prog_10_method_29_code
def yX8_lesser : MethodName := ⟨RX8, "lesser", "(II)I"⟩
abbrev cX8_leastOf : ByteArray := prog_10_method_30_code
def yX8_leastOf : MethodName := ⟨RX8, "leastOf", "(III)I"⟩
abbrev cX8_spans : ByteArray := prog_10_method_31_code
def yX8_spans : MethodName := ⟨RX8, "spans", "(I)V"⟩
abbrev cX8_passes : ByteArray := prog_10_method_32_code
def yX8_passes : MethodName := ⟨RX8, "passes", "(II)V"⟩
abbrev cX8_rules : ByteArray := prog_10_method_33_code
def yX8_rules : MethodName := ⟨RX8, "rules", "(I)V"⟩
abbrev cX8_unlike : ByteArray := prog_10_method_34_code
def yX8_unlike : MethodName := ⟨RX8, "unlike", "()I"⟩
abbrev cX8_remember : ByteArray := prog_10_method_35_code
def yX8_remember : MethodName := ⟨RX8, "remember", "()V"⟩
abbrev cX8_windows : ByteArray := prog_10_method_36_code
def yX8_windows : MethodName := ⟨RX8, "windows", "()I"⟩
abbrev cX8_tightens : ByteArray := prog_10_method_37_code
def yX8_tightens : MethodName := ⟨RX8, "tightens", "(I)I"⟩
abbrev cX8_puts : ByteArray := prog_10_method_38_code
def yX8_puts : MethodName := ⟨RX8, "puts", "(III)I"⟩
abbrev cX8_undo : ByteArray := prog_10_method_39_code
def yX8_undo : MethodName := ⟨RX8, "undo", "()I"⟩
abbrev cX8_runs : ByteArray := prog_10_method_40_code
def yX8_runs : MethodName := ⟨RX8, "runs", "(II)V"⟩
abbrev cX8_isRoom : ByteArray := prog_10_method_41_code
def yX8_isRoom : MethodName := ⟨RX8, "isRoom", "(I)Z"⟩
abbrev cX8_plain : ByteArray := prog_10_method_42_code
def yX8_plain : MethodName := ⟨RX8, "plain", "()V"⟩
abbrev cX8_schedules : ByteArray := prog_10_method_43_code
def yX8_schedules : MethodName := ⟨RX8, "schedules", "(IIII)I"⟩
abbrev cX8_belong : ByteArray := prog_10_method_44_code
def yX8_belong : MethodName := ⟨RX8, "belong", "(I)I"⟩
abbrev cX8_firstOf : ByteArray := prog_10_method_45_code
def yX8_firstOf : MethodName := ⟨RX8, "firstOf", "(I)I"⟩
abbrev cX8_shortest : ByteArray := prog_10_method_46_code
def yX8_shortest : MethodName := ⟨RX8, "shortest", "()I"⟩
abbrev cX8_task : ByteArray := prog_10_method_47_code
def yX8_task : MethodName := ⟨RX8, "task", "(II)I"⟩
abbrev cX8_why : ByteArray := prog_10_method_48_code
def yX8_why : MethodName := ⟨RX8, "why", "(III)I"⟩
abbrev cX8_asIs : ByteArray := prog_10_method_49_code
def yX8_asIs : MethodName := ⟨RX8, "asIs", "()V"⟩
abbrev cX8_must : ByteArray := prog_10_method_50_code
def yX8_must : MethodName := ⟨RX8, "must", "(I)I"⟩
abbrev cX8_wrapOf : ByteArray := prog_10_method_51_code
def yX8_wrapOf : MethodName := ⟨RX8, "wrapOf", "(I)I"⟩
abbrev cX8_wrap : ByteArray := prog_10_method_52_code
def yX8_wrap : MethodName := ⟨RX8, "wrap", "(I)I"⟩
abbrev cX8_grey : ByteArray := prog_10_method_53_code
def yX8_grey : MethodName := ⟨RX8, "grey", "(III)I"⟩
abbrev cX8_heavy : ByteArray := prog_10_method_54_code
def yX8_heavy : MethodName := ⟨RX8, "heavy", "()I"⟩
abbrev cX8_odds : ByteArray := prog_10_method_55_code
def yX8_odds : MethodName := ⟨RX8, "odds", "(II)I"⟩
abbrev cX8_countSchedules : ByteArray := prog_10_method_56_code
def yX8_countSchedules : MethodName := ⟨RX8, "countSchedules", "()I"⟩
abbrev cX8_keep : ByteArray := prog_10_method_57_code
def yX8_keep : MethodName := ⟨RX8, "keep", "(I)I"⟩
abbrev cX8_back : ByteArray := prog_10_method_58_code
def yX8_back : MethodName := ⟨RX8, "back", "(I)I"⟩
abbrev cX8_count : ByteArray := prog_10_method_59_code
def yX8_count : MethodName := ⟨RX8, "count", "(I)I"⟩
def RJ6 : String := "java/lang/Integer"
def TJ6 : u_T := fun k => match k with
  | _ => ("", "", "", false)
def tyJ6 : Nat → FieldType := fun k => match k with
  | _ => .int
abbrev wsJ60 : List Cond := u_ws RJ6 TJ6 0
theorem nmJ6 : ∀ a, a < 0 → ∀ b, b < 0 → a ≠ b → (TJ6 a).2.1 ≠ (TJ6 b).2.1 := by decide +kernel
theorem tyJ6_ok : ∀ k, k < 0 → parseFieldDescriptor (TJ6 k).2.2.1 = some (tyJ6 k) := by decide +kernel
abbrev cJ6_bitCount_0f7a4 : ByteArray := prog_11_method_49_code
def yJ6_bitCount_0f7a4 : MethodName := ⟨RJ6, "bitCount", "(I)I"⟩
def RJ9 : String := "java/lang/Math"
def TJ9 : u_T := fun k => match k with
  | _ => ("", "", "", false)
def tyJ9 : Nat → FieldType := fun k => match k with
  | _ => .int
abbrev wsJ90 : List Cond := u_ws RJ9 TJ9 0
theorem nmJ9 : ∀ a, a < 0 → ∀ b, b < 0 → a ≠ b → (TJ9 a).2.1 ≠ (TJ9 b).2.1 := by decide +kernel
theorem tyJ9_ok : ∀ k, k < 0 → parseFieldDescriptor (TJ9 k).2.2.1 = some (tyJ9 k) := by decide +kernel
abbrev cJ9_max_7cf53 : ByteArray := prog_12_method_65_code
def yJ9_max_7cf53 : MethodName := ⟨RJ9, "max", "(II)I"⟩
abbrev cJ9_min_7cf53 : ByteArray := prog_12_method_69_code
def yJ9_min_7cf53 : MethodName := ⟨RJ9, "min", "(II)I"⟩
def RL : String := "WindowDeskLaw"
abbrev cL_law : ByteArray := code
def yL_law : MethodName := ⟨RL, "law", "([I)Z"⟩
abbrev vwCl : List vw_C := [(RX0, TX0, 3), (RX1, TX1, 4), (RX2, TX2, 7), (RX3, TX3, 9), (RX4, TX4, 4), (RX5, TX5, 6), (RX6, TX6, 3), (RX7, TX7, 11), (RX8, TX8, 28)]
end
section
theorem dX0_init_0 : decode cX0_init 0 = .ok (.aload_n 0, 1) := by decide +kernel
theorem dX0_init_1 : decode cX0_init 1 = .ok (.invokespecial 3, 3) := by decide +kernel
theorem dX0_init_4 : decode cX0_init 4 = .ok (.aload_n 0, 1) := by decide +kernel
theorem dX0_init_5 : decode cX0_init 5 = .ok (.bipush 10, 2) := by decide +kernel
theorem dX0_init_7 : decode cX0_init 7 = .ok (.anewarray 9, 3) := by decide +kernel
theorem dX0_init_10 : decode cX0_init 10 = .ok (.putfield 11, 3) := by decide +kernel
theorem dX0_init_13 : decode cX0_init 13 = .ok (.iconst 0, 1) := by decide +kernel
theorem dX0_init_14 : decode cX0_init 14 = .ok (.istore_n 1, 1) := by decide +kernel
theorem dX0_init_15 : decode cX0_init 15 = .ok (.iload_n 1, 1) := by decide +kernel
theorem dX0_init_16 : decode cX0_init 16 = .ok (.bipush 10, 2) := by decide +kernel
theorem dX0_init_18 : decode cX0_init 18 = .ok (.if_icmp .ge 22, 3) := by decide +kernel
theorem dX0_init_21 : decode cX0_init 21 = .ok (.aload_n 0, 1) := by decide +kernel
theorem dX0_init_22 : decode cX0_init 22 = .ok (.getfield 11, 3) := by decide +kernel
theorem dX0_init_25 : decode cX0_init 25 = .ok (.iload_n 1, 1) := by decide +kernel
theorem dX0_init_26 : decode cX0_init 26 = .ok (.new 9, 3) := by decide +kernel
theorem dX0_init_29 : decode cX0_init 29 = .ok (.dup, 1) := by decide +kernel
theorem dX0_init_30 : decode cX0_init 30 = .ok (.invokespecial 17, 3) := by decide +kernel
theorem dX0_init_33 : decode cX0_init 33 = .ok (.aastore, 1) := by decide +kernel
theorem dX0_init_34 : decode cX0_init 34 = .ok (.iinc 1 1, 3) := by decide +kernel
theorem dX0_init_37 : decode cX0_init 37 = .ok (.goto (-22), 3) := by decide +kernel
theorem dX0_init_40 : decode cX0_init 40 = .ok (.return_, 1) := by decide +kernel
theorem dX0_add_0 : decode cX0_add 0 = .ok (.aload_n 0, 1) := by decide +kernel
theorem dX0_add_1 : decode cX0_add 1 = .ok (.aload_n 0, 1) := by decide +kernel
theorem dX0_add_2 : decode cX0_add 2 = .ok (.getfield 18, 3) := by decide +kernel
theorem dX0_add_5 : decode cX0_add 5 = .ok (.iconst 1, 1) := by decide +kernel
theorem dX0_add_6 : decode cX0_add 6 = .ok (.iadd, 1) := by decide +kernel
theorem dX0_add_7 : decode cX0_add 7 = .ok (.bipush 10, 2) := by decide +kernel
theorem dX0_add_9 : decode cX0_add 9 = .ok (.irem, 1) := by decide +kernel
theorem dX0_add_10 : decode cX0_add 10 = .ok (.putfield 18, 3) := by decide +kernel
theorem dX0_add_13 : decode cX0_add 13 = .ok (.aload_n 0, 1) := by decide +kernel
theorem dX0_add_14 : decode cX0_add 14 = .ok (.getfield 11, 3) := by decide +kernel
theorem dX0_add_17 : decode cX0_add 17 = .ok (.aload_n 0, 1) := by decide +kernel
theorem dX0_add_18 : decode cX0_add 18 = .ok (.getfield 18, 3) := by decide +kernel
theorem dX0_add_21 : decode cX0_add 21 = .ok (.aaload, 1) := by decide +kernel
theorem dX0_add_22 : decode cX0_add 22 = .ok (.aload_n 1, 1) := by decide +kernel
theorem dX0_add_23 : decode cX0_add 23 = .ok (.invokevirtual 22, 3) := by decide +kernel
theorem dX0_add_26 : decode cX0_add 26 = .ok (.aload_n 0, 1) := by decide +kernel
theorem dX0_add_27 : decode cX0_add 27 = .ok (.bipush 10, 2) := by decide +kernel
theorem dX0_add_29 : decode cX0_add 29 = .ok (.aload_n 0, 1) := by decide +kernel
theorem dX0_add_30 : decode cX0_add 30 = .ok (.getfield 26, 3) := by decide +kernel
theorem dX0_add_33 : decode cX0_add 33 = .ok (.iconst 1, 1) := by decide +kernel
theorem dX0_add_34 : decode cX0_add 34 = .ok (.iadd, 1) := by decide +kernel
theorem dX0_add_35 : decode cX0_add 35 = .ok (.invokestatic 29, 3) := by decide +kernel
theorem dX0_add_38 : decode cX0_add 38 = .ok (.putfield 26, 3) := by decide +kernel
theorem dX0_add_41 : decode cX0_add 41 = .ok (.return_, 1) := by decide +kernel
theorem dX0_latest_0 : decode cX0_latest 0 = .ok (.aload_n 0, 1) := by decide +kernel
theorem dX0_latest_1 : decode cX0_latest 1 = .ok (.getfield 11, 3) := by decide +kernel
theorem dX0_latest_4 : decode cX0_latest 4 = .ok (.aload_n 0, 1) := by decide +kernel
theorem dX0_latest_5 : decode cX0_latest 5 = .ok (.getfield 18, 3) := by decide +kernel
theorem dX0_latest_8 : decode cX0_latest 8 = .ok (.aaload, 1) := by decide +kernel
theorem dX0_latest_9 : decode cX0_latest 9 = .ok (.areturn, 1) := by decide +kernel
theorem dX0_giveBack_0 : decode cX0_giveBack 0 = .ok (.aload_n 0, 1) := by decide +kernel
theorem dX0_giveBack_1 : decode cX0_giveBack 1 = .ok (.getfield 26, 3) := by decide +kernel
theorem dX0_giveBack_4 : decode cX0_giveBack 4 = .ok (.ifCond .le 42, 3) := by decide +kernel
theorem dX0_giveBack_7 : decode cX0_giveBack 7 = .ok (.aload_n 1, 1) := by decide +kernel
theorem dX0_giveBack_8 : decode cX0_giveBack 8 = .ok (.aload_n 0, 1) := by decide +kernel
theorem dX0_giveBack_9 : decode cX0_giveBack 9 = .ok (.getfield 11, 3) := by decide +kernel
theorem dX0_giveBack_12 : decode cX0_giveBack 12 = .ok (.aload_n 0, 1) := by decide +kernel
theorem dX0_giveBack_13 : decode cX0_giveBack 13 = .ok (.getfield 18, 3) := by decide +kernel
theorem dX0_giveBack_16 : decode cX0_giveBack 16 = .ok (.aaload, 1) := by decide +kernel
theorem dX0_giveBack_17 : decode cX0_giveBack 17 = .ok (.invokevirtual 22, 3) := by decide +kernel
theorem dX0_giveBack_20 : decode cX0_giveBack 20 = .ok (.aload_n 0, 1) := by decide +kernel
theorem dX0_giveBack_21 : decode cX0_giveBack 21 = .ok (.aload_n 0, 1) := by decide +kernel
theorem dX0_giveBack_22 : decode cX0_giveBack 22 = .ok (.getfield 18, 3) := by decide +kernel
theorem dX0_giveBack_25 : decode cX0_giveBack 25 = .ok (.bipush 10, 2) := by decide +kernel
theorem dX0_giveBack_27 : decode cX0_giveBack 27 = .ok (.iadd, 1) := by decide +kernel
theorem dX0_giveBack_28 : decode cX0_giveBack 28 = .ok (.iconst 1, 1) := by decide +kernel
theorem dX0_giveBack_29 : decode cX0_giveBack 29 = .ok (.isub, 1) := by decide +kernel
theorem dX0_giveBack_30 : decode cX0_giveBack 30 = .ok (.bipush 10, 2) := by decide +kernel
theorem dX0_giveBack_32 : decode cX0_giveBack 32 = .ok (.irem, 1) := by decide +kernel
theorem dX0_giveBack_33 : decode cX0_giveBack 33 = .ok (.putfield 18, 3) := by decide +kernel
theorem dX0_giveBack_36 : decode cX0_giveBack 36 = .ok (.aload_n 0, 1) := by decide +kernel
theorem dX0_giveBack_37 : decode cX0_giveBack 37 = .ok (.dup, 1) := by decide +kernel
theorem dX0_giveBack_38 : decode cX0_giveBack 38 = .ok (.getfield 26, 3) := by decide +kernel
theorem dX0_giveBack_41 : decode cX0_giveBack 41 = .ok (.iconst 1, 1) := by decide +kernel
theorem dX0_giveBack_42 : decode cX0_giveBack 42 = .ok (.isub, 1) := by decide +kernel
theorem dX0_giveBack_43 : decode cX0_giveBack 43 = .ok (.putfield 26, 3) := by decide +kernel
theorem dX0_giveBack_46 : decode cX0_giveBack 46 = .ok (.return_, 1) := by decide +kernel
theorem dX1_init_0 : decode cX1_init 0 = .ok (.aload_n 0, 1) := by decide +kernel
theorem dX1_init_1 : decode cX1_init 1 = .ok (.invokespecial 3, 3) := by decide +kernel
theorem dX1_init_4 : decode cX1_init 4 = .ok (.aload_n 0, 1) := by decide +kernel
theorem dX1_init_5 : decode cX1_init 5 = .ok (.iconst 5, 1) := by decide +kernel
theorem dX1_init_6 : decode cX1_init 6 = .ok (.newarray .int, 2) := by decide +kernel
theorem dX1_init_8 : decode cX1_init 8 = .ok (.putfield 9, 3) := by decide +kernel
theorem dX1_init_11 : decode cX1_init 11 = .ok (.aload_n 0, 1) := by decide +kernel
theorem dX1_init_12 : decode cX1_init 12 = .ok (.iconst 5, 1) := by decide +kernel
theorem dX1_init_13 : decode cX1_init 13 = .ok (.newarray .int, 2) := by decide +kernel
theorem dX1_init_15 : decode cX1_init 15 = .ok (.putfield 15, 3) := by decide +kernel
theorem dX1_init_18 : decode cX1_init 18 = .ok (.aload_n 0, 1) := by decide +kernel
theorem dX1_init_19 : decode cX1_init 19 = .ok (.aload_n 1, 1) := by decide +kernel
theorem dX1_init_20 : decode cX1_init 20 = .ok (.putfield 18, 3) := by decide +kernel
theorem dX1_init_23 : decode cX1_init 23 = .ok (.aload_n 0, 1) := by decide +kernel
theorem dX1_init_24 : decode cX1_init 24 = .ok (.aload_n 2, 1) := by decide +kernel
theorem dX1_init_25 : decode cX1_init 25 = .ok (.putfield 22, 3) := by decide +kernel
theorem dX1_init_28 : decode cX1_init 28 = .ok (.return_, 1) := by decide +kernel
theorem dX1_tightenByAll_0 : decode cX1_tightenByAll 0 = .ok (.iconst 0, 1) := by decide +kernel
theorem dX1_tightenByAll_1 : decode cX1_tightenByAll 1 = .ok (.istore_n 2, 1) := by decide +kernel
theorem dX1_tightenByAll_2 : decode cX1_tightenByAll 2 = .ok (.iconst 0, 1) := by decide +kernel
theorem dX1_tightenByAll_3 : decode cX1_tightenByAll 3 = .ok (.istore_n 3, 1) := by decide +kernel
theorem dX1_tightenByAll_4 : decode cX1_tightenByAll 4 = .ok (.iload_n 3, 1) := by decide +kernel
theorem dX1_tightenByAll_5 : decode cX1_tightenByAll 5 = .ok (.sipush 10000, 3) := by decide +kernel
theorem dX1_tightenByAll_8 : decode cX1_tightenByAll 8 = .ok (.if_icmp .ge 45, 3) := by decide +kernel
theorem dX1_tightenByAll_11 : decode cX1_tightenByAll 11 = .ok (.iload_n 2, 1) := by decide +kernel
theorem dX1_tightenByAll_12 : decode cX1_tightenByAll 12 = .ok (.iconst 4, 1) := by decide +kernel
theorem dX1_tightenByAll_13 : decode cX1_tightenByAll 13 = .ok (.if_icmp .eq 14, 3) := by decide +kernel
theorem dX1_tightenByAll_16 : decode cX1_tightenByAll 16 = .ok (.aload_n 1, 1) := by decide +kernel
theorem dX1_tightenByAll_17 : decode cX1_tightenByAll 17 = .ok (.aload_n 0, 1) := by decide +kernel
theorem dX1_tightenByAll_18 : decode cX1_tightenByAll 18 = .ok (.getfield 18, 3) := by decide +kernel
theorem dX1_tightenByAll_21 : decode cX1_tightenByAll 21 = .ok (.invokevirtual 26, 3) := by decide +kernel
theorem dX1_tightenByAll_24 : decode cX1_tightenByAll 24 = .ok (.ifCond .eq 4, 3) := by decide +kernel
theorem dX1_tightenByAll_27 : decode cX1_tightenByAll 27 = .ok (.return_, 1) := by decide +kernel
theorem dX1_tightenByAll_28 : decode cX1_tightenByAll 28 = .ok (.aload_n 0, 1) := by decide +kernel
theorem dX1_tightenByAll_29 : decode cX1_tightenByAll 29 = .ok (.iload_n 3, 1) := by decide +kernel
theorem dX1_tightenByAll_30 : decode cX1_tightenByAll 30 = .ok (.iconst 4, 1) := by decide +kernel
theorem dX1_tightenByAll_31 : decode cX1_tightenByAll 31 = .ok (.irem, 1) := by decide +kernel
theorem dX1_tightenByAll_32 : decode cX1_tightenByAll 32 = .ok (.aload_n 1, 1) := by decide +kernel
theorem dX1_tightenByAll_33 : decode cX1_tightenByAll 33 = .ok (.invokevirtual 32, 3) := by decide +kernel
theorem dX1_tightenByAll_36 : decode cX1_tightenByAll 36 = .ok (.ifCond .eq 7, 3) := by decide +kernel
theorem dX1_tightenByAll_39 : decode cX1_tightenByAll 39 = .ok (.iconst 0, 1) := by decide +kernel
theorem dX1_tightenByAll_40 : decode cX1_tightenByAll 40 = .ok (.goto 6, 3) := by decide +kernel
theorem dX1_tightenByAll_43 : decode cX1_tightenByAll 43 = .ok (.iload_n 2, 1) := by decide +kernel
theorem dX1_tightenByAll_44 : decode cX1_tightenByAll 44 = .ok (.iconst 1, 1) := by decide +kernel
theorem dX1_tightenByAll_45 : decode cX1_tightenByAll 45 = .ok (.iadd, 1) := by decide +kernel
theorem dX1_tightenByAll_46 : decode cX1_tightenByAll 46 = .ok (.istore_n 2, 1) := by decide +kernel
theorem dX1_tightenByAll_47 : decode cX1_tightenByAll 47 = .ok (.iinc 3 1, 3) := by decide +kernel
theorem dX1_tightenByAll_50 : decode cX1_tightenByAll 50 = .ok (.goto (-46), 3) := by decide +kernel
theorem dX1_tightenByAll_53 : decode cX1_tightenByAll 53 = .ok (.return_, 1) := by decide +kernel
theorem dX1_tighten_0 : decode cX1_tighten 0 = .ok (.aload_n 0, 1) := by decide +kernel
theorem dX1_tighten_1 : decode cX1_tighten 1 = .ok (.iload_n 1, 1) := by decide +kernel
theorem dX1_tighten_2 : decode cX1_tighten 2 = .ok (.iconst 0, 1) := by decide +kernel
theorem dX1_tighten_3 : decode cX1_tighten 3 = .ok (.aload_n 2, 1) := by decide +kernel
theorem dX1_tighten_4 : decode cX1_tighten 4 = .ok (.invokevirtual 36, 3) := by decide +kernel
theorem dX1_tighten_7 : decode cX1_tighten 7 = .ok (.istore_n 3, 1) := by decide +kernel
theorem dX1_tighten_8 : decode cX1_tighten 8 = .ok (.aload_n 2, 1) := by decide +kernel
theorem dX1_tighten_9 : decode cX1_tighten 9 = .ok (.aload_n 0, 1) := by decide +kernel
theorem dX1_tighten_10 : decode cX1_tighten 10 = .ok (.getfield 18, 3) := by decide +kernel
theorem dX1_tighten_13 : decode cX1_tighten 13 = .ok (.invokevirtual 26, 3) := by decide +kernel
theorem dX1_tighten_16 : decode cX1_tighten 16 = .ok (.ifCond .eq 5, 3) := by decide +kernel
theorem dX1_tighten_19 : decode cX1_tighten 19 = .ok (.iload_n 3, 1) := by decide +kernel
theorem dX1_tighten_20 : decode cX1_tighten 20 = .ok (.ireturn, 1) := by decide +kernel
theorem dX1_tighten_21 : decode cX1_tighten 21 = .ok (.aload_n 0, 1) := by decide +kernel
theorem dX1_tighten_22 : decode cX1_tighten 22 = .ok (.iload_n 1, 1) := by decide +kernel
theorem dX1_tighten_23 : decode cX1_tighten 23 = .ok (.iconst 1, 1) := by decide +kernel
theorem dX1_tighten_24 : decode cX1_tighten 24 = .ok (.aload_n 2, 1) := by decide +kernel
theorem dX1_tighten_25 : decode cX1_tighten 25 = .ok (.invokevirtual 36, 3) := by decide +kernel
theorem dX1_tighten_28 : decode cX1_tighten 28 = .ok (.istore 4, 2) := by decide +kernel
theorem dX1_tighten_30 : decode cX1_tighten 30 = .ok (.iload_n 3, 1) := by decide +kernel
theorem dX1_tighten_31 : decode cX1_tighten 31 = .ok (.ifCond .ne 8, 3) := by decide +kernel
theorem dX1_tighten_34 : decode cX1_tighten 34 = .ok (.iload 4, 2) := by decide +kernel
theorem dX1_tighten_36 : decode cX1_tighten 36 = .ok (.ifCond .eq 7, 3) := by decide +kernel
theorem dX1_tighten_39 : decode cX1_tighten 39 = .ok (.iconst 1, 1) := by decide +kernel
theorem dX1_tighten_40 : decode cX1_tighten 40 = .ok (.goto 4, 3) := by decide +kernel
theorem dX1_tighten_43 : decode cX1_tighten 43 = .ok (.iconst 0, 1) := by decide +kernel
theorem dX1_tighten_44 : decode cX1_tighten 44 = .ok (.ireturn, 1) := by decide +kernel
theorem dX1_tightenSide_0 : decode cX1_tightenSide 0 = .ok (.aload_n 0, 1) := by decide +kernel
theorem dX1_tightenSide_1 : decode cX1_tightenSide 1 = .ok (.getfield 22, 3) := by decide +kernel
theorem dX1_tightenSide_4 : decode cX1_tightenSide 4 = .ok (.aload_n 3, 1) := by decide +kernel
theorem dX1_tightenSide_5 : decode cX1_tightenSide 5 = .ok (.iload_n 2, 1) := by decide +kernel
theorem dX1_tightenSide_6 : decode cX1_tightenSide 6 = .ok (.invokevirtual 40, 3) := by decide +kernel
theorem dX1_tightenSide_9 : decode cX1_tightenSide 9 = .ok (.iconst 0, 1) := by decide +kernel
theorem dX1_tightenSide_10 : decode cX1_tightenSide 10 = .ok (.istore 4, 2) := by decide +kernel
theorem dX1_tightenSide_12 : decode cX1_tightenSide 12 = .ok (.iconst 0, 1) := by decide +kernel
theorem dX1_tightenSide_13 : decode cX1_tightenSide 13 = .ok (.istore 5, 2) := by decide +kernel
theorem dX1_tightenSide_15 : decode cX1_tightenSide 15 = .ok (.iload 5, 2) := by decide +kernel
theorem dX1_tightenSide_17 : decode cX1_tightenSide 17 = .ok (.aload_n 0, 1) := by decide +kernel
theorem dX1_tightenSide_18 : decode cX1_tightenSide 18 = .ok (.getfield 18, 3) := by decide +kernel
theorem dX1_tightenSide_21 : decode cX1_tightenSide 21 = .ok (.getfield 46, 3) := by decide +kernel
theorem dX1_tightenSide_24 : decode cX1_tightenSide 24 = .ok (.if_icmp .ge 178, 3) := by decide +kernel
theorem dX1_tightenSide_27 : decode cX1_tightenSide 27 = .ok (.aload_n 0, 1) := by decide +kernel
theorem dX1_tightenSide_28 : decode cX1_tightenSide 28 = .ok (.getfield 9, 3) := by decide +kernel
theorem dX1_tightenSide_31 : decode cX1_tightenSide 31 = .ok (.iload 5, 2) := by decide +kernel
theorem dX1_tightenSide_33 : decode cX1_tightenSide 33 = .ok (.aload_n 0, 1) := by decide +kernel
theorem dX1_tightenSide_34 : decode cX1_tightenSide 34 = .ok (.getfield 22, 3) := by decide +kernel
theorem dX1_tightenSide_37 : decode cX1_tightenSide 37 = .ok (.getfield 52, 3) := by decide +kernel
theorem dX1_tightenSide_40 : decode cX1_tightenSide 40 = .ok (.iload 5, 2) := by decide +kernel
theorem dX1_tightenSide_42 : decode cX1_tightenSide 42 = .ok (.iaload, 1) := by decide +kernel
theorem dX1_tightenSide_43 : decode cX1_tightenSide 43 = .ok (.iastore, 1) := by decide +kernel
theorem dX1_tightenSide_44 : decode cX1_tightenSide 44 = .ok (.aload_n 0, 1) := by decide +kernel
theorem dX1_tightenSide_45 : decode cX1_tightenSide 45 = .ok (.getfield 15, 3) := by decide +kernel
theorem dX1_tightenSide_48 : decode cX1_tightenSide 48 = .ok (.iload 5, 2) := by decide +kernel
theorem dX1_tightenSide_50 : decode cX1_tightenSide 50 = .ok (.iconst 0, 1) := by decide +kernel
theorem dX1_tightenSide_51 : decode cX1_tightenSide 51 = .ok (.iastore, 1) := by decide +kernel
theorem dX1_tightenSide_52 : decode cX1_tightenSide 52 = .ok (.iload_n 1, 1) := by decide +kernel
theorem dX1_tightenSide_53 : decode cX1_tightenSide 53 = .ok (.tableswitch 67 0 3 #[31, 40, 49, 58], 31) := by decide +kernel
theorem dX1_tightenSide_84 : decode cX1_tightenSide 84 = .ok (.aload_n 0, 1) := by decide +kernel
theorem dX1_tightenSide_85 : decode cX1_tightenSide 85 = .ok (.iload 5, 2) := by decide +kernel
theorem dX1_tightenSide_87 : decode cX1_tightenSide 87 = .ok (.invokevirtual 55, 3) := by decide +kernel
theorem dX1_tightenSide_90 : decode cX1_tightenSide 90 = .ok (.goto 30, 3) := by decide +kernel
theorem dX1_tightenSide_93 : decode cX1_tightenSide 93 = .ok (.aload_n 0, 1) := by decide +kernel
theorem dX1_tightenSide_94 : decode cX1_tightenSide 94 = .ok (.iload 5, 2) := by decide +kernel
theorem dX1_tightenSide_96 : decode cX1_tightenSide 96 = .ok (.invokevirtual 59, 3) := by decide +kernel
theorem dX1_tightenSide_99 : decode cX1_tightenSide 99 = .ok (.goto 21, 3) := by decide +kernel
theorem dX1_tightenSide_102 : decode cX1_tightenSide 102 = .ok (.aload_n 0, 1) := by decide +kernel
theorem dX1_tightenSide_103 : decode cX1_tightenSide 103 = .ok (.iload 5, 2) := by decide +kernel
theorem dX1_tightenSide_105 : decode cX1_tightenSide 105 = .ok (.invokevirtual 62, 3) := by decide +kernel
theorem dX1_tightenSide_108 : decode cX1_tightenSide 108 = .ok (.goto 12, 3) := by decide +kernel
theorem dX1_tightenSide_111 : decode cX1_tightenSide 111 = .ok (.aload_n 0, 1) := by decide +kernel
theorem dX1_tightenSide_112 : decode cX1_tightenSide 112 = .ok (.iload 5, 2) := by decide +kernel
theorem dX1_tightenSide_114 : decode cX1_tightenSide 114 = .ok (.invokevirtual 65, 3) := by decide +kernel
theorem dX1_tightenSide_117 : decode cX1_tightenSide 117 = .ok (.goto 3, 3) := by decide +kernel
theorem dX1_tightenSide_120 : decode cX1_tightenSide 120 = .ok (.aload_n 0, 1) := by decide +kernel
theorem dX1_tightenSide_121 : decode cX1_tightenSide 121 = .ok (.getfield 9, 3) := by decide +kernel
theorem dX1_tightenSide_124 : decode cX1_tightenSide 124 = .ok (.iload 5, 2) := by decide +kernel
theorem dX1_tightenSide_126 : decode cX1_tightenSide 126 = .ok (.iaload, 1) := by decide +kernel
theorem dX1_tightenSide_127 : decode cX1_tightenSide 127 = .ok (.aload_n 0, 1) := by decide +kernel
theorem dX1_tightenSide_128 : decode cX1_tightenSide 128 = .ok (.getfield 22, 3) := by decide +kernel
theorem dX1_tightenSide_131 : decode cX1_tightenSide 131 = .ok (.getfield 52, 3) := by decide +kernel
theorem dX1_tightenSide_134 : decode cX1_tightenSide 134 = .ok (.iload 5, 2) := by decide +kernel
theorem dX1_tightenSide_136 : decode cX1_tightenSide 136 = .ok (.iaload, 1) := by decide +kernel
theorem dX1_tightenSide_137 : decode cX1_tightenSide 137 = .ok (.if_icmp .le 59, 3) := by decide +kernel
theorem dX1_tightenSide_140 : decode cX1_tightenSide 140 = .ok (.aload_n 0, 1) := by decide +kernel
theorem dX1_tightenSide_141 : decode cX1_tightenSide 141 = .ok (.getfield 9, 3) := by decide +kernel
theorem dX1_tightenSide_144 : decode cX1_tightenSide 144 = .ok (.iload 5, 2) := by decide +kernel
theorem dX1_tightenSide_146 : decode cX1_tightenSide 146 = .ok (.iaload, 1) := by decide +kernel
theorem dX1_tightenSide_147 : decode cX1_tightenSide 147 = .ok (.aload_n 0, 1) := by decide +kernel
theorem dX1_tightenSide_148 : decode cX1_tightenSide 148 = .ok (.getfield 22, 3) := by decide +kernel
theorem dX1_tightenSide_151 : decode cX1_tightenSide 151 = .ok (.getfield 68, 3) := by decide +kernel
theorem dX1_tightenSide_154 : decode cX1_tightenSide 154 = .ok (.iload 5, 2) := by decide +kernel
theorem dX1_tightenSide_156 : decode cX1_tightenSide 156 = .ok (.iaload, 1) := by decide +kernel
theorem dX1_tightenSide_157 : decode cX1_tightenSide 157 = .ok (.iconst 1, 1) := by decide +kernel
theorem dX1_tightenSide_158 : decode cX1_tightenSide 158 = .ok (.iadd, 1) := by decide +kernel
theorem dX1_tightenSide_159 : decode cX1_tightenSide 159 = .ok (.invokestatic 71, 3) := by decide +kernel
theorem dX1_tightenSide_162 : decode cX1_tightenSide 162 = .ok (.istore 6, 2) := by decide +kernel
theorem dX1_tightenSide_164 : decode cX1_tightenSide 164 = .ok (.aload_n 3, 1) := by decide +kernel
theorem dX1_tightenSide_165 : decode cX1_tightenSide 165 = .ok (.iload 5, 2) := by decide +kernel
theorem dX1_tightenSide_167 : decode cX1_tightenSide 167 = .ok (.iload_n 2, 1) := by decide +kernel
theorem dX1_tightenSide_168 : decode cX1_tightenSide 168 = .ok (.iload_n 2, 1) := by decide +kernel
theorem dX1_tightenSide_169 : decode cX1_tightenSide 169 = .ok (.ifCond .ne 8, 3) := by decide +kernel
theorem dX1_tightenSide_172 : decode cX1_tightenSide 172 = .ok (.iload 6, 2) := by decide +kernel
theorem dX1_tightenSide_174 : decode cX1_tightenSide 174 = .ok (.goto 8, 3) := by decide +kernel
theorem dX1_tightenSide_177 : decode cX1_tightenSide 177 = .ok (.bipush 16, 2) := by decide +kernel
theorem dX1_tightenSide_179 : decode cX1_tightenSide 179 = .ok (.iload 6, 2) := by decide +kernel
theorem dX1_tightenSide_181 : decode cX1_tightenSide 181 = .ok (.isub, 1) := by decide +kernel
theorem dX1_tightenSide_182 : decode cX1_tightenSide 182 = .ok (.iload_n 1, 1) := by decide +kernel
theorem dX1_tightenSide_183 : decode cX1_tightenSide 183 = .ok (.aload_n 0, 1) := by decide +kernel
theorem dX1_tightenSide_184 : decode cX1_tightenSide 184 = .ok (.getfield 15, 3) := by decide +kernel
theorem dX1_tightenSide_187 : decode cX1_tightenSide 187 = .ok (.iload 5, 2) := by decide +kernel
theorem dX1_tightenSide_189 : decode cX1_tightenSide 189 = .ok (.iaload, 1) := by decide +kernel
theorem dX1_tightenSide_190 : decode cX1_tightenSide 190 = .ok (.invokevirtual 77, 3) := by decide +kernel
theorem dX1_tightenSide_193 : decode cX1_tightenSide 193 = .ok (.iconst 1, 1) := by decide +kernel
theorem dX1_tightenSide_194 : decode cX1_tightenSide 194 = .ok (.istore 4, 2) := by decide +kernel
theorem dX1_tightenSide_196 : decode cX1_tightenSide 196 = .ok (.iinc 5 1, 3) := by decide +kernel
theorem dX1_tightenSide_199 : decode cX1_tightenSide 199 = .ok (.goto (-184), 3) := by decide +kernel
theorem dX1_tightenSide_202 : decode cX1_tightenSide 202 = .ok (.iload 4, 2) := by decide +kernel
theorem dX1_tightenSide_204 : decode cX1_tightenSide 204 = .ok (.ireturn, 1) := by decide +kernel
theorem dX1_tell_0 : decode cX1_tell 0 = .ok (.iload_n 2, 1) := by decide +kernel
theorem dX1_tell_1 : decode cX1_tell 1 = .ok (.aload_n 0, 1) := by decide +kernel
theorem dX1_tell_2 : decode cX1_tell 2 = .ok (.getfield 9, 3) := by decide +kernel
theorem dX1_tell_5 : decode cX1_tell 5 = .ok (.iload_n 1, 1) := by decide +kernel
theorem dX1_tell_6 : decode cX1_tell 6 = .ok (.iaload, 1) := by decide +kernel
theorem dX1_tell_7 : decode cX1_tell 7 = .ok (.if_icmp .le 17, 3) := by decide +kernel
theorem dX1_tell_10 : decode cX1_tell 10 = .ok (.aload_n 0, 1) := by decide +kernel
theorem dX1_tell_11 : decode cX1_tell 11 = .ok (.getfield 9, 3) := by decide +kernel
theorem dX1_tell_14 : decode cX1_tell 14 = .ok (.iload_n 1, 1) := by decide +kernel
theorem dX1_tell_15 : decode cX1_tell 15 = .ok (.iload_n 2, 1) := by decide +kernel
theorem dX1_tell_16 : decode cX1_tell 16 = .ok (.iastore, 1) := by decide +kernel
theorem dX1_tell_17 : decode cX1_tell 17 = .ok (.aload_n 0, 1) := by decide +kernel
theorem dX1_tell_18 : decode cX1_tell 18 = .ok (.getfield 15, 3) := by decide +kernel
theorem dX1_tell_21 : decode cX1_tell 21 = .ok (.iload_n 1, 1) := by decide +kernel
theorem dX1_tell_22 : decode cX1_tell 22 = .ok (.iload_n 3, 1) := by decide +kernel
theorem dX1_tell_23 : decode cX1_tell 23 = .ok (.iastore, 1) := by decide +kernel
theorem dX1_tell_24 : decode cX1_tell 24 = .ok (.return_, 1) := by decide +kernel
theorem dX1_byMust_0 : decode cX1_byMust 0 = .ok (.iconst 0, 1) := by decide +kernel
theorem dX1_byMust_1 : decode cX1_byMust 1 = .ok (.istore_n 2, 1) := by decide +kernel
theorem dX1_byMust_2 : decode cX1_byMust 2 = .ok (.aload_n 0, 1) := by decide +kernel
theorem dX1_byMust_3 : decode cX1_byMust 3 = .ok (.getfield 22, 3) := by decide +kernel
theorem dX1_byMust_6 : decode cX1_byMust 6 = .ok (.getfield 52, 3) := by decide +kernel
theorem dX1_byMust_9 : decode cX1_byMust 9 = .ok (.iload_n 1, 1) := by decide +kernel
theorem dX1_byMust_10 : decode cX1_byMust 10 = .ok (.iaload, 1) := by decide +kernel
theorem dX1_byMust_11 : decode cX1_byMust 11 = .ok (.istore_n 3, 1) := by decide +kernel
theorem dX1_byMust_12 : decode cX1_byMust 12 = .ok (.iload_n 3, 1) := by decide +kernel
theorem dX1_byMust_13 : decode cX1_byMust 13 = .ok (.aload_n 0, 1) := by decide +kernel
theorem dX1_byMust_14 : decode cX1_byMust 14 = .ok (.getfield 22, 3) := by decide +kernel
theorem dX1_byMust_17 : decode cX1_byMust 17 = .ok (.getfield 81, 3) := by decide +kernel
theorem dX1_byMust_20 : decode cX1_byMust 20 = .ok (.iload_n 1, 1) := by decide +kernel
theorem dX1_byMust_21 : decode cX1_byMust 21 = .ok (.iaload, 1) := by decide +kernel
theorem dX1_byMust_22 : decode cX1_byMust 22 = .ok (.if_icmp .ge 83, 3) := by decide +kernel
theorem dX1_byMust_25 : decode cX1_byMust 25 = .ok (.aload_n 0, 1) := by decide +kernel
theorem dX1_byMust_26 : decode cX1_byMust 26 = .ok (.getfield 22, 3) := by decide +kernel
theorem dX1_byMust_29 : decode cX1_byMust 29 = .ok (.iload_n 3, 1) := by decide +kernel
theorem dX1_byMust_30 : decode cX1_byMust 30 = .ok (.iload_n 1, 1) := by decide +kernel
theorem dX1_byMust_31 : decode cX1_byMust 31 = .ok (.invokevirtual 84, 3) := by decide +kernel
theorem dX1_byMust_34 : decode cX1_byMust 34 = .ok (.aload_n 0, 1) := by decide +kernel
theorem dX1_byMust_35 : decode cX1_byMust 35 = .ok (.getfield 18, 3) := by decide +kernel
theorem dX1_byMust_38 : decode cX1_byMust 38 = .ok (.getfield 87, 3) := by decide +kernel
theorem dX1_byMust_41 : decode cX1_byMust 41 = .ok (.iload_n 1, 1) := by decide +kernel
theorem dX1_byMust_42 : decode cX1_byMust 42 = .ok (.iaload, 1) := by decide +kernel
theorem dX1_byMust_43 : decode cX1_byMust 43 = .ok (.iadd, 1) := by decide +kernel
theorem dX1_byMust_44 : decode cX1_byMust 44 = .ok (.aload_n 0, 1) := by decide +kernel
theorem dX1_byMust_45 : decode cX1_byMust 45 = .ok (.getfield 18, 3) := by decide +kernel
theorem dX1_byMust_48 : decode cX1_byMust 48 = .ok (.getfield 90, 3) := by decide +kernel
theorem dX1_byMust_51 : decode cX1_byMust 51 = .ok (.if_icmp .le 7, 3) := by decide +kernel
theorem dX1_byMust_54 : decode cX1_byMust 54 = .ok (.iconst 1, 1) := by decide +kernel
theorem dX1_byMust_55 : decode cX1_byMust 55 = .ok (.goto 4, 3) := by decide +kernel
theorem dX1_byMust_58 : decode cX1_byMust 58 = .ok (.iconst 0, 1) := by decide +kernel
theorem dX1_byMust_59 : decode cX1_byMust 59 = .ok (.istore 4, 2) := by decide +kernel
theorem dX1_byMust_61 : decode cX1_byMust 61 = .ok (.iload 4, 2) := by decide +kernel
theorem dX1_byMust_63 : decode cX1_byMust 63 = .ok (.ifCond .eq 7, 3) := by decide +kernel
theorem dX1_byMust_66 : decode cX1_byMust 66 = .ok (.iconst 0, 1) := by decide +kernel
theorem dX1_byMust_67 : decode cX1_byMust 67 = .ok (.goto 6, 3) := by decide +kernel
theorem dX1_byMust_70 : decode cX1_byMust 70 = .ok (.iload_n 2, 1) := by decide +kernel
theorem dX1_byMust_71 : decode cX1_byMust 71 = .ok (.iconst 1, 1) := by decide +kernel
theorem dX1_byMust_72 : decode cX1_byMust 72 = .ok (.iadd, 1) := by decide +kernel
theorem dX1_byMust_73 : decode cX1_byMust 73 = .ok (.istore_n 2, 1) := by decide +kernel
theorem dX1_byMust_74 : decode cX1_byMust 74 = .ok (.iload_n 2, 1) := by decide +kernel
theorem dX1_byMust_75 : decode cX1_byMust 75 = .ok (.aload_n 0, 1) := by decide +kernel
theorem dX1_byMust_76 : decode cX1_byMust 76 = .ok (.getfield 18, 3) := by decide +kernel
theorem dX1_byMust_79 : decode cX1_byMust 79 = .ok (.getfield 93, 3) := by decide +kernel
theorem dX1_byMust_82 : decode cX1_byMust 82 = .ok (.iload_n 1, 1) := by decide +kernel
theorem dX1_byMust_83 : decode cX1_byMust 83 = .ok (.iaload, 1) := by decide +kernel
theorem dX1_byMust_84 : decode cX1_byMust 84 = .ok (.if_icmp .ne 15, 3) := by decide +kernel
theorem dX1_byMust_87 : decode cX1_byMust 87 = .ok (.aload_n 0, 1) := by decide +kernel
theorem dX1_byMust_88 : decode cX1_byMust 88 = .ok (.iload_n 1, 1) := by decide +kernel
theorem dX1_byMust_89 : decode cX1_byMust 89 = .ok (.iload_n 3, 1) := by decide +kernel
theorem dX1_byMust_90 : decode cX1_byMust 90 = .ok (.iconst 1, 1) := by decide +kernel
theorem dX1_byMust_91 : decode cX1_byMust 91 = .ok (.iadd, 1) := by decide +kernel
theorem dX1_byMust_92 : decode cX1_byMust 92 = .ok (.iload_n 2, 1) := by decide +kernel
theorem dX1_byMust_93 : decode cX1_byMust 93 = .ok (.isub, 1) := by decide +kernel
theorem dX1_byMust_94 : decode cX1_byMust 94 = .ok (.iconst 0, 1) := by decide +kernel
theorem dX1_byMust_95 : decode cX1_byMust 95 = .ok (.invokevirtual 96, 3) := by decide +kernel
theorem dX1_byMust_98 : decode cX1_byMust 98 = .ok (.return_, 1) := by decide +kernel
theorem dX1_byMust_99 : decode cX1_byMust 99 = .ok (.iinc 3 1, 3) := by decide +kernel
theorem dX1_byMust_102 : decode cX1_byMust 102 = .ok (.goto (-90), 3) := by decide +kernel
theorem dX1_byMust_105 : decode cX1_byMust 105 = .ok (.aload_n 0, 1) := by decide +kernel
theorem dX1_byMust_106 : decode cX1_byMust 106 = .ok (.iload_n 1, 1) := by decide +kernel
theorem dX1_byMust_107 : decode cX1_byMust 107 = .ok (.aload_n 0, 1) := by decide +kernel
theorem dX1_byMust_108 : decode cX1_byMust 108 = .ok (.getfield 22, 3) := by decide +kernel
theorem dX1_byMust_111 : decode cX1_byMust 111 = .ok (.getfield 68, 3) := by decide +kernel
theorem dX1_byMust_114 : decode cX1_byMust 114 = .ok (.iload_n 1, 1) := by decide +kernel
theorem dX1_byMust_115 : decode cX1_byMust 115 = .ok (.iaload, 1) := by decide +kernel
theorem dX1_byMust_116 : decode cX1_byMust 116 = .ok (.iconst 1, 1) := by decide +kernel
theorem dX1_byMust_117 : decode cX1_byMust 117 = .ok (.iadd, 1) := by decide +kernel
theorem dX1_byMust_118 : decode cX1_byMust 118 = .ok (.iconst 0, 1) := by decide +kernel
theorem dX1_byMust_119 : decode cX1_byMust 119 = .ok (.invokevirtual 96, 3) := by decide +kernel
theorem dX1_byMust_122 : decode cX1_byMust 122 = .ok (.return_, 1) := by decide +kernel
theorem dX1_byEdge_0 : decode cX1_byEdge 0 = .ok (.iconst 1, 1) := by decide +kernel
theorem dX1_byEdge_1 : decode cX1_byEdge 1 = .ok (.istore_n 2, 1) := by decide +kernel
theorem dX1_byEdge_2 : decode cX1_byEdge 2 = .ok (.iload_n 2, 1) := by decide +kernel
theorem dX1_byEdge_3 : decode cX1_byEdge 3 = .ok (.iconst 1, 1) := by decide +kernel
theorem dX1_byEdge_4 : decode cX1_byEdge 4 = .ok (.aload_n 0, 1) := by decide +kernel
theorem dX1_byEdge_5 : decode cX1_byEdge 5 = .ok (.getfield 18, 3) := by decide +kernel
theorem dX1_byEdge_8 : decode cX1_byEdge 8 = .ok (.getfield 46, 3) := by decide +kernel
theorem dX1_byEdge_11 : decode cX1_byEdge 11 = .ok (.ishl, 1) := by decide +kernel
theorem dX1_byEdge_12 : decode cX1_byEdge 12 = .ok (.if_icmp .ge 48, 3) := by decide +kernel
theorem dX1_byEdge_15 : decode cX1_byEdge 15 = .ok (.iload_n 2, 1) := by decide +kernel
theorem dX1_byEdge_16 : decode cX1_byEdge 16 = .ok (.iload_n 1, 1) := by decide +kernel
theorem dX1_byEdge_17 : decode cX1_byEdge 17 = .ok (.ishr, 1) := by decide +kernel
theorem dX1_byEdge_18 : decode cX1_byEdge 18 = .ok (.iconst 1, 1) := by decide +kernel
theorem dX1_byEdge_19 : decode cX1_byEdge 19 = .ok (.iand, 1) := by decide +kernel
theorem dX1_byEdge_20 : decode cX1_byEdge 20 = .ok (.ifCond .ne 34, 3) := by decide +kernel
theorem dX1_byEdge_23 : decode cX1_byEdge 23 = .ok (.aload_n 0, 1) := by decide +kernel
theorem dX1_byEdge_24 : decode cX1_byEdge 24 = .ok (.iload_n 1, 1) := by decide +kernel
theorem dX1_byEdge_25 : decode cX1_byEdge 25 = .ok (.iload_n 2, 1) := by decide +kernel
theorem dX1_byEdge_26 : decode cX1_byEdge 26 = .ok (.invokevirtual 100, 3) := by decide +kernel
theorem dX1_byEdge_29 : decode cX1_byEdge 29 = .ok (.ifCond .eq 25, 3) := by decide +kernel
theorem dX1_byEdge_32 : decode cX1_byEdge 32 = .ok (.iload_n 2, 1) := by decide +kernel
theorem dX1_byEdge_33 : decode cX1_byEdge 33 = .ok (.istore_n 3, 1) := by decide +kernel
theorem dX1_byEdge_34 : decode cX1_byEdge 34 = .ok (.iload_n 3, 1) := by decide +kernel
theorem dX1_byEdge_35 : decode cX1_byEdge 35 = .ok (.ifCond .le 19, 3) := by decide +kernel
theorem dX1_byEdge_38 : decode cX1_byEdge 38 = .ok (.aload_n 0, 1) := by decide +kernel
theorem dX1_byEdge_39 : decode cX1_byEdge 39 = .ok (.iload_n 1, 1) := by decide +kernel
theorem dX1_byEdge_40 : decode cX1_byEdge 40 = .ok (.iload_n 3, 1) := by decide +kernel
theorem dX1_byEdge_41 : decode cX1_byEdge 41 = .ok (.iload_n 2, 1) := by decide +kernel
theorem dX1_byEdge_42 : decode cX1_byEdge 42 = .ok (.invokevirtual 104, 3) := by decide +kernel
theorem dX1_byEdge_45 : decode cX1_byEdge 45 = .ok (.iload_n 3, 1) := by decide +kernel
theorem dX1_byEdge_46 : decode cX1_byEdge 46 = .ok (.iconst 1, 1) := by decide +kernel
theorem dX1_byEdge_47 : decode cX1_byEdge 47 = .ok (.isub, 1) := by decide +kernel
theorem dX1_byEdge_48 : decode cX1_byEdge 48 = .ok (.iload_n 2, 1) := by decide +kernel
theorem dX1_byEdge_49 : decode cX1_byEdge 49 = .ok (.iand, 1) := by decide +kernel
theorem dX1_byEdge_50 : decode cX1_byEdge 50 = .ok (.istore_n 3, 1) := by decide +kernel
theorem dX1_byEdge_51 : decode cX1_byEdge 51 = .ok (.goto (-17), 3) := by decide +kernel
theorem dX1_byEdge_54 : decode cX1_byEdge 54 = .ok (.iinc 2 1, 3) := by decide +kernel
theorem dX1_byEdge_57 : decode cX1_byEdge 57 = .ok (.goto (-55), 3) := by decide +kernel
theorem dX1_byEdge_60 : decode cX1_byEdge 60 = .ok (.return_, 1) := by decide +kernel
theorem dX1_endsBehind_0 : decode cX1_endsBehind 0 = .ok (.aload_n 0, 1) := by decide +kernel
theorem dX1_endsBehind_1 : decode cX1_endsBehind 1 = .ok (.getfield 22, 3) := by decide +kernel
theorem dX1_endsBehind_4 : decode cX1_endsBehind 4 = .ok (.getfield 107, 3) := by decide +kernel
theorem dX1_endsBehind_7 : decode cX1_endsBehind 7 = .ok (.iload_n 2, 1) := by decide +kernel
theorem dX1_endsBehind_8 : decode cX1_endsBehind 8 = .ok (.iaload, 1) := by decide +kernel
theorem dX1_endsBehind_9 : decode cX1_endsBehind 9 = .ok (.aload_n 0, 1) := by decide +kernel
theorem dX1_endsBehind_10 : decode cX1_endsBehind 10 = .ok (.getfield 22, 3) := by decide +kernel
theorem dX1_endsBehind_13 : decode cX1_endsBehind 13 = .ok (.getfield 52, 3) := by decide +kernel
theorem dX1_endsBehind_16 : decode cX1_endsBehind 16 = .ok (.iload_n 1, 1) := by decide +kernel
theorem dX1_endsBehind_17 : decode cX1_endsBehind 17 = .ok (.iaload, 1) := by decide +kernel
theorem dX1_endsBehind_18 : decode cX1_endsBehind 18 = .ok (.invokestatic 71, 3) := by decide +kernel
theorem dX1_endsBehind_21 : decode cX1_endsBehind 21 = .ok (.istore_n 3, 1) := by decide +kernel
theorem dX1_endsBehind_22 : decode cX1_endsBehind 22 = .ok (.aload_n 0, 1) := by decide +kernel
theorem dX1_endsBehind_23 : decode cX1_endsBehind 23 = .ok (.getfield 22, 3) := by decide +kernel
theorem dX1_endsBehind_26 : decode cX1_endsBehind 26 = .ok (.getfield 110, 3) := by decide +kernel
theorem dX1_endsBehind_29 : decode cX1_endsBehind 29 = .ok (.iload_n 2, 1) := by decide +kernel
theorem dX1_endsBehind_30 : decode cX1_endsBehind 30 = .ok (.iconst 1, 1) := by decide +kernel
theorem dX1_endsBehind_31 : decode cX1_endsBehind 31 = .ok (.iload_n 1, 1) := by decide +kernel
theorem dX1_endsBehind_32 : decode cX1_endsBehind 32 = .ok (.ishl, 1) := by decide +kernel
theorem dX1_endsBehind_33 : decode cX1_endsBehind 33 = .ok (.ior, 1) := by decide +kernel
theorem dX1_endsBehind_34 : decode cX1_endsBehind 34 = .ok (.iaload, 1) := by decide +kernel
theorem dX1_endsBehind_35 : decode cX1_endsBehind 35 = .ok (.aload_n 0, 1) := by decide +kernel
theorem dX1_endsBehind_36 : decode cX1_endsBehind 36 = .ok (.getfield 18, 3) := by decide +kernel
theorem dX1_endsBehind_39 : decode cX1_endsBehind 39 = .ok (.getfield 90, 3) := by decide +kernel
theorem dX1_endsBehind_42 : decode cX1_endsBehind 42 = .ok (.aload_n 0, 1) := by decide +kernel
theorem dX1_endsBehind_43 : decode cX1_endsBehind 43 = .ok (.getfield 22, 3) := by decide +kernel
theorem dX1_endsBehind_46 : decode cX1_endsBehind 46 = .ok (.getfield 113, 3) := by decide +kernel
theorem dX1_endsBehind_49 : decode cX1_endsBehind 49 = .ok (.iload_n 2, 1) := by decide +kernel
theorem dX1_endsBehind_50 : decode cX1_endsBehind 50 = .ok (.iaload, 1) := by decide +kernel
theorem dX1_endsBehind_51 : decode cX1_endsBehind 51 = .ok (.iload_n 3, 1) := by decide +kernel
theorem dX1_endsBehind_52 : decode cX1_endsBehind 52 = .ok (.isub, 1) := by decide +kernel
theorem dX1_endsBehind_53 : decode cX1_endsBehind 53 = .ok (.imul, 1) := by decide +kernel
theorem dX1_endsBehind_54 : decode cX1_endsBehind 54 = .ok (.if_icmp .le 7, 3) := by decide +kernel
theorem dX1_endsBehind_57 : decode cX1_endsBehind 57 = .ok (.iconst 1, 1) := by decide +kernel
theorem dX1_endsBehind_58 : decode cX1_endsBehind 58 = .ok (.goto 4, 3) := by decide +kernel
theorem dX1_endsBehind_61 : decode cX1_endsBehind 61 = .ok (.iconst 0, 1) := by decide +kernel
theorem dX1_endsBehind_62 : decode cX1_endsBehind 62 = .ok (.ireturn, 1) := by decide +kernel
theorem dX1_tellRest_0 : decode cX1_tellRest 0 = .ok (.aload_n 0, 1) := by decide +kernel
theorem dX1_tellRest_1 : decode cX1_tellRest 1 = .ok (.getfield 18, 3) := by decide +kernel
theorem dX1_tellRest_4 : decode cX1_tellRest 4 = .ok (.getfield 90, 3) := by decide +kernel
theorem dX1_tellRest_7 : decode cX1_tellRest 7 = .ok (.aload_n 0, 1) := by decide +kernel
theorem dX1_tellRest_8 : decode cX1_tellRest 8 = .ok (.getfield 18, 3) := by decide +kernel
theorem dX1_tellRest_11 : decode cX1_tellRest 11 = .ok (.getfield 87, 3) := by decide +kernel
theorem dX1_tellRest_14 : decode cX1_tellRest 14 = .ok (.iload_n 1, 1) := by decide +kernel
theorem dX1_tellRest_15 : decode cX1_tellRest 15 = .ok (.iaload, 1) := by decide +kernel
theorem dX1_tellRest_16 : decode cX1_tellRest 16 = .ok (.isub, 1) := by decide +kernel
theorem dX1_tellRest_17 : decode cX1_tellRest 17 = .ok (.aload_n 0, 1) := by decide +kernel
theorem dX1_tellRest_18 : decode cX1_tellRest 18 = .ok (.getfield 22, 3) := by decide +kernel
theorem dX1_tellRest_21 : decode cX1_tellRest 21 = .ok (.getfield 113, 3) := by decide +kernel
theorem dX1_tellRest_24 : decode cX1_tellRest 24 = .ok (.iload_n 2, 1) := by decide +kernel
theorem dX1_tellRest_25 : decode cX1_tellRest 25 = .ok (.iaload, 1) := by decide +kernel
theorem dX1_tellRest_26 : decode cX1_tellRest 26 = .ok (.aload_n 0, 1) := by decide +kernel
theorem dX1_tellRest_27 : decode cX1_tellRest 27 = .ok (.getfield 22, 3) := by decide +kernel
theorem dX1_tellRest_30 : decode cX1_tellRest 30 = .ok (.getfield 107, 3) := by decide +kernel
theorem dX1_tellRest_33 : decode cX1_tellRest 33 = .ok (.iload_n 2, 1) := by decide +kernel
theorem dX1_tellRest_34 : decode cX1_tellRest 34 = .ok (.iaload, 1) := by decide +kernel
theorem dX1_tellRest_35 : decode cX1_tellRest 35 = .ok (.isub, 1) := by decide +kernel
theorem dX1_tellRest_36 : decode cX1_tellRest 36 = .ok (.imul, 1) := by decide +kernel
theorem dX1_tellRest_37 : decode cX1_tellRest 37 = .ok (.istore 4, 2) := by decide +kernel
theorem dX1_tellRest_39 : decode cX1_tellRest 39 = .ok (.aload_n 0, 1) := by decide +kernel
theorem dX1_tellRest_40 : decode cX1_tellRest 40 = .ok (.getfield 22, 3) := by decide +kernel
theorem dX1_tellRest_43 : decode cX1_tellRest 43 = .ok (.getfield 110, 3) := by decide +kernel
theorem dX1_tellRest_46 : decode cX1_tellRest 46 = .ok (.iload_n 2, 1) := by decide +kernel
theorem dX1_tellRest_47 : decode cX1_tellRest 47 = .ok (.iaload, 1) := by decide +kernel
theorem dX1_tellRest_48 : decode cX1_tellRest 48 = .ok (.iload 4, 2) := by decide +kernel
theorem dX1_tellRest_50 : decode cX1_tellRest 50 = .ok (.isub, 1) := by decide +kernel
theorem dX1_tellRest_51 : decode cX1_tellRest 51 = .ok (.istore 5, 2) := by decide +kernel
theorem dX1_tellRest_53 : decode cX1_tellRest 53 = .ok (.aload_n 0, 1) := by decide +kernel
theorem dX1_tellRest_54 : decode cX1_tellRest 54 = .ok (.getfield 18, 3) := by decide +kernel
theorem dX1_tellRest_57 : decode cX1_tellRest 57 = .ok (.getfield 87, 3) := by decide +kernel
theorem dX1_tellRest_60 : decode cX1_tellRest 60 = .ok (.iload_n 1, 1) := by decide +kernel
theorem dX1_tellRest_61 : decode cX1_tellRest 61 = .ok (.iaload, 1) := by decide +kernel
theorem dX1_tellRest_62 : decode cX1_tellRest 62 = .ok (.istore 6, 2) := by decide +kernel
theorem dX1_tellRest_64 : decode cX1_tellRest 64 = .ok (.iload 5, 2) := by decide +kernel
theorem dX1_tellRest_66 : decode cX1_tellRest 66 = .ok (.ifCond .le 34, 3) := by decide +kernel
theorem dX1_tellRest_69 : decode cX1_tellRest 69 = .ok (.iload 6, 2) := by decide +kernel
theorem dX1_tellRest_71 : decode cX1_tellRest 71 = .ok (.ifCond .le 29, 3) := by decide +kernel
theorem dX1_tellRest_74 : decode cX1_tellRest 74 = .ok (.aload_n 0, 1) := by decide +kernel
theorem dX1_tellRest_75 : decode cX1_tellRest 75 = .ok (.iload_n 1, 1) := by decide +kernel
theorem dX1_tellRest_76 : decode cX1_tellRest 76 = .ok (.aload_n 0, 1) := by decide +kernel
theorem dX1_tellRest_77 : decode cX1_tellRest 77 = .ok (.getfield 22, 3) := by decide +kernel
theorem dX1_tellRest_80 : decode cX1_tellRest 80 = .ok (.getfield 107, 3) := by decide +kernel
theorem dX1_tellRest_83 : decode cX1_tellRest 83 = .ok (.iload_n 2, 1) := by decide +kernel
theorem dX1_tellRest_84 : decode cX1_tellRest 84 = .ok (.iaload, 1) := by decide +kernel
theorem dX1_tellRest_85 : decode cX1_tellRest 85 = .ok (.iload 5, 2) := by decide +kernel
theorem dX1_tellRest_87 : decode cX1_tellRest 87 = .ok (.iload 6, 2) := by decide +kernel
theorem dX1_tellRest_89 : decode cX1_tellRest 89 = .ok (.iadd, 1) := by decide +kernel
theorem dX1_tellRest_90 : decode cX1_tellRest 90 = .ok (.iconst 1, 1) := by decide +kernel
theorem dX1_tellRest_91 : decode cX1_tellRest 91 = .ok (.isub, 1) := by decide +kernel
theorem dX1_tellRest_92 : decode cX1_tellRest 92 = .ok (.iload 6, 2) := by decide +kernel
theorem dX1_tellRest_94 : decode cX1_tellRest 94 = .ok (.idiv, 1) := by decide +kernel
theorem dX1_tellRest_95 : decode cX1_tellRest 95 = .ok (.iadd, 1) := by decide +kernel
theorem dX1_tellRest_96 : decode cX1_tellRest 96 = .ok (.iload_n 3, 1) := by decide +kernel
theorem dX1_tellRest_97 : decode cX1_tellRest 97 = .ok (.invokevirtual 96, 3) := by decide +kernel
theorem dX1_tellRest_100 : decode cX1_tellRest 100 = .ok (.return_, 1) := by decide +kernel
theorem dX1_byFirst_0 : decode cX1_byFirst 0 = .ok (.iconst 1, 1) := by decide +kernel
theorem dX1_byFirst_1 : decode cX1_byFirst 1 = .ok (.istore_n 2, 1) := by decide +kernel
theorem dX1_byFirst_2 : decode cX1_byFirst 2 = .ok (.iload_n 2, 1) := by decide +kernel
theorem dX1_byFirst_3 : decode cX1_byFirst 3 = .ok (.iconst 1, 1) := by decide +kernel
theorem dX1_byFirst_4 : decode cX1_byFirst 4 = .ok (.aload_n 0, 1) := by decide +kernel
theorem dX1_byFirst_5 : decode cX1_byFirst 5 = .ok (.getfield 18, 3) := by decide +kernel
theorem dX1_byFirst_8 : decode cX1_byFirst 8 = .ok (.getfield 46, 3) := by decide +kernel
theorem dX1_byFirst_11 : decode cX1_byFirst 11 = .ok (.ishl, 1) := by decide +kernel
theorem dX1_byFirst_12 : decode cX1_byFirst 12 = .ok (.if_icmp .ge 41, 3) := by decide +kernel
theorem dX1_byFirst_15 : decode cX1_byFirst 15 = .ok (.iload_n 2, 1) := by decide +kernel
theorem dX1_byFirst_16 : decode cX1_byFirst 16 = .ok (.iload_n 1, 1) := by decide +kernel
theorem dX1_byFirst_17 : decode cX1_byFirst 17 = .ok (.ishr, 1) := by decide +kernel
theorem dX1_byFirst_18 : decode cX1_byFirst 18 = .ok (.iconst 1, 1) := by decide +kernel
theorem dX1_byFirst_19 : decode cX1_byFirst 19 = .ok (.iand, 1) := by decide +kernel
theorem dX1_byFirst_20 : decode cX1_byFirst 20 = .ok (.ifCond .ne 27, 3) := by decide +kernel
theorem dX1_byFirst_23 : decode cX1_byFirst 23 = .ok (.aload_n 0, 1) := by decide +kernel
theorem dX1_byFirst_24 : decode cX1_byFirst 24 = .ok (.iload_n 1, 1) := by decide +kernel
theorem dX1_byFirst_25 : decode cX1_byFirst 25 = .ok (.iload_n 2, 1) := by decide +kernel
theorem dX1_byFirst_26 : decode cX1_byFirst 26 = .ok (.invokevirtual 116, 3) := by decide +kernel
theorem dX1_byFirst_29 : decode cX1_byFirst 29 = .ok (.ifCond .eq 18, 3) := by decide +kernel
theorem dX1_byFirst_32 : decode cX1_byFirst 32 = .ok (.aload_n 0, 1) := by decide +kernel
theorem dX1_byFirst_33 : decode cX1_byFirst 33 = .ok (.iload_n 1, 1) := by decide +kernel
theorem dX1_byFirst_34 : decode cX1_byFirst 34 = .ok (.aload_n 0, 1) := by decide +kernel
theorem dX1_byFirst_35 : decode cX1_byFirst 35 = .ok (.getfield 22, 3) := by decide +kernel
theorem dX1_byFirst_38 : decode cX1_byFirst 38 = .ok (.getfield 119, 3) := by decide +kernel
theorem dX1_byFirst_41 : decode cX1_byFirst 41 = .ok (.iload_n 2, 1) := by decide +kernel
theorem dX1_byFirst_42 : decode cX1_byFirst 42 = .ok (.iaload, 1) := by decide +kernel
theorem dX1_byFirst_43 : decode cX1_byFirst 43 = .ok (.iload_n 2, 1) := by decide +kernel
theorem dX1_byFirst_44 : decode cX1_byFirst 44 = .ok (.invokevirtual 96, 3) := by decide +kernel
theorem dX1_byFirst_47 : decode cX1_byFirst 47 = .ok (.iinc 2 1, 3) := by decide +kernel
theorem dX1_byFirst_50 : decode cX1_byFirst 50 = .ok (.goto (-48), 3) := by decide +kernel
theorem dX1_byFirst_53 : decode cX1_byFirst 53 = .ok (.return_, 1) := by decide +kernel
theorem dX1_canNotBeFirst_0 : decode cX1_canNotBeFirst 0 = .ok (.aload_n 0, 1) := by decide +kernel
theorem dX1_canNotBeFirst_1 : decode cX1_canNotBeFirst 1 = .ok (.getfield 22, 3) := by decide +kernel
theorem dX1_canNotBeFirst_4 : decode cX1_canNotBeFirst 4 = .ok (.getfield 107, 3) := by decide +kernel
theorem dX1_canNotBeFirst_7 : decode cX1_canNotBeFirst 7 = .ok (.iload_n 2, 1) := by decide +kernel
theorem dX1_canNotBeFirst_8 : decode cX1_canNotBeFirst 8 = .ok (.iaload, 1) := by decide +kernel
theorem dX1_canNotBeFirst_9 : decode cX1_canNotBeFirst 9 = .ok (.istore_n 3, 1) := by decide +kernel
theorem dX1_canNotBeFirst_10 : decode cX1_canNotBeFirst 10 = .ok (.iload_n 3, 1) := by decide +kernel
theorem dX1_canNotBeFirst_11 : decode cX1_canNotBeFirst 11 = .ok (.aload_n 0, 1) := by decide +kernel
theorem dX1_canNotBeFirst_12 : decode cX1_canNotBeFirst 12 = .ok (.getfield 22, 3) := by decide +kernel
theorem dX1_canNotBeFirst_15 : decode cX1_canNotBeFirst 15 = .ok (.getfield 52, 3) := by decide +kernel
theorem dX1_canNotBeFirst_18 : decode cX1_canNotBeFirst 18 = .ok (.iload_n 1, 1) := by decide +kernel
theorem dX1_canNotBeFirst_19 : decode cX1_canNotBeFirst 19 = .ok (.iaload, 1) := by decide +kernel
theorem dX1_canNotBeFirst_20 : decode cX1_canNotBeFirst 20 = .ok (.if_icmp .gt 24, 3) := by decide +kernel
theorem dX1_canNotBeFirst_23 : decode cX1_canNotBeFirst 23 = .ok (.aload_n 0, 1) := by decide +kernel
theorem dX1_canNotBeFirst_24 : decode cX1_canNotBeFirst 24 = .ok (.getfield 22, 3) := by decide +kernel
theorem dX1_canNotBeFirst_27 : decode cX1_canNotBeFirst 27 = .ok (.getfield 52, 3) := by decide +kernel
theorem dX1_canNotBeFirst_30 : decode cX1_canNotBeFirst 30 = .ok (.iload_n 1, 1) := by decide +kernel
theorem dX1_canNotBeFirst_31 : decode cX1_canNotBeFirst 31 = .ok (.iaload, 1) := by decide +kernel
theorem dX1_canNotBeFirst_32 : decode cX1_canNotBeFirst 32 = .ok (.aload_n 0, 1) := by decide +kernel
theorem dX1_canNotBeFirst_33 : decode cX1_canNotBeFirst 33 = .ok (.getfield 22, 3) := by decide +kernel
theorem dX1_canNotBeFirst_36 : decode cX1_canNotBeFirst 36 = .ok (.getfield 119, 3) := by decide +kernel
theorem dX1_canNotBeFirst_39 : decode cX1_canNotBeFirst 39 = .ok (.iload_n 2, 1) := by decide +kernel
theorem dX1_canNotBeFirst_40 : decode cX1_canNotBeFirst 40 = .ok (.iaload, 1) := by decide +kernel
theorem dX1_canNotBeFirst_41 : decode cX1_canNotBeFirst 41 = .ok (.if_icmp .lt 5, 3) := by decide +kernel
theorem dX1_canNotBeFirst_44 : decode cX1_canNotBeFirst 44 = .ok (.iconst 0, 1) := by decide +kernel
theorem dX1_canNotBeFirst_45 : decode cX1_canNotBeFirst 45 = .ok (.ireturn, 1) := by decide +kernel
theorem dX1_canNotBeFirst_46 : decode cX1_canNotBeFirst 46 = .ok (.aload_n 0, 1) := by decide +kernel
theorem dX1_canNotBeFirst_47 : decode cX1_canNotBeFirst 47 = .ok (.getfield 18, 3) := by decide +kernel
theorem dX1_canNotBeFirst_50 : decode cX1_canNotBeFirst 50 = .ok (.getfield 87, 3) := by decide +kernel
theorem dX1_canNotBeFirst_53 : decode cX1_canNotBeFirst 53 = .ok (.iload_n 1, 1) := by decide +kernel
theorem dX1_canNotBeFirst_54 : decode cX1_canNotBeFirst 54 = .ok (.iaload, 1) := by decide +kernel
theorem dX1_canNotBeFirst_55 : decode cX1_canNotBeFirst 55 = .ok (.aload_n 0, 1) := by decide +kernel
theorem dX1_canNotBeFirst_56 : decode cX1_canNotBeFirst 56 = .ok (.getfield 22, 3) := by decide +kernel
theorem dX1_canNotBeFirst_59 : decode cX1_canNotBeFirst 59 = .ok (.getfield 122, 3) := by decide +kernel
theorem dX1_canNotBeFirst_62 : decode cX1_canNotBeFirst 62 = .ok (.iload_n 1, 1) := by decide +kernel
theorem dX1_canNotBeFirst_63 : decode cX1_canNotBeFirst 63 = .ok (.iaload, 1) := by decide +kernel
theorem dX1_canNotBeFirst_64 : decode cX1_canNotBeFirst 64 = .ok (.aload_n 0, 1) := by decide +kernel
theorem dX1_canNotBeFirst_65 : decode cX1_canNotBeFirst 65 = .ok (.getfield 22, 3) := by decide +kernel
theorem dX1_canNotBeFirst_68 : decode cX1_canNotBeFirst 68 = .ok (.getfield 113, 3) := by decide +kernel
theorem dX1_canNotBeFirst_71 : decode cX1_canNotBeFirst 71 = .ok (.iload_n 2, 1) := by decide +kernel
theorem dX1_canNotBeFirst_72 : decode cX1_canNotBeFirst 72 = .ok (.iaload, 1) := by decide +kernel
theorem dX1_canNotBeFirst_73 : decode cX1_canNotBeFirst 73 = .ok (.invokestatic 71, 3) := by decide +kernel
theorem dX1_canNotBeFirst_76 : decode cX1_canNotBeFirst 76 = .ok (.iload_n 3, 1) := by decide +kernel
theorem dX1_canNotBeFirst_77 : decode cX1_canNotBeFirst 77 = .ok (.isub, 1) := by decide +kernel
theorem dX1_canNotBeFirst_78 : decode cX1_canNotBeFirst 78 = .ok (.imul, 1) := by decide +kernel
theorem dX1_canNotBeFirst_79 : decode cX1_canNotBeFirst 79 = .ok (.istore 4, 2) := by decide +kernel
theorem dX1_canNotBeFirst_81 : decode cX1_canNotBeFirst 81 = .ok (.aload_n 0, 1) := by decide +kernel
theorem dX1_canNotBeFirst_82 : decode cX1_canNotBeFirst 82 = .ok (.getfield 22, 3) := by decide +kernel
theorem dX1_canNotBeFirst_85 : decode cX1_canNotBeFirst 85 = .ok (.getfield 110, 3) := by decide +kernel
theorem dX1_canNotBeFirst_88 : decode cX1_canNotBeFirst 88 = .ok (.iload_n 2, 1) := by decide +kernel
theorem dX1_canNotBeFirst_89 : decode cX1_canNotBeFirst 89 = .ok (.iaload, 1) := by decide +kernel
theorem dX1_canNotBeFirst_90 : decode cX1_canNotBeFirst 90 = .ok (.iload 4, 2) := by decide +kernel
theorem dX1_canNotBeFirst_92 : decode cX1_canNotBeFirst 92 = .ok (.iadd, 1) := by decide +kernel
theorem dX1_canNotBeFirst_93 : decode cX1_canNotBeFirst 93 = .ok (.aload_n 0, 1) := by decide +kernel
theorem dX1_canNotBeFirst_94 : decode cX1_canNotBeFirst 94 = .ok (.getfield 18, 3) := by decide +kernel
theorem dX1_canNotBeFirst_97 : decode cX1_canNotBeFirst 97 = .ok (.getfield 90, 3) := by decide +kernel
theorem dX1_canNotBeFirst_100 : decode cX1_canNotBeFirst 100 = .ok (.aload_n 0, 1) := by decide +kernel
theorem dX1_canNotBeFirst_101 : decode cX1_canNotBeFirst 101 = .ok (.getfield 22, 3) := by decide +kernel
theorem dX1_canNotBeFirst_104 : decode cX1_canNotBeFirst 104 = .ok (.getfield 113, 3) := by decide +kernel
theorem dX1_canNotBeFirst_107 : decode cX1_canNotBeFirst 107 = .ok (.iload_n 2, 1) := by decide +kernel
theorem dX1_canNotBeFirst_108 : decode cX1_canNotBeFirst 108 = .ok (.iaload, 1) := by decide +kernel
theorem dX1_canNotBeFirst_109 : decode cX1_canNotBeFirst 109 = .ok (.iload_n 3, 1) := by decide +kernel
theorem dX1_canNotBeFirst_110 : decode cX1_canNotBeFirst 110 = .ok (.isub, 1) := by decide +kernel
theorem dX1_canNotBeFirst_111 : decode cX1_canNotBeFirst 111 = .ok (.imul, 1) := by decide +kernel
theorem dX1_canNotBeFirst_112 : decode cX1_canNotBeFirst 112 = .ok (.if_icmp .le 7, 3) := by decide +kernel
theorem dX1_canNotBeFirst_115 : decode cX1_canNotBeFirst 115 = .ok (.iconst 1, 1) := by decide +kernel
theorem dX1_canNotBeFirst_116 : decode cX1_canNotBeFirst 116 = .ok (.goto 4, 3) := by decide +kernel
theorem dX1_canNotBeFirst_119 : decode cX1_canNotBeFirst 119 = .ok (.iconst 0, 1) := by decide +kernel
theorem dX1_canNotBeFirst_120 : decode cX1_canNotBeFirst 120 = .ok (.ireturn, 1) := by decide +kernel
theorem dX1_bySpan_0 : decode cX1_bySpan 0 = .ok (.aload_n 0, 1) := by decide +kernel
theorem dX1_bySpan_1 : decode cX1_bySpan 1 = .ok (.getfield 18, 3) := by decide +kernel
theorem dX1_bySpan_4 : decode cX1_bySpan 4 = .ok (.getfield 87, 3) := by decide +kernel
theorem dX1_bySpan_7 : decode cX1_bySpan 7 = .ok (.iload_n 1, 1) := by decide +kernel
theorem dX1_bySpan_8 : decode cX1_bySpan 8 = .ok (.iaload, 1) := by decide +kernel
theorem dX1_bySpan_9 : decode cX1_bySpan 9 = .ok (.istore_n 2, 1) := by decide +kernel
theorem dX1_bySpan_10 : decode cX1_bySpan 10 = .ok (.iconst 0, 1) := by decide +kernel
theorem dX1_bySpan_11 : decode cX1_bySpan 11 = .ok (.istore_n 3, 1) := by decide +kernel
theorem dX1_bySpan_12 : decode cX1_bySpan 12 = .ok (.iload_n 3, 1) := by decide +kernel
theorem dX1_bySpan_13 : decode cX1_bySpan 13 = .ok (.bipush 16, 2) := by decide +kernel
theorem dX1_bySpan_15 : decode cX1_bySpan 15 = .ok (.if_icmp .ge 84, 3) := by decide +kernel
theorem dX1_bySpan_18 : decode cX1_bySpan 18 = .ok (.iload_n 3, 1) := by decide +kernel
theorem dX1_bySpan_19 : decode cX1_bySpan 19 = .ok (.iconst 1, 1) := by decide +kernel
theorem dX1_bySpan_20 : decode cX1_bySpan 20 = .ok (.iadd, 1) := by decide +kernel
theorem dX1_bySpan_21 : decode cX1_bySpan 21 = .ok (.istore 4, 2) := by decide +kernel
theorem dX1_bySpan_23 : decode cX1_bySpan 23 = .ok (.iload 4, 2) := by decide +kernel
theorem dX1_bySpan_25 : decode cX1_bySpan 25 = .ok (.bipush 16, 2) := by decide +kernel
theorem dX1_bySpan_27 : decode cX1_bySpan 27 = .ok (.if_icmp .gt 66, 3) := by decide +kernel
theorem dX1_bySpan_30 : decode cX1_bySpan 30 = .ok (.aload_n 0, 1) := by decide +kernel
theorem dX1_bySpan_31 : decode cX1_bySpan 31 = .ok (.getfield 22, 3) := by decide +kernel
theorem dX1_bySpan_34 : decode cX1_bySpan 34 = .ok (.iload_n 1, 1) := by decide +kernel
theorem dX1_bySpan_35 : decode cX1_bySpan 35 = .ok (.iload_n 3, 1) := by decide +kernel
theorem dX1_bySpan_36 : decode cX1_bySpan 36 = .ok (.iload 4, 2) := by decide +kernel
theorem dX1_bySpan_38 : decode cX1_bySpan 38 = .ok (.invokevirtual 125, 3) := by decide +kernel
theorem dX1_bySpan_41 : decode cX1_bySpan 41 = .ok (.istore 5, 2) := by decide +kernel
theorem dX1_bySpan_43 : decode cX1_bySpan 43 = .ok (.iload 5, 2) := by decide +kernel
theorem dX1_bySpan_45 : decode cX1_bySpan 45 = .ok (.ifCond .lt 42, 3) := by decide +kernel
theorem dX1_bySpan_48 : decode cX1_bySpan 48 = .ok (.iload_n 2, 1) := by decide +kernel
theorem dX1_bySpan_49 : decode cX1_bySpan 49 = .ok (.ifCond .le 38, 3) := by decide +kernel
theorem dX1_bySpan_52 : decode cX1_bySpan 52 = .ok (.aload_n 0, 1) := by decide +kernel
theorem dX1_bySpan_53 : decode cX1_bySpan 53 = .ok (.getfield 22, 3) := by decide +kernel
theorem dX1_bySpan_56 : decode cX1_bySpan 56 = .ok (.iload_n 1, 1) := by decide +kernel
theorem dX1_bySpan_57 : decode cX1_bySpan 57 = .ok (.iload_n 3, 1) := by decide +kernel
theorem dX1_bySpan_58 : decode cX1_bySpan 58 = .ok (.iload 4, 2) := by decide +kernel
theorem dX1_bySpan_60 : decode cX1_bySpan 60 = .ok (.invokevirtual 129, 3) := by decide +kernel
theorem dX1_bySpan_63 : decode cX1_bySpan 63 = .ok (.iload 5, 2) := by decide +kernel
theorem dX1_bySpan_65 : decode cX1_bySpan 65 = .ok (.if_icmp .le 22, 3) := by decide +kernel
theorem dX1_bySpan_68 : decode cX1_bySpan 68 = .ok (.aload_n 0, 1) := by decide +kernel
theorem dX1_bySpan_69 : decode cX1_bySpan 69 = .ok (.iload_n 1, 1) := by decide +kernel
theorem dX1_bySpan_70 : decode cX1_bySpan 70 = .ok (.iload 4, 2) := by decide +kernel
theorem dX1_bySpan_72 : decode cX1_bySpan 72 = .ok (.iload 5, 2) := by decide +kernel
theorem dX1_bySpan_74 : decode cX1_bySpan 74 = .ok (.iload_n 2, 1) := by decide +kernel
theorem dX1_bySpan_75 : decode cX1_bySpan 75 = .ok (.idiv, 1) := by decide +kernel
theorem dX1_bySpan_76 : decode cX1_bySpan 76 = .ok (.isub, 1) := by decide +kernel
theorem dX1_bySpan_77 : decode cX1_bySpan 77 = .ok (.bipush 100, 2) := by decide +kernel
theorem dX1_bySpan_79 : decode cX1_bySpan 79 = .ok (.iload_n 3, 1) := by decide +kernel
theorem dX1_bySpan_80 : decode cX1_bySpan 80 = .ok (.imul, 1) := by decide +kernel
theorem dX1_bySpan_81 : decode cX1_bySpan 81 = .ok (.iload 4, 2) := by decide +kernel
theorem dX1_bySpan_83 : decode cX1_bySpan 83 = .ok (.iadd, 1) := by decide +kernel
theorem dX1_bySpan_84 : decode cX1_bySpan 84 = .ok (.invokevirtual 96, 3) := by decide +kernel
theorem dX1_bySpan_87 : decode cX1_bySpan 87 = .ok (.iinc 4 1, 3) := by decide +kernel
theorem dX1_bySpan_90 : decode cX1_bySpan 90 = .ok (.goto (-67), 3) := by decide +kernel
theorem dX1_bySpan_93 : decode cX1_bySpan 93 = .ok (.iinc 3 1, 3) := by decide +kernel
theorem dX1_bySpan_96 : decode cX1_bySpan 96 = .ok (.goto (-84), 3) := by decide +kernel
theorem dX1_bySpan_99 : decode cX1_bySpan 99 = .ok (.return_, 1) := by decide +kernel
theorem dX2_init_0 : decode cX2_init 0 = .ok (.aload_n 0, 1) := by decide +kernel
theorem dX2_init_1 : decode cX2_init 1 = .ok (.invokespecial 3, 3) := by decide +kernel
theorem dX2_init_4 : decode cX2_init 4 = .ok (.aload_n 0, 1) := by decide +kernel
theorem dX2_init_5 : decode cX2_init 5 = .ok (.iconst 5, 1) := by decide +kernel
theorem dX2_init_6 : decode cX2_init 6 = .ok (.newarray .int, 2) := by decide +kernel
theorem dX2_init_8 : decode cX2_init 8 = .ok (.putfield 9, 3) := by decide +kernel
theorem dX2_init_11 : decode cX2_init 11 = .ok (.aload_n 0, 1) := by decide +kernel
theorem dX2_init_12 : decode cX2_init 12 = .ok (.iconst 5, 1) := by decide +kernel
theorem dX2_init_13 : decode cX2_init 13 = .ok (.newarray .int, 2) := by decide +kernel
theorem dX2_init_15 : decode cX2_init 15 = .ok (.putfield 15, 3) := by decide +kernel
theorem dX2_init_18 : decode cX2_init 18 = .ok (.aload_n 0, 1) := by decide +kernel
theorem dX2_init_19 : decode cX2_init 19 = .ok (.iconst 5, 1) := by decide +kernel
theorem dX2_init_20 : decode cX2_init 20 = .ok (.newarray .int, 2) := by decide +kernel
theorem dX2_init_22 : decode cX2_init 22 = .ok (.putfield 18, 3) := by decide +kernel
theorem dX2_init_25 : decode cX2_init 25 = .ok (.aload_n 0, 1) := by decide +kernel
theorem dX2_init_26 : decode cX2_init 26 = .ok (.iconst 5, 1) := by decide +kernel
theorem dX2_init_27 : decode cX2_init 27 = .ok (.newarray .int, 2) := by decide +kernel
theorem dX2_init_29 : decode cX2_init 29 = .ok (.putfield 21, 3) := by decide +kernel
theorem dX2_init_32 : decode cX2_init 32 = .ok (.aload_n 0, 1) := by decide +kernel
theorem dX2_init_33 : decode cX2_init 33 = .ok (.bipush 16, 2) := by decide +kernel
theorem dX2_init_35 : decode cX2_init 35 = .ok (.newarray .int, 2) := by decide +kernel
theorem dX2_init_37 : decode cX2_init 37 = .ok (.putfield 24, 3) := by decide +kernel
theorem dX2_init_40 : decode cX2_init 40 = .ok (.aload_n 0, 1) := by decide +kernel
theorem dX2_init_41 : decode cX2_init 41 = .ok (.aload_n 1, 1) := by decide +kernel
theorem dX2_init_42 : decode cX2_init 42 = .ok (.putfield 27, 3) := by decide +kernel
theorem dX2_init_45 : decode cX2_init 45 = .ok (.return_, 1) := by decide +kernel
theorem dX2_open_0 : decode cX2_open 0 = .ok (.iconst 0, 1) := by decide +kernel
theorem dX2_open_1 : decode cX2_open 1 = .ok (.istore_n 2, 1) := by decide +kernel
theorem dX2_open_2 : decode cX2_open 2 = .ok (.iload_n 2, 1) := by decide +kernel
theorem dX2_open_3 : decode cX2_open 3 = .ok (.aload_n 0, 1) := by decide +kernel
theorem dX2_open_4 : decode cX2_open 4 = .ok (.getfield 27, 3) := by decide +kernel
theorem dX2_open_7 : decode cX2_open 7 = .ok (.getfield 31, 3) := by decide +kernel
theorem dX2_open_10 : decode cX2_open 10 = .ok (.if_icmp .ge 48, 3) := by decide +kernel
theorem dX2_open_13 : decode cX2_open 13 = .ok (.aload_n 0, 1) := by decide +kernel
theorem dX2_open_14 : decode cX2_open 14 = .ok (.getfield 9, 3) := by decide +kernel
theorem dX2_open_17 : decode cX2_open 17 = .ok (.iload_n 2, 1) := by decide +kernel
theorem dX2_open_18 : decode cX2_open 18 = .ok (.aload_n 1, 1) := by decide +kernel
theorem dX2_open_19 : decode cX2_open 19 = .ok (.iload_n 2, 1) := by decide +kernel
theorem dX2_open_20 : decode cX2_open 20 = .ok (.iconst 0, 1) := by decide +kernel
theorem dX2_open_21 : decode cX2_open 21 = .ok (.invokevirtual 37, 3) := by decide +kernel
theorem dX2_open_24 : decode cX2_open 24 = .ok (.iastore, 1) := by decide +kernel
theorem dX2_open_25 : decode cX2_open 25 = .ok (.aload_n 0, 1) := by decide +kernel
theorem dX2_open_26 : decode cX2_open 26 = .ok (.getfield 15, 3) := by decide +kernel
theorem dX2_open_29 : decode cX2_open 29 = .ok (.iload_n 2, 1) := by decide +kernel
theorem dX2_open_30 : decode cX2_open 30 = .ok (.aload_n 1, 1) := by decide +kernel
theorem dX2_open_31 : decode cX2_open 31 = .ok (.iload_n 2, 1) := by decide +kernel
theorem dX2_open_32 : decode cX2_open 32 = .ok (.iconst 1, 1) := by decide +kernel
theorem dX2_open_33 : decode cX2_open 33 = .ok (.invokevirtual 37, 3) := by decide +kernel
theorem dX2_open_36 : decode cX2_open 36 = .ok (.iastore, 1) := by decide +kernel
theorem dX2_open_37 : decode cX2_open 37 = .ok (.aload_n 0, 1) := by decide +kernel
theorem dX2_open_38 : decode cX2_open 38 = .ok (.getfield 18, 3) := by decide +kernel
theorem dX2_open_41 : decode cX2_open 41 = .ok (.iload_n 2, 1) := by decide +kernel
theorem dX2_open_42 : decode cX2_open 42 = .ok (.aload_n 0, 1) := by decide +kernel
theorem dX2_open_43 : decode cX2_open 43 = .ok (.getfield 27, 3) := by decide +kernel
theorem dX2_open_46 : decode cX2_open 46 = .ok (.getfield 43, 3) := by decide +kernel
theorem dX2_open_49 : decode cX2_open 49 = .ok (.iload_n 2, 1) := by decide +kernel
theorem dX2_open_50 : decode cX2_open 50 = .ok (.iaload, 1) := by decide +kernel
theorem dX2_open_51 : decode cX2_open 51 = .ok (.iastore, 1) := by decide +kernel
theorem dX2_open_52 : decode cX2_open 52 = .ok (.iinc 2 1, 3) := by decide +kernel
theorem dX2_open_55 : decode cX2_open 55 = .ok (.goto (-53), 3) := by decide +kernel
theorem dX2_open_58 : decode cX2_open 58 = .ok (.return_, 1) := by decide +kernel
theorem dX2_pin_0 : decode cX2_pin 0 = .ok (.aload_n 0, 1) := by decide +kernel
theorem dX2_pin_1 : decode cX2_pin 1 = .ok (.getfield 9, 3) := by decide +kernel
theorem dX2_pin_4 : decode cX2_pin 4 = .ok (.iload_n 1, 1) := by decide +kernel
theorem dX2_pin_5 : decode cX2_pin 5 = .ok (.iload_n 2, 1) := by decide +kernel
theorem dX2_pin_6 : decode cX2_pin 6 = .ok (.iastore, 1) := by decide +kernel
theorem dX2_pin_7 : decode cX2_pin 7 = .ok (.aload_n 0, 1) := by decide +kernel
theorem dX2_pin_8 : decode cX2_pin 8 = .ok (.getfield 15, 3) := by decide +kernel
theorem dX2_pin_11 : decode cX2_pin 11 = .ok (.iload_n 1, 1) := by decide +kernel
theorem dX2_pin_12 : decode cX2_pin 12 = .ok (.iload_n 2, 1) := by decide +kernel
theorem dX2_pin_13 : decode cX2_pin 13 = .ok (.aload_n 0, 1) := by decide +kernel
theorem dX2_pin_14 : decode cX2_pin 14 = .ok (.getfield 27, 3) := by decide +kernel
theorem dX2_pin_17 : decode cX2_pin 17 = .ok (.getfield 44, 3) := by decide +kernel
theorem dX2_pin_20 : decode cX2_pin 20 = .ok (.iload_n 1, 1) := by decide +kernel
theorem dX2_pin_21 : decode cX2_pin 21 = .ok (.iaload, 1) := by decide +kernel
theorem dX2_pin_22 : decode cX2_pin 22 = .ok (.iadd, 1) := by decide +kernel
theorem dX2_pin_23 : decode cX2_pin 23 = .ok (.iastore, 1) := by decide +kernel
theorem dX2_pin_24 : decode cX2_pin 24 = .ok (.return_, 1) := by decide +kernel
theorem dX2_schedules_0 : decode cX2_schedules 0 = .ok (.aload_n 0, 1) := by decide +kernel
theorem dX2_schedules_1 : decode cX2_schedules 1 = .ok (.aload_n 1, 1) := by decide +kernel
theorem dX2_schedules_2 : decode cX2_schedules 2 = .ok (.invokevirtual 47, 3) := by decide +kernel
theorem dX2_schedules_5 : decode cX2_schedules 5 = .ok (.aload_n 0, 1) := by decide +kernel
theorem dX2_schedules_6 : decode cX2_schedules 6 = .ok (.iconst 0, 1) := by decide +kernel
theorem dX2_schedules_7 : decode cX2_schedules 7 = .ok (.putfield 51, 3) := by decide +kernel
theorem dX2_schedules_10 : decode cX2_schedules 10 = .ok (.aload_n 0, 1) := by decide +kernel
theorem dX2_schedules_11 : decode cX2_schedules 11 = .ok (.invokevirtual 54, 3) := by decide +kernel
theorem dX2_schedules_14 : decode cX2_schedules 14 = .ok (.ifCond .eq 12, 3) := by decide +kernel
theorem dX2_schedules_17 : decode cX2_schedules 17 = .ok (.aload_n 0, 1) := by decide +kernel
theorem dX2_schedules_18 : decode cX2_schedules 18 = .ok (.invokevirtual 58, 3) := by decide +kernel
theorem dX2_schedules_21 : decode cX2_schedules 21 = .ok (.aload_n 0, 1) := by decide +kernel
theorem dX2_schedules_22 : decode cX2_schedules 22 = .ok (.iconst 0, 1) := by decide +kernel
theorem dX2_schedules_23 : decode cX2_schedules 23 = .ok (.invokevirtual 61, 3) := by decide +kernel
theorem dX2_schedules_26 : decode cX2_schedules 26 = .ok (.aload_n 0, 1) := by decide +kernel
theorem dX2_schedules_27 : decode cX2_schedules 27 = .ok (.getfield 51, 3) := by decide +kernel
theorem dX2_schedules_30 : decode cX2_schedules 30 = .ok (.ireturn, 1) := by decide +kernel
theorem dX2_putInOrder_0 : decode cX2_putInOrder 0 = .ok (.iconst 0, 1) := by decide +kernel
theorem dX2_putInOrder_1 : decode cX2_putInOrder 1 = .ok (.istore_n 1, 1) := by decide +kernel
theorem dX2_putInOrder_2 : decode cX2_putInOrder 2 = .ok (.iload_n 1, 1) := by decide +kernel
theorem dX2_putInOrder_3 : decode cX2_putInOrder 3 = .ok (.aload_n 0, 1) := by decide +kernel
theorem dX2_putInOrder_4 : decode cX2_putInOrder 4 = .ok (.getfield 27, 3) := by decide +kernel
theorem dX2_putInOrder_7 : decode cX2_putInOrder 7 = .ok (.getfield 31, 3) := by decide +kernel
theorem dX2_putInOrder_10 : decode cX2_putInOrder 10 = .ok (.if_icmp .ge 79, 3) := by decide +kernel
theorem dX2_putInOrder_13 : decode cX2_putInOrder 13 = .ok (.iconst 0, 1) := by decide +kernel
theorem dX2_putInOrder_14 : decode cX2_putInOrder 14 = .ok (.istore_n 2, 1) := by decide +kernel
theorem dX2_putInOrder_15 : decode cX2_putInOrder 15 = .ok (.iconst 0, 1) := by decide +kernel
theorem dX2_putInOrder_16 : decode cX2_putInOrder 16 = .ok (.istore_n 3, 1) := by decide +kernel
theorem dX2_putInOrder_17 : decode cX2_putInOrder 17 = .ok (.iload_n 3, 1) := by decide +kernel
theorem dX2_putInOrder_18 : decode cX2_putInOrder 18 = .ok (.aload_n 0, 1) := by decide +kernel
theorem dX2_putInOrder_19 : decode cX2_putInOrder 19 = .ok (.getfield 27, 3) := by decide +kernel
theorem dX2_putInOrder_22 : decode cX2_putInOrder 22 = .ok (.getfield 31, 3) := by decide +kernel
theorem dX2_putInOrder_25 : decode cX2_putInOrder 25 = .ok (.if_icmp .ge 51, 3) := by decide +kernel
theorem dX2_putInOrder_28 : decode cX2_putInOrder 28 = .ok (.aload_n 0, 1) := by decide +kernel
theorem dX2_putInOrder_29 : decode cX2_putInOrder 29 = .ok (.getfield 27, 3) := by decide +kernel
theorem dX2_putInOrder_32 : decode cX2_putInOrder 32 = .ok (.iload_n 3, 1) := by decide +kernel
theorem dX2_putInOrder_33 : decode cX2_putInOrder 33 = .ok (.invokevirtual 65, 3) := by decide +kernel
theorem dX2_putInOrder_36 : decode cX2_putInOrder 36 = .ok (.aload_n 0, 1) := by decide +kernel
theorem dX2_putInOrder_37 : decode cX2_putInOrder 37 = .ok (.getfield 27, 3) := by decide +kernel
theorem dX2_putInOrder_40 : decode cX2_putInOrder 40 = .ok (.iload_n 1, 1) := by decide +kernel
theorem dX2_putInOrder_41 : decode cX2_putInOrder 41 = .ok (.invokevirtual 65, 3) := by decide +kernel
theorem dX2_putInOrder_44 : decode cX2_putInOrder 44 = .ok (.isub, 1) := by decide +kernel
theorem dX2_putInOrder_45 : decode cX2_putInOrder 45 = .ok (.istore 4, 2) := by decide +kernel
theorem dX2_putInOrder_47 : decode cX2_putInOrder 47 = .ok (.iload_n 2, 1) := by decide +kernel
theorem dX2_putInOrder_48 : decode cX2_putInOrder 48 = .ok (.iload 4, 2) := by decide +kernel
theorem dX2_putInOrder_50 : decode cX2_putInOrder 50 = .ok (.ifCond .gt 13, 3) := by decide +kernel
theorem dX2_putInOrder_53 : decode cX2_putInOrder 53 = .ok (.iload 4, 2) := by decide +kernel
theorem dX2_putInOrder_55 : decode cX2_putInOrder 55 = .ok (.ifCond .ne 12, 3) := by decide +kernel
theorem dX2_putInOrder_58 : decode cX2_putInOrder 58 = .ok (.iload_n 3, 1) := by decide +kernel
theorem dX2_putInOrder_59 : decode cX2_putInOrder 59 = .ok (.iload_n 1, 1) := by decide +kernel
theorem dX2_putInOrder_60 : decode cX2_putInOrder 60 = .ok (.if_icmp .ge 7, 3) := by decide +kernel
theorem dX2_putInOrder_63 : decode cX2_putInOrder 63 = .ok (.iconst 1, 1) := by decide +kernel
theorem dX2_putInOrder_64 : decode cX2_putInOrder 64 = .ok (.goto 4, 3) := by decide +kernel
theorem dX2_putInOrder_67 : decode cX2_putInOrder 67 = .ok (.iconst 0, 1) := by decide +kernel
theorem dX2_putInOrder_68 : decode cX2_putInOrder 68 = .ok (.iadd, 1) := by decide +kernel
theorem dX2_putInOrder_69 : decode cX2_putInOrder 69 = .ok (.istore_n 2, 1) := by decide +kernel
theorem dX2_putInOrder_70 : decode cX2_putInOrder 70 = .ok (.iinc 3 1, 3) := by decide +kernel
theorem dX2_putInOrder_73 : decode cX2_putInOrder 73 = .ok (.goto (-56), 3) := by decide +kernel
theorem dX2_putInOrder_76 : decode cX2_putInOrder 76 = .ok (.aload_n 0, 1) := by decide +kernel
theorem dX2_putInOrder_77 : decode cX2_putInOrder 77 = .ok (.getfield 21, 3) := by decide +kernel
theorem dX2_putInOrder_80 : decode cX2_putInOrder 80 = .ok (.iload_n 2, 1) := by decide +kernel
theorem dX2_putInOrder_81 : decode cX2_putInOrder 81 = .ok (.iload_n 1, 1) := by decide +kernel
theorem dX2_putInOrder_82 : decode cX2_putInOrder 82 = .ok (.iastore, 1) := by decide +kernel
theorem dX2_putInOrder_83 : decode cX2_putInOrder 83 = .ok (.iinc 1 1, 3) := by decide +kernel
theorem dX2_putInOrder_86 : decode cX2_putInOrder 86 = .ok (.goto (-84), 3) := by decide +kernel
theorem dX2_putInOrder_89 : decode cX2_putInOrder 89 = .ok (.return_, 1) := by decide +kernel
theorem dX2_countFrom_0 : decode cX2_countFrom 0 = .ok (.iload_n 1, 1) := by decide +kernel
theorem dX2_countFrom_1 : decode cX2_countFrom 1 = .ok (.aload_n 0, 1) := by decide +kernel
theorem dX2_countFrom_2 : decode cX2_countFrom 2 = .ok (.getfield 27, 3) := by decide +kernel
theorem dX2_countFrom_5 : decode cX2_countFrom 5 = .ok (.getfield 31, 3) := by decide +kernel
theorem dX2_countFrom_8 : decode cX2_countFrom 8 = .ok (.if_icmp .lt 14, 3) := by decide +kernel
theorem dX2_countFrom_11 : decode cX2_countFrom 11 = .ok (.aload_n 0, 1) := by decide +kernel
theorem dX2_countFrom_12 : decode cX2_countFrom 12 = .ok (.dup, 1) := by decide +kernel
theorem dX2_countFrom_13 : decode cX2_countFrom 13 = .ok (.getfield 51, 3) := by decide +kernel
theorem dX2_countFrom_16 : decode cX2_countFrom 16 = .ok (.iconst 1, 1) := by decide +kernel
theorem dX2_countFrom_17 : decode cX2_countFrom 17 = .ok (.iadd, 1) := by decide +kernel
theorem dX2_countFrom_18 : decode cX2_countFrom 18 = .ok (.putfield 51, 3) := by decide +kernel
theorem dX2_countFrom_21 : decode cX2_countFrom 21 = .ok (.return_, 1) := by decide +kernel
theorem dX2_countFrom_22 : decode cX2_countFrom 22 = .ok (.aload_n 0, 1) := by decide +kernel
theorem dX2_countFrom_23 : decode cX2_countFrom 23 = .ok (.getfield 21, 3) := by decide +kernel
theorem dX2_countFrom_26 : decode cX2_countFrom 26 = .ok (.iload_n 1, 1) := by decide +kernel
theorem dX2_countFrom_27 : decode cX2_countFrom 27 = .ok (.iaload, 1) := by decide +kernel
theorem dX2_countFrom_28 : decode cX2_countFrom 28 = .ok (.istore_n 2, 1) := by decide +kernel
theorem dX2_countFrom_29 : decode cX2_countFrom 29 = .ok (.iconst 0, 1) := by decide +kernel
theorem dX2_countFrom_30 : decode cX2_countFrom 30 = .ok (.istore_n 3, 1) := by decide +kernel
theorem dX2_countFrom_31 : decode cX2_countFrom 31 = .ok (.iconst 0, 1) := by decide +kernel
theorem dX2_countFrom_32 : decode cX2_countFrom 32 = .ok (.aload_n 0, 1) := by decide +kernel
theorem dX2_countFrom_33 : decode cX2_countFrom 33 = .ok (.getfield 9, 3) := by decide +kernel
theorem dX2_countFrom_36 : decode cX2_countFrom 36 = .ok (.iload_n 2, 1) := by decide +kernel
theorem dX2_countFrom_37 : decode cX2_countFrom 37 = .ok (.iaload, 1) := by decide +kernel
theorem dX2_countFrom_38 : decode cX2_countFrom 38 = .ok (.invokestatic 69, 3) := by decide +kernel
theorem dX2_countFrom_41 : decode cX2_countFrom 41 = .ok (.istore 4, 2) := by decide +kernel
theorem dX2_countFrom_43 : decode cX2_countFrom 43 = .ok (.iload 4, 2) := by decide +kernel
theorem dX2_countFrom_45 : decode cX2_countFrom 45 = .ok (.bipush 16, 2) := by decide +kernel
theorem dX2_countFrom_47 : decode cX2_countFrom 47 = .ok (.aload_n 0, 1) := by decide +kernel
theorem dX2_countFrom_48 : decode cX2_countFrom 48 = .ok (.getfield 15, 3) := by decide +kernel
theorem dX2_countFrom_51 : decode cX2_countFrom 51 = .ok (.iload_n 2, 1) := by decide +kernel
theorem dX2_countFrom_52 : decode cX2_countFrom 52 = .ok (.iaload, 1) := by decide +kernel
theorem dX2_countFrom_53 : decode cX2_countFrom 53 = .ok (.invokestatic 74, 3) := by decide +kernel
theorem dX2_countFrom_56 : decode cX2_countFrom 56 = .ok (.if_icmp .ge 70, 3) := by decide +kernel
theorem dX2_countFrom_59 : decode cX2_countFrom 59 = .ok (.aload_n 0, 1) := by decide +kernel
theorem dX2_countFrom_60 : decode cX2_countFrom 60 = .ok (.iload_n 2, 1) := by decide +kernel
theorem dX2_countFrom_61 : decode cX2_countFrom 61 = .ok (.iload 4, 2) := by decide +kernel
theorem dX2_countFrom_63 : decode cX2_countFrom 63 = .ok (.invokevirtual 77, 3) := by decide +kernel
theorem dX2_countFrom_66 : decode cX2_countFrom 66 = .ok (.ifCond .eq 9, 3) := by decide +kernel
theorem dX2_countFrom_69 : decode cX2_countFrom 69 = .ok (.iload_n 3, 1) := by decide +kernel
theorem dX2_countFrom_70 : decode cX2_countFrom 70 = .ok (.iconst 1, 1) := by decide +kernel
theorem dX2_countFrom_71 : decode cX2_countFrom 71 = .ok (.iadd, 1) := by decide +kernel
theorem dX2_countFrom_72 : decode cX2_countFrom 72 = .ok (.goto 4, 3) := by decide +kernel
theorem dX2_countFrom_75 : decode cX2_countFrom 75 = .ok (.iconst 0, 1) := by decide +kernel
theorem dX2_countFrom_76 : decode cX2_countFrom 76 = .ok (.istore_n 3, 1) := by decide +kernel
theorem dX2_countFrom_77 : decode cX2_countFrom 77 = .ok (.iload_n 3, 1) := by decide +kernel
theorem dX2_countFrom_78 : decode cX2_countFrom 78 = .ok (.aload_n 0, 1) := by decide +kernel
theorem dX2_countFrom_79 : decode cX2_countFrom 79 = .ok (.getfield 27, 3) := by decide +kernel
theorem dX2_countFrom_82 : decode cX2_countFrom 82 = .ok (.getfield 44, 3) := by decide +kernel
theorem dX2_countFrom_85 : decode cX2_countFrom 85 = .ok (.iload_n 2, 1) := by decide +kernel
theorem dX2_countFrom_86 : decode cX2_countFrom 86 = .ok (.iaload, 1) := by decide +kernel
theorem dX2_countFrom_87 : decode cX2_countFrom 87 = .ok (.if_icmp .lt 33, 3) := by decide +kernel
theorem dX2_countFrom_90 : decode cX2_countFrom 90 = .ok (.aload_n 0, 1) := by decide +kernel
theorem dX2_countFrom_91 : decode cX2_countFrom 91 = .ok (.getfield 51, 3) := by decide +kernel
theorem dX2_countFrom_94 : decode cX2_countFrom 94 = .ok (.sipush 9999, 3) := by decide +kernel
theorem dX2_countFrom_97 : decode cX2_countFrom 97 = .ok (.if_icmp .ge 23, 3) := by decide +kernel
theorem dX2_countFrom_100 : decode cX2_countFrom 100 = .ok (.aload_n 0, 1) := by decide +kernel
theorem dX2_countFrom_101 : decode cX2_countFrom 101 = .ok (.iload_n 2, 1) := by decide +kernel
theorem dX2_countFrom_102 : decode cX2_countFrom 102 = .ok (.iload 4, 2) := by decide +kernel
theorem dX2_countFrom_104 : decode cX2_countFrom 104 = .ok (.iconst 1, 1) := by decide +kernel
theorem dX2_countFrom_105 : decode cX2_countFrom 105 = .ok (.iadd, 1) := by decide +kernel
theorem dX2_countFrom_106 : decode cX2_countFrom 106 = .ok (.aload_n 0, 1) := by decide +kernel
theorem dX2_countFrom_107 : decode cX2_countFrom 107 = .ok (.getfield 27, 3) := by decide +kernel
theorem dX2_countFrom_110 : decode cX2_countFrom 110 = .ok (.getfield 44, 3) := by decide +kernel
theorem dX2_countFrom_113 : decode cX2_countFrom 113 = .ok (.iload_n 2, 1) := by decide +kernel
theorem dX2_countFrom_114 : decode cX2_countFrom 114 = .ok (.iaload, 1) := by decide +kernel
theorem dX2_countFrom_115 : decode cX2_countFrom 115 = .ok (.isub, 1) := by decide +kernel
theorem dX2_countFrom_116 : decode cX2_countFrom 116 = .ok (.iload_n 1, 1) := by decide +kernel
theorem dX2_countFrom_117 : decode cX2_countFrom 117 = .ok (.invokevirtual 81, 3) := by decide +kernel
theorem dX2_countFrom_120 : decode cX2_countFrom 120 = .ok (.iinc 4 1, 3) := by decide +kernel
theorem dX2_countFrom_123 : decode cX2_countFrom 123 = .ok (.goto (-80), 3) := by decide +kernel
theorem dX2_countFrom_126 : decode cX2_countFrom 126 = .ok (.return_, 1) := by decide +kernel
theorem dX2_countWith_0 : decode cX2_countWith 0 = .ok (.aload_n 0, 1) := by decide +kernel
theorem dX2_countWith_1 : decode cX2_countWith 1 = .ok (.iload_n 1, 1) := by decide +kernel
theorem dX2_countWith_2 : decode cX2_countWith 2 = .ok (.iload_n 2, 1) := by decide +kernel
theorem dX2_countWith_3 : decode cX2_countWith 3 = .ok (.aload_n 0, 1) := by decide +kernel
theorem dX2_countWith_4 : decode cX2_countWith 4 = .ok (.getfield 18, 3) := by decide +kernel
theorem dX2_countWith_7 : decode cX2_countWith 7 = .ok (.iload_n 1, 1) := by decide +kernel
theorem dX2_countWith_8 : decode cX2_countWith 8 = .ok (.iaload, 1) := by decide +kernel
theorem dX2_countWith_9 : decode cX2_countWith 9 = .ok (.invokevirtual 85, 3) := by decide +kernel
theorem dX2_countWith_12 : decode cX2_countWith 12 = .ok (.aload_n 0, 1) := by decide +kernel
theorem dX2_countWith_13 : decode cX2_countWith 13 = .ok (.iload_n 3, 1) := by decide +kernel
theorem dX2_countWith_14 : decode cX2_countWith 14 = .ok (.iconst 1, 1) := by decide +kernel
theorem dX2_countWith_15 : decode cX2_countWith 15 = .ok (.iadd, 1) := by decide +kernel
theorem dX2_countWith_16 : decode cX2_countWith 16 = .ok (.invokevirtual 61, 3) := by decide +kernel
theorem dX2_countWith_19 : decode cX2_countWith 19 = .ok (.aload_n 0, 1) := by decide +kernel
theorem dX2_countWith_20 : decode cX2_countWith 20 = .ok (.iload_n 1, 1) := by decide +kernel
theorem dX2_countWith_21 : decode cX2_countWith 21 = .ok (.iload_n 2, 1) := by decide +kernel
theorem dX2_countWith_22 : decode cX2_countWith 22 = .ok (.aload_n 0, 1) := by decide +kernel
theorem dX2_countWith_23 : decode cX2_countWith 23 = .ok (.getfield 18, 3) := by decide +kernel
theorem dX2_countWith_26 : decode cX2_countWith 26 = .ok (.iload_n 1, 1) := by decide +kernel
theorem dX2_countWith_27 : decode cX2_countWith 27 = .ok (.iaload, 1) := by decide +kernel
theorem dX2_countWith_28 : decode cX2_countWith 28 = .ok (.ineg, 1) := by decide +kernel
theorem dX2_countWith_29 : decode cX2_countWith 29 = .ok (.invokevirtual 85, 3) := by decide +kernel
theorem dX2_countWith_32 : decode cX2_countWith 32 = .ok (.return_, 1) := by decide +kernel
theorem dX2_belong_0 : decode cX2_belong 0 = .ok (.iconst 0, 1) := by decide +kernel
theorem dX2_belong_1 : decode cX2_belong 1 = .ok (.istore_n 3, 1) := by decide +kernel
theorem dX2_belong_2 : decode cX2_belong 2 = .ok (.aload_n 1, 1) := by decide +kernel
theorem dX2_belong_3 : decode cX2_belong 3 = .ok (.iload_n 2, 1) := by decide +kernel
theorem dX2_belong_4 : decode cX2_belong 4 = .ok (.iconst 1, 1) := by decide +kernel
theorem dX2_belong_5 : decode cX2_belong 5 = .ok (.invokevirtual 37, 3) := by decide +kernel
theorem dX2_belong_8 : decode cX2_belong 8 = .ok (.aload_n 0, 1) := by decide +kernel
theorem dX2_belong_9 : decode cX2_belong 9 = .ok (.getfield 27, 3) := by decide +kernel
theorem dX2_belong_12 : decode cX2_belong 12 = .ok (.getfield 44, 3) := by decide +kernel
theorem dX2_belong_15 : decode cX2_belong 15 = .ok (.iload_n 2, 1) := by decide +kernel
theorem dX2_belong_16 : decode cX2_belong 16 = .ok (.iaload, 1) := by decide +kernel
theorem dX2_belong_17 : decode cX2_belong 17 = .ok (.isub, 1) := by decide +kernel
theorem dX2_belong_18 : decode cX2_belong 18 = .ok (.istore 4, 2) := by decide +kernel
theorem dX2_belong_20 : decode cX2_belong 20 = .ok (.aload_n 1, 1) := by decide +kernel
theorem dX2_belong_21 : decode cX2_belong 21 = .ok (.iload_n 2, 1) := by decide +kernel
theorem dX2_belong_22 : decode cX2_belong 22 = .ok (.iconst 0, 1) := by decide +kernel
theorem dX2_belong_23 : decode cX2_belong 23 = .ok (.invokevirtual 37, 3) := by decide +kernel
theorem dX2_belong_26 : decode cX2_belong 26 = .ok (.istore 5, 2) := by decide +kernel
theorem dX2_belong_28 : decode cX2_belong 28 = .ok (.iload 5, 2) := by decide +kernel
theorem dX2_belong_30 : decode cX2_belong 30 = .ok (.iload 4, 2) := by decide +kernel
theorem dX2_belong_32 : decode cX2_belong 32 = .ok (.if_icmp .gt 39, 3) := by decide +kernel
theorem dX2_belong_35 : decode cX2_belong 35 = .ok (.aload_n 0, 1) := by decide +kernel
theorem dX2_belong_36 : decode cX2_belong 36 = .ok (.aload_n 1, 1) := by decide +kernel
theorem dX2_belong_37 : decode cX2_belong 37 = .ok (.invokevirtual 47, 3) := by decide +kernel
theorem dX2_belong_40 : decode cX2_belong 40 = .ok (.aload_n 0, 1) := by decide +kernel
theorem dX2_belong_41 : decode cX2_belong 41 = .ok (.iload_n 2, 1) := by decide +kernel
theorem dX2_belong_42 : decode cX2_belong 42 = .ok (.iload 5, 2) := by decide +kernel
theorem dX2_belong_44 : decode cX2_belong 44 = .ok (.invokevirtual 88, 3) := by decide +kernel
theorem dX2_belong_47 : decode cX2_belong 47 = .ok (.iload_n 3, 1) := by decide +kernel
theorem dX2_belong_48 : decode cX2_belong 48 = .ok (.aload_n 0, 1) := by decide +kernel
theorem dX2_belong_49 : decode cX2_belong 49 = .ok (.invokevirtual 54, 3) := by decide +kernel
theorem dX2_belong_52 : decode cX2_belong 52 = .ok (.ifCond .eq 10, 3) := by decide +kernel
theorem dX2_belong_55 : decode cX2_belong 55 = .ok (.iconst 1, 1) := by decide +kernel
theorem dX2_belong_56 : decode cX2_belong 56 = .ok (.iload 5, 2) := by decide +kernel
theorem dX2_belong_58 : decode cX2_belong 58 = .ok (.ishl, 1) := by decide +kernel
theorem dX2_belong_59 : decode cX2_belong 59 = .ok (.goto 4, 3) := by decide +kernel
theorem dX2_belong_62 : decode cX2_belong 62 = .ok (.iconst 0, 1) := by decide +kernel
theorem dX2_belong_63 : decode cX2_belong 63 = .ok (.ior, 1) := by decide +kernel
theorem dX2_belong_64 : decode cX2_belong 64 = .ok (.istore_n 3, 1) := by decide +kernel
theorem dX2_belong_65 : decode cX2_belong 65 = .ok (.iinc 5 1, 3) := by decide +kernel
theorem dX2_belong_68 : decode cX2_belong 68 = .ok (.goto (-40), 3) := by decide +kernel
theorem dX2_belong_71 : decode cX2_belong 71 = .ok (.iload_n 3, 1) := by decide +kernel
theorem dX2_belong_72 : decode cX2_belong 72 = .ok (.ireturn, 1) := by decide +kernel
theorem dX2_firstOf_0 : decode cX2_firstOf 0 = .ok (.aload_n 0, 1) := by decide +kernel
theorem dX2_firstOf_1 : decode cX2_firstOf 1 = .ok (.aload_n 1, 1) := by decide +kernel
theorem dX2_firstOf_2 : decode cX2_firstOf 2 = .ok (.invokevirtual 47, 3) := by decide +kernel
theorem dX2_firstOf_5 : decode cX2_firstOf 5 = .ok (.aload_n 0, 1) := by decide +kernel
theorem dX2_firstOf_6 : decode cX2_firstOf 6 = .ok (.invokevirtual 54, 3) := by decide +kernel
theorem dX2_firstOf_9 : decode cX2_firstOf 9 = .ok (.ifCond .ne 6, 3) := by decide +kernel
theorem dX2_firstOf_12 : decode cX2_firstOf 12 = .ok (.bipush (-9), 2) := by decide +kernel
theorem dX2_firstOf_14 : decode cX2_firstOf 14 = .ok (.ireturn, 1) := by decide +kernel
theorem dX2_firstOf_15 : decode cX2_firstOf 15 = .ok (.iconst 0, 1) := by decide +kernel
theorem dX2_firstOf_16 : decode cX2_firstOf 16 = .ok (.istore_n 3, 1) := by decide +kernel
theorem dX2_firstOf_17 : decode cX2_firstOf 17 = .ok (.iload_n 3, 1) := by decide +kernel
theorem dX2_firstOf_18 : decode cX2_firstOf 18 = .ok (.iload_n 2, 1) := by decide +kernel
theorem dX2_firstOf_19 : decode cX2_firstOf 19 = .ok (.if_icmp .gt 14, 3) := by decide +kernel
theorem dX2_firstOf_22 : decode cX2_firstOf 22 = .ok (.aload_n 0, 1) := by decide +kernel
theorem dX2_firstOf_23 : decode cX2_firstOf 23 = .ok (.iload_n 3, 1) := by decide +kernel
theorem dX2_firstOf_24 : decode cX2_firstOf 24 = .ok (.invokevirtual 92, 3) := by decide +kernel
theorem dX2_firstOf_27 : decode cX2_firstOf 27 = .ok (.iinc 3 1, 3) := by decide +kernel
theorem dX2_firstOf_30 : decode cX2_firstOf 30 = .ok (.goto (-13), 3) := by decide +kernel
theorem dX2_firstOf_33 : decode cX2_firstOf 33 = .ok (.aload_n 0, 1) := by decide +kernel
theorem dX2_firstOf_34 : decode cX2_firstOf 34 = .ok (.getfield 9, 3) := by decide +kernel
theorem dX2_firstOf_37 : decode cX2_firstOf 37 = .ok (.iload_n 2, 1) := by decide +kernel
theorem dX2_firstOf_38 : decode cX2_firstOf 38 = .ok (.iaload, 1) := by decide +kernel
theorem dX2_firstOf_39 : decode cX2_firstOf 39 = .ok (.ireturn, 1) := by decide +kernel
theorem dX2_pinFirst_0 : decode cX2_pinFirst 0 = .ok (.aload_n 0, 1) := by decide +kernel
theorem dX2_pinFirst_1 : decode cX2_pinFirst 1 = .ok (.getfield 15, 3) := by decide +kernel
theorem dX2_pinFirst_4 : decode cX2_pinFirst 4 = .ok (.iload_n 1, 1) := by decide +kernel
theorem dX2_pinFirst_5 : decode cX2_pinFirst 5 = .ok (.iaload, 1) := by decide +kernel
theorem dX2_pinFirst_6 : decode cX2_pinFirst 6 = .ok (.aload_n 0, 1) := by decide +kernel
theorem dX2_pinFirst_7 : decode cX2_pinFirst 7 = .ok (.getfield 27, 3) := by decide +kernel
theorem dX2_pinFirst_10 : decode cX2_pinFirst 10 = .ok (.getfield 44, 3) := by decide +kernel
theorem dX2_pinFirst_13 : decode cX2_pinFirst 13 = .ok (.iload_n 1, 1) := by decide +kernel
theorem dX2_pinFirst_14 : decode cX2_pinFirst 14 = .ok (.iaload, 1) := by decide +kernel
theorem dX2_pinFirst_15 : decode cX2_pinFirst 15 = .ok (.isub, 1) := by decide +kernel
theorem dX2_pinFirst_16 : decode cX2_pinFirst 16 = .ok (.istore_n 2, 1) := by decide +kernel
theorem dX2_pinFirst_17 : decode cX2_pinFirst 17 = .ok (.aload_n 0, 1) := by decide +kernel
theorem dX2_pinFirst_18 : decode cX2_pinFirst 18 = .ok (.getfield 9, 3) := by decide +kernel
theorem dX2_pinFirst_21 : decode cX2_pinFirst 21 = .ok (.iload_n 1, 1) := by decide +kernel
theorem dX2_pinFirst_22 : decode cX2_pinFirst 22 = .ok (.iaload, 1) := by decide +kernel
theorem dX2_pinFirst_23 : decode cX2_pinFirst 23 = .ok (.istore_n 3, 1) := by decide +kernel
theorem dX2_pinFirst_24 : decode cX2_pinFirst 24 = .ok (.iload_n 3, 1) := by decide +kernel
theorem dX2_pinFirst_25 : decode cX2_pinFirst 25 = .ok (.iload_n 2, 1) := by decide +kernel
theorem dX2_pinFirst_26 : decode cX2_pinFirst 26 = .ok (.if_icmp .gt 23, 3) := by decide +kernel
theorem dX2_pinFirst_29 : decode cX2_pinFirst 29 = .ok (.aload_n 0, 1) := by decide +kernel
theorem dX2_pinFirst_30 : decode cX2_pinFirst 30 = .ok (.iload_n 1, 1) := by decide +kernel
theorem dX2_pinFirst_31 : decode cX2_pinFirst 31 = .ok (.iload_n 3, 1) := by decide +kernel
theorem dX2_pinFirst_32 : decode cX2_pinFirst 32 = .ok (.invokevirtual 88, 3) := by decide +kernel
theorem dX2_pinFirst_35 : decode cX2_pinFirst 35 = .ok (.aload_n 0, 1) := by decide +kernel
theorem dX2_pinFirst_36 : decode cX2_pinFirst 36 = .ok (.invokevirtual 54, 3) := by decide +kernel
theorem dX2_pinFirst_39 : decode cX2_pinFirst 39 = .ok (.ifCond .eq 4, 3) := by decide +kernel
theorem dX2_pinFirst_42 : decode cX2_pinFirst 42 = .ok (.return_, 1) := by decide +kernel
theorem dX2_pinFirst_43 : decode cX2_pinFirst 43 = .ok (.iinc 3 1, 3) := by decide +kernel
theorem dX2_pinFirst_46 : decode cX2_pinFirst 46 = .ok (.goto (-22), 3) := by decide +kernel
theorem dX2_pinFirst_49 : decode cX2_pinFirst 49 = .ok (.return_, 1) := by decide +kernel
theorem dX2_shortest_0 : decode cX2_shortest 0 = .ok (.iconst 0, 1) := by decide +kernel
theorem dX2_shortest_1 : decode cX2_shortest 1 = .ok (.istore_n 2, 1) := by decide +kernel
theorem dX2_shortest_2 : decode cX2_shortest 2 = .ok (.iload_n 2, 1) := by decide +kernel
theorem dX2_shortest_3 : decode cX2_shortest 3 = .ok (.bipush 16, 2) := by decide +kernel
theorem dX2_shortest_5 : decode cX2_shortest 5 = .ok (.if_icmp .gt 58, 3) := by decide +kernel
theorem dX2_shortest_8 : decode cX2_shortest 8 = .ok (.aload_n 0, 1) := by decide +kernel
theorem dX2_shortest_9 : decode cX2_shortest 9 = .ok (.aload_n 1, 1) := by decide +kernel
theorem dX2_shortest_10 : decode cX2_shortest 10 = .ok (.invokevirtual 47, 3) := by decide +kernel
theorem dX2_shortest_13 : decode cX2_shortest 13 = .ok (.iconst 0, 1) := by decide +kernel
theorem dX2_shortest_14 : decode cX2_shortest 14 = .ok (.istore_n 3, 1) := by decide +kernel
theorem dX2_shortest_15 : decode cX2_shortest 15 = .ok (.iload_n 3, 1) := by decide +kernel
theorem dX2_shortest_16 : decode cX2_shortest 16 = .ok (.aload_n 0, 1) := by decide +kernel
theorem dX2_shortest_17 : decode cX2_shortest 17 = .ok (.getfield 27, 3) := by decide +kernel
theorem dX2_shortest_20 : decode cX2_shortest 20 = .ok (.getfield 31, 3) := by decide +kernel
theorem dX2_shortest_23 : decode cX2_shortest 23 = .ok (.if_icmp .ge 25, 3) := by decide +kernel
theorem dX2_shortest_26 : decode cX2_shortest 26 = .ok (.aload_n 0, 1) := by decide +kernel
theorem dX2_shortest_27 : decode cX2_shortest 27 = .ok (.getfield 15, 3) := by decide +kernel
theorem dX2_shortest_30 : decode cX2_shortest 30 = .ok (.iload_n 3, 1) := by decide +kernel
theorem dX2_shortest_31 : decode cX2_shortest 31 = .ok (.aload_n 0, 1) := by decide +kernel
theorem dX2_shortest_32 : decode cX2_shortest 32 = .ok (.getfield 15, 3) := by decide +kernel
theorem dX2_shortest_35 : decode cX2_shortest 35 = .ok (.iload_n 3, 1) := by decide +kernel
theorem dX2_shortest_36 : decode cX2_shortest 36 = .ok (.iaload, 1) := by decide +kernel
theorem dX2_shortest_37 : decode cX2_shortest 37 = .ok (.iload_n 2, 1) := by decide +kernel
theorem dX2_shortest_38 : decode cX2_shortest 38 = .ok (.invokestatic 74, 3) := by decide +kernel
theorem dX2_shortest_41 : decode cX2_shortest 41 = .ok (.iastore, 1) := by decide +kernel
theorem dX2_shortest_42 : decode cX2_shortest 42 = .ok (.iinc 3 1, 3) := by decide +kernel
theorem dX2_shortest_45 : decode cX2_shortest 45 = .ok (.goto (-30), 3) := by decide +kernel
theorem dX2_shortest_48 : decode cX2_shortest 48 = .ok (.aload_n 0, 1) := by decide +kernel
theorem dX2_shortest_49 : decode cX2_shortest 49 = .ok (.invokevirtual 54, 3) := by decide +kernel
theorem dX2_shortest_52 : decode cX2_shortest 52 = .ok (.ifCond .eq 5, 3) := by decide +kernel
theorem dX2_shortest_55 : decode cX2_shortest 55 = .ok (.iload_n 2, 1) := by decide +kernel
theorem dX2_shortest_56 : decode cX2_shortest 56 = .ok (.ireturn, 1) := by decide +kernel
theorem dX2_shortest_57 : decode cX2_shortest 57 = .ok (.iinc 2 1, 3) := by decide +kernel
theorem dX2_shortest_60 : decode cX2_shortest 60 = .ok (.goto (-58), 3) := by decide +kernel
theorem dX2_shortest_63 : decode cX2_shortest 63 = .ok (.bipush (-9), 2) := by decide +kernel
theorem dX2_shortest_65 : decode cX2_shortest 65 = .ok (.ireturn, 1) := by decide +kernel
theorem dX2_luckyOf_0 : decode cX2_luckyOf 0 = .ok (.iconst 0, 1) := by decide +kernel
theorem dX2_luckyOf_1 : decode cX2_luckyOf 1 = .ok (.istore_n 3, 1) := by decide +kernel
theorem dX2_luckyOf_2 : decode cX2_luckyOf 2 = .ok (.aload_n 0, 1) := by decide +kernel
theorem dX2_luckyOf_3 : decode cX2_luckyOf 3 = .ok (.aload_n 1, 1) := by decide +kernel
theorem dX2_luckyOf_4 : decode cX2_luckyOf 4 = .ok (.invokevirtual 47, 3) := by decide +kernel
theorem dX2_luckyOf_7 : decode cX2_luckyOf 7 = .ok (.iconst 0, 1) := by decide +kernel
theorem dX2_luckyOf_8 : decode cX2_luckyOf 8 = .ok (.istore 4, 2) := by decide +kernel
theorem dX2_luckyOf_10 : decode cX2_luckyOf 10 = .ok (.iload 4, 2) := by decide +kernel
theorem dX2_luckyOf_12 : decode cX2_luckyOf 12 = .ok (.iconst 1, 1) := by decide +kernel
theorem dX2_luckyOf_13 : decode cX2_luckyOf 13 = .ok (.aload_n 0, 1) := by decide +kernel
theorem dX2_luckyOf_14 : decode cX2_luckyOf 14 = .ok (.getfield 27, 3) := by decide +kernel
theorem dX2_luckyOf_17 : decode cX2_luckyOf 17 = .ok (.getfield 31, 3) := by decide +kernel
theorem dX2_luckyOf_20 : decode cX2_luckyOf 20 = .ok (.ishl, 1) := by decide +kernel
theorem dX2_luckyOf_21 : decode cX2_luckyOf 21 = .ok (.if_icmp .ge 65, 3) := by decide +kernel
theorem dX2_luckyOf_24 : decode cX2_luckyOf 24 = .ok (.iload 4, 2) := by decide +kernel
theorem dX2_luckyOf_26 : decode cX2_luckyOf 26 = .ok (.invokestatic 95, 3) := by decide +kernel
theorem dX2_luckyOf_29 : decode cX2_luckyOf 29 = .ok (.istore 5, 2) := by decide +kernel
theorem dX2_luckyOf_31 : decode cX2_luckyOf 31 = .ok (.iload_n 2, 1) := by decide +kernel
theorem dX2_luckyOf_32 : decode cX2_luckyOf 32 = .ok (.iload 5, 2) := by decide +kernel
theorem dX2_luckyOf_34 : decode cX2_luckyOf 34 = .ok (.invokestatic 100, 3) := by decide +kernel
theorem dX2_luckyOf_37 : decode cX2_luckyOf 37 = .ok (.bipush 10, 2) := by decide +kernel
theorem dX2_luckyOf_39 : decode cX2_luckyOf 39 = .ok (.iload_n 2, 1) := by decide +kernel
theorem dX2_luckyOf_40 : decode cX2_luckyOf 40 = .ok (.isub, 1) := by decide +kernel
theorem dX2_luckyOf_41 : decode cX2_luckyOf 41 = .ok (.aload_n 0, 1) := by decide +kernel
theorem dX2_luckyOf_42 : decode cX2_luckyOf 42 = .ok (.getfield 27, 3) := by decide +kernel
theorem dX2_luckyOf_45 : decode cX2_luckyOf 45 = .ok (.getfield 31, 3) := by decide +kernel
theorem dX2_luckyOf_48 : decode cX2_luckyOf 48 = .ok (.iload 5, 2) := by decide +kernel
theorem dX2_luckyOf_50 : decode cX2_luckyOf 50 = .ok (.isub, 1) := by decide +kernel
theorem dX2_luckyOf_51 : decode cX2_luckyOf 51 = .ok (.invokestatic 100, 3) := by decide +kernel
theorem dX2_luckyOf_54 : decode cX2_luckyOf 54 = .ok (.imul, 1) := by decide +kernel
theorem dX2_luckyOf_55 : decode cX2_luckyOf 55 = .ok (.istore 6, 2) := by decide +kernel
theorem dX2_luckyOf_57 : decode cX2_luckyOf 57 = .ok (.aload_n 0, 1) := by decide +kernel
theorem dX2_luckyOf_58 : decode cX2_luckyOf 58 = .ok (.iload 4, 2) := by decide +kernel
theorem dX2_luckyOf_60 : decode cX2_luckyOf 60 = .ok (.invokevirtual 103, 3) := by decide +kernel
theorem dX2_luckyOf_63 : decode cX2_luckyOf 63 = .ok (.iload 6, 2) := by decide +kernel
theorem dX2_luckyOf_65 : decode cX2_luckyOf 65 = .ok (.ifCond .le 15, 3) := by decide +kernel
theorem dX2_luckyOf_68 : decode cX2_luckyOf 68 = .ok (.aload_n 0, 1) := by decide +kernel
theorem dX2_luckyOf_69 : decode cX2_luckyOf 69 = .ok (.invokevirtual 54, 3) := by decide +kernel
theorem dX2_luckyOf_72 : decode cX2_luckyOf 72 = .ok (.ifCond .eq 8, 3) := by decide +kernel
theorem dX2_luckyOf_75 : decode cX2_luckyOf 75 = .ok (.iload_n 3, 1) := by decide +kernel
theorem dX2_luckyOf_76 : decode cX2_luckyOf 76 = .ok (.iload 6, 2) := by decide +kernel
theorem dX2_luckyOf_78 : decode cX2_luckyOf 78 = .ok (.iadd, 1) := by decide +kernel
theorem dX2_luckyOf_79 : decode cX2_luckyOf 79 = .ok (.istore_n 3, 1) := by decide +kernel
theorem dX2_luckyOf_80 : decode cX2_luckyOf 80 = .ok (.iinc 4 1, 3) := by decide +kernel
theorem dX2_luckyOf_83 : decode cX2_luckyOf 83 = .ok (.goto (-73), 3) := by decide +kernel
theorem dX2_luckyOf_86 : decode cX2_luckyOf 86 = .ok (.iload_n 3, 1) := by decide +kernel
theorem dX2_luckyOf_87 : decode cX2_luckyOf 87 = .ok (.ireturn, 1) := by decide +kernel
theorem dX2_growNeeds_0 : decode cX2_growNeeds 0 = .ok (.iconst 0, 1) := by decide +kernel
theorem dX2_growNeeds_1 : decode cX2_growNeeds 1 = .ok (.istore_n 2, 1) := by decide +kernel
theorem dX2_growNeeds_2 : decode cX2_growNeeds 2 = .ok (.iload_n 2, 1) := by decide +kernel
theorem dX2_growNeeds_3 : decode cX2_growNeeds 3 = .ok (.aload_n 0, 1) := by decide +kernel
theorem dX2_growNeeds_4 : decode cX2_growNeeds 4 = .ok (.getfield 27, 3) := by decide +kernel
theorem dX2_growNeeds_7 : decode cX2_growNeeds 7 = .ok (.getfield 31, 3) := by decide +kernel
theorem dX2_growNeeds_10 : decode cX2_growNeeds 10 = .ok (.if_icmp .ge 40, 3) := by decide +kernel
theorem dX2_growNeeds_13 : decode cX2_growNeeds 13 = .ok (.aload_n 0, 1) := by decide +kernel
theorem dX2_growNeeds_14 : decode cX2_growNeeds 14 = .ok (.getfield 18, 3) := by decide +kernel
theorem dX2_growNeeds_17 : decode cX2_growNeeds 17 = .ok (.iload_n 2, 1) := by decide +kernel
theorem dX2_growNeeds_18 : decode cX2_growNeeds 18 = .ok (.aload_n 0, 1) := by decide +kernel
theorem dX2_growNeeds_19 : decode cX2_growNeeds 19 = .ok (.getfield 27, 3) := by decide +kernel
theorem dX2_growNeeds_22 : decode cX2_growNeeds 22 = .ok (.getfield 106, 3) := by decide +kernel
theorem dX2_growNeeds_25 : decode cX2_growNeeds 25 = .ok (.aload_n 0, 1) := by decide +kernel
theorem dX2_growNeeds_26 : decode cX2_growNeeds 26 = .ok (.getfield 27, 3) := by decide +kernel
theorem dX2_growNeeds_29 : decode cX2_growNeeds 29 = .ok (.getfield 43, 3) := by decide +kernel
theorem dX2_growNeeds_32 : decode cX2_growNeeds 32 = .ok (.iload_n 2, 1) := by decide +kernel
theorem dX2_growNeeds_33 : decode cX2_growNeeds 33 = .ok (.iaload, 1) := by decide +kernel
theorem dX2_growNeeds_34 : decode cX2_growNeeds 34 = .ok (.iload_n 1, 1) := by decide +kernel
theorem dX2_growNeeds_35 : decode cX2_growNeeds 35 = .ok (.iload_n 2, 1) := by decide +kernel
theorem dX2_growNeeds_36 : decode cX2_growNeeds 36 = .ok (.ishr, 1) := by decide +kernel
theorem dX2_growNeeds_37 : decode cX2_growNeeds 37 = .ok (.iconst 1, 1) := by decide +kernel
theorem dX2_growNeeds_38 : decode cX2_growNeeds 38 = .ok (.iand, 1) := by decide +kernel
theorem dX2_growNeeds_39 : decode cX2_growNeeds 39 = .ok (.iadd, 1) := by decide +kernel
theorem dX2_growNeeds_40 : decode cX2_growNeeds 40 = .ok (.invokestatic 74, 3) := by decide +kernel
theorem dX2_growNeeds_43 : decode cX2_growNeeds 43 = .ok (.iastore, 1) := by decide +kernel
theorem dX2_growNeeds_44 : decode cX2_growNeeds 44 = .ok (.iinc 2 1, 3) := by decide +kernel
theorem dX2_growNeeds_47 : decode cX2_growNeeds 47 = .ok (.goto (-45), 3) := by decide +kernel
theorem dX2_growNeeds_50 : decode cX2_growNeeds 50 = .ok (.return_, 1) := by decide +kernel
theorem dX2_isAny_0 : decode cX2_isAny 0 = .ok (.aload_n 0, 1) := by decide +kernel
theorem dX2_isAny_1 : decode cX2_isAny 1 = .ok (.iconst 0, 1) := by decide +kernel
theorem dX2_isAny_2 : decode cX2_isAny 2 = .ok (.iconst 0, 1) := by decide +kernel
theorem dX2_isAny_3 : decode cX2_isAny 3 = .ok (.invokevirtual 109, 3) := by decide +kernel
theorem dX2_isAny_6 : decode cX2_isAny 6 = .ok (.ireturn, 1) := by decide +kernel
theorem dX2_isAnyBeside_0 : decode cX2_isAnyBeside 0 = .ok (.iload_n 2, 1) := by decide +kernel
theorem dX2_isAnyBeside_1 : decode cX2_isAnyBeside 1 = .ok (.aload_n 0, 1) := by decide +kernel
theorem dX2_isAnyBeside_2 : decode cX2_isAnyBeside 2 = .ok (.getfield 27, 3) := by decide +kernel
theorem dX2_isAnyBeside_5 : decode cX2_isAnyBeside 5 = .ok (.getfield 31, 3) := by decide +kernel
theorem dX2_isAnyBeside_8 : decode cX2_isAnyBeside 8 = .ok (.if_icmp .lt 5, 3) := by decide +kernel
theorem dX2_isAnyBeside_11 : decode cX2_isAnyBeside 11 = .ok (.iconst 1, 1) := by decide +kernel
theorem dX2_isAnyBeside_12 : decode cX2_isAnyBeside 12 = .ok (.ireturn, 1) := by decide +kernel
theorem dX2_isAnyBeside_13 : decode cX2_isAnyBeside 13 = .ok (.iconst 0, 1) := by decide +kernel
theorem dX2_isAnyBeside_14 : decode cX2_isAnyBeside 14 = .ok (.istore_n 3, 1) := by decide +kernel
theorem dX2_isAnyBeside_15 : decode cX2_isAnyBeside 15 = .ok (.iload_n 3, 1) := by decide +kernel
theorem dX2_isAnyBeside_16 : decode cX2_isAnyBeside 16 = .ok (.aload_n 0, 1) := by decide +kernel
theorem dX2_isAnyBeside_17 : decode cX2_isAnyBeside 17 = .ok (.getfield 27, 3) := by decide +kernel
theorem dX2_isAnyBeside_20 : decode cX2_isAnyBeside 20 = .ok (.getfield 31, 3) := by decide +kernel
theorem dX2_isAnyBeside_23 : decode cX2_isAnyBeside 23 = .ok (.if_icmp .ge 79, 3) := by decide +kernel
theorem dX2_isAnyBeside_26 : decode cX2_isAnyBeside 26 = .ok (.iload_n 1, 1) := by decide +kernel
theorem dX2_isAnyBeside_27 : decode cX2_isAnyBeside 27 = .ok (.iload_n 3, 1) := by decide +kernel
theorem dX2_isAnyBeside_28 : decode cX2_isAnyBeside 28 = .ok (.ishr, 1) := by decide +kernel
theorem dX2_isAnyBeside_29 : decode cX2_isAnyBeside 29 = .ok (.iconst 1, 1) := by decide +kernel
theorem dX2_isAnyBeside_30 : decode cX2_isAnyBeside 30 = .ok (.iand, 1) := by decide +kernel
theorem dX2_isAnyBeside_31 : decode cX2_isAnyBeside 31 = .ok (.ifCond .ne 65, 3) := by decide +kernel
theorem dX2_isAnyBeside_34 : decode cX2_isAnyBeside 34 = .ok (.aload_n 0, 1) := by decide +kernel
theorem dX2_isAnyBeside_35 : decode cX2_isAnyBeside 35 = .ok (.iload_n 3, 1) := by decide +kernel
theorem dX2_isAnyBeside_36 : decode cX2_isAnyBeside 36 = .ok (.invokevirtual 112, 3) := by decide +kernel
theorem dX2_isAnyBeside_39 : decode cX2_isAnyBeside 39 = .ok (.istore 4, 2) := by decide +kernel
theorem dX2_isAnyBeside_41 : decode cX2_isAnyBeside 41 = .ok (.iload 4, 2) := by decide +kernel
theorem dX2_isAnyBeside_43 : decode cX2_isAnyBeside 43 = .ok (.ifCond .ge 5, 3) := by decide +kernel
theorem dX2_isAnyBeside_46 : decode cX2_isAnyBeside 46 = .ok (.iconst 0, 1) := by decide +kernel
theorem dX2_isAnyBeside_47 : decode cX2_isAnyBeside 47 = .ok (.ireturn, 1) := by decide +kernel
theorem dX2_isAnyBeside_48 : decode cX2_isAnyBeside 48 = .ok (.aload_n 0, 1) := by decide +kernel
theorem dX2_isAnyBeside_49 : decode cX2_isAnyBeside 49 = .ok (.iload_n 3, 1) := by decide +kernel
theorem dX2_isAnyBeside_50 : decode cX2_isAnyBeside 50 = .ok (.iload 4, 2) := by decide +kernel
theorem dX2_isAnyBeside_52 : decode cX2_isAnyBeside 52 = .ok (.aload_n 0, 1) := by decide +kernel
theorem dX2_isAnyBeside_53 : decode cX2_isAnyBeside 53 = .ok (.getfield 18, 3) := by decide +kernel
theorem dX2_isAnyBeside_56 : decode cX2_isAnyBeside 56 = .ok (.iload_n 3, 1) := by decide +kernel
theorem dX2_isAnyBeside_57 : decode cX2_isAnyBeside 57 = .ok (.iaload, 1) := by decide +kernel
theorem dX2_isAnyBeside_58 : decode cX2_isAnyBeside 58 = .ok (.invokevirtual 85, 3) := by decide +kernel
theorem dX2_isAnyBeside_61 : decode cX2_isAnyBeside 61 = .ok (.aload_n 0, 1) := by decide +kernel
theorem dX2_isAnyBeside_62 : decode cX2_isAnyBeside 62 = .ok (.iload_n 1, 1) := by decide +kernel
theorem dX2_isAnyBeside_63 : decode cX2_isAnyBeside 63 = .ok (.iconst 1, 1) := by decide +kernel
theorem dX2_isAnyBeside_64 : decode cX2_isAnyBeside 64 = .ok (.iload_n 3, 1) := by decide +kernel
theorem dX2_isAnyBeside_65 : decode cX2_isAnyBeside 65 = .ok (.ishl, 1) := by decide +kernel
theorem dX2_isAnyBeside_66 : decode cX2_isAnyBeside 66 = .ok (.ior, 1) := by decide +kernel
theorem dX2_isAnyBeside_67 : decode cX2_isAnyBeside 67 = .ok (.iload_n 2, 1) := by decide +kernel
theorem dX2_isAnyBeside_68 : decode cX2_isAnyBeside 68 = .ok (.iconst 1, 1) := by decide +kernel
theorem dX2_isAnyBeside_69 : decode cX2_isAnyBeside 69 = .ok (.iadd, 1) := by decide +kernel
theorem dX2_isAnyBeside_70 : decode cX2_isAnyBeside 70 = .ok (.invokevirtual 109, 3) := by decide +kernel
theorem dX2_isAnyBeside_73 : decode cX2_isAnyBeside 73 = .ok (.istore 5, 2) := by decide +kernel
theorem dX2_isAnyBeside_75 : decode cX2_isAnyBeside 75 = .ok (.aload_n 0, 1) := by decide +kernel
theorem dX2_isAnyBeside_76 : decode cX2_isAnyBeside 76 = .ok (.iload_n 3, 1) := by decide +kernel
theorem dX2_isAnyBeside_77 : decode cX2_isAnyBeside 77 = .ok (.iload 4, 2) := by decide +kernel
theorem dX2_isAnyBeside_79 : decode cX2_isAnyBeside 79 = .ok (.aload_n 0, 1) := by decide +kernel
theorem dX2_isAnyBeside_80 : decode cX2_isAnyBeside 80 = .ok (.getfield 18, 3) := by decide +kernel
theorem dX2_isAnyBeside_83 : decode cX2_isAnyBeside 83 = .ok (.iload_n 3, 1) := by decide +kernel
theorem dX2_isAnyBeside_84 : decode cX2_isAnyBeside 84 = .ok (.iaload, 1) := by decide +kernel
theorem dX2_isAnyBeside_85 : decode cX2_isAnyBeside 85 = .ok (.ineg, 1) := by decide +kernel
theorem dX2_isAnyBeside_86 : decode cX2_isAnyBeside 86 = .ok (.invokevirtual 85, 3) := by decide +kernel
theorem dX2_isAnyBeside_89 : decode cX2_isAnyBeside 89 = .ok (.iload 5, 2) := by decide +kernel
theorem dX2_isAnyBeside_91 : decode cX2_isAnyBeside 91 = .ok (.ifCond .eq 5, 3) := by decide +kernel
theorem dX2_isAnyBeside_94 : decode cX2_isAnyBeside 94 = .ok (.iconst 1, 1) := by decide +kernel
theorem dX2_isAnyBeside_95 : decode cX2_isAnyBeside 95 = .ok (.ireturn, 1) := by decide +kernel
theorem dX2_isAnyBeside_96 : decode cX2_isAnyBeside 96 = .ok (.iinc 3 1, 3) := by decide +kernel
theorem dX2_isAnyBeside_99 : decode cX2_isAnyBeside 99 = .ok (.goto (-84), 3) := by decide +kernel
theorem dX2_isAnyBeside_102 : decode cX2_isAnyBeside 102 = .ok (.iconst 0, 1) := by decide +kernel
theorem dX2_isAnyBeside_103 : decode cX2_isAnyBeside 103 = .ok (.ireturn, 1) := by decide +kernel
theorem dX2_earliestFit_0 : decode cX2_earliestFit 0 = .ok (.iconst 0, 1) := by decide +kernel
theorem dX2_earliestFit_1 : decode cX2_earliestFit 1 = .ok (.istore_n 2, 1) := by decide +kernel
theorem dX2_earliestFit_2 : decode cX2_earliestFit 2 = .ok (.iconst 0, 1) := by decide +kernel
theorem dX2_earliestFit_3 : decode cX2_earliestFit 3 = .ok (.aload_n 0, 1) := by decide +kernel
theorem dX2_earliestFit_4 : decode cX2_earliestFit 4 = .ok (.getfield 9, 3) := by decide +kernel
theorem dX2_earliestFit_7 : decode cX2_earliestFit 7 = .ok (.iload_n 1, 1) := by decide +kernel
theorem dX2_earliestFit_8 : decode cX2_earliestFit 8 = .ok (.iaload, 1) := by decide +kernel
theorem dX2_earliestFit_9 : decode cX2_earliestFit 9 = .ok (.invokestatic 69, 3) := by decide +kernel
theorem dX2_earliestFit_12 : decode cX2_earliestFit 12 = .ok (.istore_n 3, 1) := by decide +kernel
theorem dX2_earliestFit_13 : decode cX2_earliestFit 13 = .ok (.iload_n 3, 1) := by decide +kernel
theorem dX2_earliestFit_14 : decode cX2_earliestFit 14 = .ok (.bipush 16, 2) := by decide +kernel
theorem dX2_earliestFit_16 : decode cX2_earliestFit 16 = .ok (.aload_n 0, 1) := by decide +kernel
theorem dX2_earliestFit_17 : decode cX2_earliestFit 17 = .ok (.getfield 15, 3) := by decide +kernel
theorem dX2_earliestFit_20 : decode cX2_earliestFit 20 = .ok (.iload_n 1, 1) := by decide +kernel
theorem dX2_earliestFit_21 : decode cX2_earliestFit 21 = .ok (.iaload, 1) := by decide +kernel
theorem dX2_earliestFit_22 : decode cX2_earliestFit 22 = .ok (.invokestatic 74, 3) := by decide +kernel
theorem dX2_earliestFit_25 : decode cX2_earliestFit 25 = .ok (.if_icmp .ge 45, 3) := by decide +kernel
theorem dX2_earliestFit_28 : decode cX2_earliestFit 28 = .ok (.aload_n 0, 1) := by decide +kernel
theorem dX2_earliestFit_29 : decode cX2_earliestFit 29 = .ok (.iload_n 1, 1) := by decide +kernel
theorem dX2_earliestFit_30 : decode cX2_earliestFit 30 = .ok (.iload_n 3, 1) := by decide +kernel
theorem dX2_earliestFit_31 : decode cX2_earliestFit 31 = .ok (.invokevirtual 77, 3) := by decide +kernel
theorem dX2_earliestFit_34 : decode cX2_earliestFit 34 = .ok (.ifCond .eq 9, 3) := by decide +kernel
theorem dX2_earliestFit_37 : decode cX2_earliestFit 37 = .ok (.iload_n 2, 1) := by decide +kernel
theorem dX2_earliestFit_38 : decode cX2_earliestFit 38 = .ok (.iconst 1, 1) := by decide +kernel
theorem dX2_earliestFit_39 : decode cX2_earliestFit 39 = .ok (.iadd, 1) := by decide +kernel
theorem dX2_earliestFit_40 : decode cX2_earliestFit 40 = .ok (.goto 4, 3) := by decide +kernel
theorem dX2_earliestFit_43 : decode cX2_earliestFit 43 = .ok (.iconst 0, 1) := by decide +kernel
theorem dX2_earliestFit_44 : decode cX2_earliestFit 44 = .ok (.istore_n 2, 1) := by decide +kernel
theorem dX2_earliestFit_45 : decode cX2_earliestFit 45 = .ok (.iload_n 2, 1) := by decide +kernel
theorem dX2_earliestFit_46 : decode cX2_earliestFit 46 = .ok (.aload_n 0, 1) := by decide +kernel
theorem dX2_earliestFit_47 : decode cX2_earliestFit 47 = .ok (.getfield 27, 3) := by decide +kernel
theorem dX2_earliestFit_50 : decode cX2_earliestFit 50 = .ok (.getfield 44, 3) := by decide +kernel
theorem dX2_earliestFit_53 : decode cX2_earliestFit 53 = .ok (.iload_n 1, 1) := by decide +kernel
theorem dX2_earliestFit_54 : decode cX2_earliestFit 54 = .ok (.iaload, 1) := by decide +kernel
theorem dX2_earliestFit_55 : decode cX2_earliestFit 55 = .ok (.if_icmp .lt 9, 3) := by decide +kernel
theorem dX2_earliestFit_58 : decode cX2_earliestFit 58 = .ok (.iload_n 3, 1) := by decide +kernel
theorem dX2_earliestFit_59 : decode cX2_earliestFit 59 = .ok (.iconst 1, 1) := by decide +kernel
theorem dX2_earliestFit_60 : decode cX2_earliestFit 60 = .ok (.iadd, 1) := by decide +kernel
theorem dX2_earliestFit_61 : decode cX2_earliestFit 61 = .ok (.iload_n 2, 1) := by decide +kernel
theorem dX2_earliestFit_62 : decode cX2_earliestFit 62 = .ok (.isub, 1) := by decide +kernel
theorem dX2_earliestFit_63 : decode cX2_earliestFit 63 = .ok (.ireturn, 1) := by decide +kernel
theorem dX2_earliestFit_64 : decode cX2_earliestFit 64 = .ok (.iinc 3 1, 3) := by decide +kernel
theorem dX2_earliestFit_67 : decode cX2_earliestFit 67 = .ok (.goto (-54), 3) := by decide +kernel
theorem dX2_earliestFit_70 : decode cX2_earliestFit 70 = .ok (.bipush (-9), 2) := by decide +kernel
theorem dX2_earliestFit_72 : decode cX2_earliestFit 72 = .ok (.ireturn, 1) := by decide +kernel
theorem dX2_hasRoom_0 : decode cX2_hasRoom 0 = .ok (.aload_n 0, 1) := by decide +kernel
theorem dX2_hasRoom_1 : decode cX2_hasRoom 1 = .ok (.getfield 24, 3) := by decide +kernel
theorem dX2_hasRoom_4 : decode cX2_hasRoom 4 = .ok (.iload_n 2, 1) := by decide +kernel
theorem dX2_hasRoom_5 : decode cX2_hasRoom 5 = .ok (.iaload, 1) := by decide +kernel
theorem dX2_hasRoom_6 : decode cX2_hasRoom 6 = .ok (.aload_n 0, 1) := by decide +kernel
theorem dX2_hasRoom_7 : decode cX2_hasRoom 7 = .ok (.getfield 18, 3) := by decide +kernel
theorem dX2_hasRoom_10 : decode cX2_hasRoom 10 = .ok (.iload_n 1, 1) := by decide +kernel
theorem dX2_hasRoom_11 : decode cX2_hasRoom 11 = .ok (.iaload, 1) := by decide +kernel
theorem dX2_hasRoom_12 : decode cX2_hasRoom 12 = .ok (.iadd, 1) := by decide +kernel
theorem dX2_hasRoom_13 : decode cX2_hasRoom 13 = .ok (.aload_n 0, 1) := by decide +kernel
theorem dX2_hasRoom_14 : decode cX2_hasRoom 14 = .ok (.getfield 27, 3) := by decide +kernel
theorem dX2_hasRoom_17 : decode cX2_hasRoom 17 = .ok (.getfield 106, 3) := by decide +kernel
theorem dX2_hasRoom_20 : decode cX2_hasRoom 20 = .ok (.if_icmp .gt 7, 3) := by decide +kernel
theorem dX2_hasRoom_23 : decode cX2_hasRoom 23 = .ok (.iconst 1, 1) := by decide +kernel
theorem dX2_hasRoom_24 : decode cX2_hasRoom 24 = .ok (.goto 4, 3) := by decide +kernel
theorem dX2_hasRoom_27 : decode cX2_hasRoom 27 = .ok (.iconst 0, 1) := by decide +kernel
theorem dX2_hasRoom_28 : decode cX2_hasRoom 28 = .ok (.ireturn, 1) := by decide +kernel
theorem dX2_fill_0 : decode cX2_fill 0 = .ok (.iload_n 2, 1) := by decide +kernel
theorem dX2_fill_1 : decode cX2_fill 1 = .ok (.istore 4, 2) := by decide +kernel
theorem dX2_fill_3 : decode cX2_fill 3 = .ok (.iload 4, 2) := by decide +kernel
theorem dX2_fill_5 : decode cX2_fill 5 = .ok (.iload_n 2, 1) := by decide +kernel
theorem dX2_fill_6 : decode cX2_fill 6 = .ok (.aload_n 0, 1) := by decide +kernel
theorem dX2_fill_7 : decode cX2_fill 7 = .ok (.getfield 27, 3) := by decide +kernel
theorem dX2_fill_10 : decode cX2_fill 10 = .ok (.getfield 44, 3) := by decide +kernel
theorem dX2_fill_13 : decode cX2_fill 13 = .ok (.iload_n 1, 1) := by decide +kernel
theorem dX2_fill_14 : decode cX2_fill 14 = .ok (.iaload, 1) := by decide +kernel
theorem dX2_fill_15 : decode cX2_fill 15 = .ok (.iadd, 1) := by decide +kernel
theorem dX2_fill_16 : decode cX2_fill 16 = .ok (.if_icmp .ge 27, 3) := by decide +kernel
theorem dX2_fill_19 : decode cX2_fill 19 = .ok (.iload 4, 2) := by decide +kernel
theorem dX2_fill_21 : decode cX2_fill 21 = .ok (.bipush 16, 2) := by decide +kernel
theorem dX2_fill_23 : decode cX2_fill 23 = .ok (.if_icmp .ge 20, 3) := by decide +kernel
theorem dX2_fill_26 : decode cX2_fill 26 = .ok (.aload_n 0, 1) := by decide +kernel
theorem dX2_fill_27 : decode cX2_fill 27 = .ok (.getfield 24, 3) := by decide +kernel
theorem dX2_fill_30 : decode cX2_fill 30 = .ok (.iload 4, 2) := by decide +kernel
theorem dX2_fill_32 : decode cX2_fill 32 = .ok (.dup2, 1) := by decide +kernel
theorem dX2_fill_33 : decode cX2_fill 33 = .ok (.iaload, 1) := by decide +kernel
theorem dX2_fill_34 : decode cX2_fill 34 = .ok (.iload_n 3, 1) := by decide +kernel
theorem dX2_fill_35 : decode cX2_fill 35 = .ok (.iadd, 1) := by decide +kernel
theorem dX2_fill_36 : decode cX2_fill 36 = .ok (.iastore, 1) := by decide +kernel
theorem dX2_fill_37 : decode cX2_fill 37 = .ok (.iinc 4 1, 3) := by decide +kernel
theorem dX2_fill_40 : decode cX2_fill 40 = .ok (.goto (-37), 3) := by decide +kernel
theorem dX2_fill_43 : decode cX2_fill 43 = .ok (.return_, 1) := by decide +kernel
theorem dX3_init_0 : decode cX3_init 0 = .ok (.aload_n 0, 1) := by decide +kernel
theorem dX3_init_1 : decode cX3_init 1 = .ok (.invokespecial 3, 3) := by decide +kernel
theorem dX3_init_4 : decode cX3_init 4 = .ok (.aload_n 0, 1) := by decide +kernel
theorem dX3_init_5 : decode cX3_init 5 = .ok (.iconst 5, 1) := by decide +kernel
theorem dX3_init_6 : decode cX3_init 6 = .ok (.newarray .int, 2) := by decide +kernel
theorem dX3_init_8 : decode cX3_init 8 = .ok (.putfield 9, 3) := by decide +kernel
theorem dX3_init_11 : decode cX3_init 11 = .ok (.aload_n 0, 1) := by decide +kernel
theorem dX3_init_12 : decode cX3_init 12 = .ok (.iconst 5, 1) := by decide +kernel
theorem dX3_init_13 : decode cX3_init 13 = .ok (.newarray .int, 2) := by decide +kernel
theorem dX3_init_15 : decode cX3_init 15 = .ok (.putfield 15, 3) := by decide +kernel
theorem dX3_init_18 : decode cX3_init 18 = .ok (.aload_n 0, 1) := by decide +kernel
theorem dX3_init_19 : decode cX3_init 19 = .ok (.iconst 5, 1) := by decide +kernel
theorem dX3_init_20 : decode cX3_init 20 = .ok (.newarray .int, 2) := by decide +kernel
theorem dX3_init_22 : decode cX3_init 22 = .ok (.putfield 18, 3) := by decide +kernel
theorem dX3_init_25 : decode cX3_init 25 = .ok (.aload_n 0, 1) := by decide +kernel
theorem dX3_init_26 : decode cX3_init 26 = .ok (.iconst 5, 1) := by decide +kernel
theorem dX3_init_27 : decode cX3_init 27 = .ok (.newarray .int, 2) := by decide +kernel
theorem dX3_init_29 : decode cX3_init 29 = .ok (.putfield 21, 3) := by decide +kernel
theorem dX3_init_32 : decode cX3_init 32 = .ok (.aload_n 0, 1) := by decide +kernel
theorem dX3_init_33 : decode cX3_init 33 = .ok (.bipush 32, 2) := by decide +kernel
theorem dX3_init_35 : decode cX3_init 35 = .ok (.newarray .int, 2) := by decide +kernel
theorem dX3_init_37 : decode cX3_init 37 = .ok (.putfield 24, 3) := by decide +kernel
theorem dX3_init_40 : decode cX3_init 40 = .ok (.aload_n 0, 1) := by decide +kernel
theorem dX3_init_41 : decode cX3_init 41 = .ok (.bipush 32, 2) := by decide +kernel
theorem dX3_init_43 : decode cX3_init 43 = .ok (.newarray .int, 2) := by decide +kernel
theorem dX3_init_45 : decode cX3_init 45 = .ok (.putfield 27, 3) := by decide +kernel
theorem dX3_init_48 : decode cX3_init 48 = .ok (.aload_n 0, 1) := by decide +kernel
theorem dX3_init_49 : decode cX3_init 49 = .ok (.bipush 32, 2) := by decide +kernel
theorem dX3_init_51 : decode cX3_init 51 = .ok (.newarray .int, 2) := by decide +kernel
theorem dX3_init_53 : decode cX3_init 53 = .ok (.putfield 30, 3) := by decide +kernel
theorem dX3_init_56 : decode cX3_init 56 = .ok (.aload_n 0, 1) := by decide +kernel
theorem dX3_init_57 : decode cX3_init 57 = .ok (.bipush 32, 2) := by decide +kernel
theorem dX3_init_59 : decode cX3_init 59 = .ok (.newarray .int, 2) := by decide +kernel
theorem dX3_init_61 : decode cX3_init 61 = .ok (.putfield 33, 3) := by decide +kernel
theorem dX3_init_64 : decode cX3_init 64 = .ok (.aload_n 0, 1) := by decide +kernel
theorem dX3_init_65 : decode cX3_init 65 = .ok (.aload_n 1, 1) := by decide +kernel
theorem dX3_init_66 : decode cX3_init 66 = .ok (.putfield 36, 3) := by decide +kernel
theorem dX3_init_69 : decode cX3_init 69 = .ok (.aload_n 0, 1) := by decide +kernel
theorem dX3_init_70 : decode cX3_init 70 = .ok (.getfield 24, 3) := by decide +kernel
theorem dX3_init_73 : decode cX3_init 73 = .ok (.iconst 0, 1) := by decide +kernel
theorem dX3_init_74 : decode cX3_init 74 = .ok (.sipush 1000, 3) := by decide +kernel
theorem dX3_init_77 : decode cX3_init 77 = .ok (.iastore, 1) := by decide +kernel
theorem dX3_init_78 : decode cX3_init 78 = .ok (.aload_n 0, 1) := by decide +kernel
theorem dX3_init_79 : decode cX3_init 79 = .ok (.getfield 27, 3) := by decide +kernel
theorem dX3_init_82 : decode cX3_init 82 = .ok (.iconst 0, 1) := by decide +kernel
theorem dX3_init_83 : decode cX3_init 83 = .ok (.sipush (-1000), 3) := by decide +kernel
theorem dX3_init_86 : decode cX3_init 86 = .ok (.iastore, 1) := by decide +kernel
theorem dX3_init_87 : decode cX3_init 87 = .ok (.aload_n 0, 1) := by decide +kernel
theorem dX3_init_88 : decode cX3_init 88 = .ok (.getfield 30, 3) := by decide +kernel
theorem dX3_init_91 : decode cX3_init 91 = .ok (.iconst 0, 1) := by decide +kernel
theorem dX3_init_92 : decode cX3_init 92 = .ok (.sipush 1000, 3) := by decide +kernel
theorem dX3_init_95 : decode cX3_init 95 = .ok (.iastore, 1) := by decide +kernel
theorem dX3_init_96 : decode cX3_init 96 = .ok (.return_, 1) := by decide +kernel
theorem dX3_look_0 : decode cX3_look 0 = .ok (.iconst 0, 1) := by decide +kernel
theorem dX3_look_1 : decode cX3_look 1 = .ok (.istore_n 3, 1) := by decide +kernel
theorem dX3_look_2 : decode cX3_look 2 = .ok (.iload_n 3, 1) := by decide +kernel
theorem dX3_look_3 : decode cX3_look 3 = .ok (.aload_n 0, 1) := by decide +kernel
theorem dX3_look_4 : decode cX3_look 4 = .ok (.getfield 36, 3) := by decide +kernel
theorem dX3_look_7 : decode cX3_look 7 = .ok (.getfield 40, 3) := by decide +kernel
theorem dX3_look_10 : decode cX3_look 10 = .ok (.if_icmp .ge 133, 3) := by decide +kernel
theorem dX3_look_13 : decode cX3_look 13 = .ok (.aload_n 0, 1) := by decide +kernel
theorem dX3_look_14 : decode cX3_look 14 = .ok (.getfield 9, 3) := by decide +kernel
theorem dX3_look_17 : decode cX3_look 17 = .ok (.iload_n 3, 1) := by decide +kernel
theorem dX3_look_18 : decode cX3_look 18 = .ok (.iload_n 2, 1) := by decide +kernel
theorem dX3_look_19 : decode cX3_look 19 = .ok (.ifCond .ne 12, 3) := by decide +kernel
theorem dX3_look_22 : decode cX3_look 22 = .ok (.aload_n 1, 1) := by decide +kernel
theorem dX3_look_23 : decode cX3_look 23 = .ok (.iload_n 3, 1) := by decide +kernel
theorem dX3_look_24 : decode cX3_look 24 = .ok (.iconst 0, 1) := by decide +kernel
theorem dX3_look_25 : decode cX3_look 25 = .ok (.invokevirtual 46, 3) := by decide +kernel
theorem dX3_look_28 : decode cX3_look 28 = .ok (.goto 12, 3) := by decide +kernel
theorem dX3_look_31 : decode cX3_look 31 = .ok (.bipush 16, 2) := by decide +kernel
theorem dX3_look_33 : decode cX3_look 33 = .ok (.aload_n 1, 1) := by decide +kernel
theorem dX3_look_34 : decode cX3_look 34 = .ok (.iload_n 3, 1) := by decide +kernel
theorem dX3_look_35 : decode cX3_look 35 = .ok (.iconst 1, 1) := by decide +kernel
theorem dX3_look_36 : decode cX3_look 36 = .ok (.invokevirtual 46, 3) := by decide +kernel
theorem dX3_look_39 : decode cX3_look 39 = .ok (.isub, 1) := by decide +kernel
theorem dX3_look_40 : decode cX3_look 40 = .ok (.iastore, 1) := by decide +kernel
theorem dX3_look_41 : decode cX3_look 41 = .ok (.aload_n 0, 1) := by decide +kernel
theorem dX3_look_42 : decode cX3_look 42 = .ok (.getfield 15, 3) := by decide +kernel
theorem dX3_look_45 : decode cX3_look 45 = .ok (.iload_n 3, 1) := by decide +kernel
theorem dX3_look_46 : decode cX3_look 46 = .ok (.iload_n 2, 1) := by decide +kernel
theorem dX3_look_47 : decode cX3_look 47 = .ok (.ifCond .ne 12, 3) := by decide +kernel
theorem dX3_look_50 : decode cX3_look 50 = .ok (.aload_n 1, 1) := by decide +kernel
theorem dX3_look_51 : decode cX3_look 51 = .ok (.iload_n 3, 1) := by decide +kernel
theorem dX3_look_52 : decode cX3_look 52 = .ok (.iconst 1, 1) := by decide +kernel
theorem dX3_look_53 : decode cX3_look 53 = .ok (.invokevirtual 46, 3) := by decide +kernel
theorem dX3_look_56 : decode cX3_look 56 = .ok (.goto 12, 3) := by decide +kernel
theorem dX3_look_59 : decode cX3_look 59 = .ok (.bipush 16, 2) := by decide +kernel
theorem dX3_look_61 : decode cX3_look 61 = .ok (.aload_n 1, 1) := by decide +kernel
theorem dX3_look_62 : decode cX3_look 62 = .ok (.iload_n 3, 1) := by decide +kernel
theorem dX3_look_63 : decode cX3_look 63 = .ok (.iconst 0, 1) := by decide +kernel
theorem dX3_look_64 : decode cX3_look 64 = .ok (.invokevirtual 46, 3) := by decide +kernel
theorem dX3_look_67 : decode cX3_look 67 = .ok (.isub, 1) := by decide +kernel
theorem dX3_look_68 : decode cX3_look 68 = .ok (.iastore, 1) := by decide +kernel
theorem dX3_look_69 : decode cX3_look 69 = .ok (.aload_n 0, 1) := by decide +kernel
theorem dX3_look_70 : decode cX3_look 70 = .ok (.getfield 18, 3) := by decide +kernel
theorem dX3_look_73 : decode cX3_look 73 = .ok (.iload_n 3, 1) := by decide +kernel
theorem dX3_look_74 : decode cX3_look 74 = .ok (.aload_n 0, 1) := by decide +kernel
theorem dX3_look_75 : decode cX3_look 75 = .ok (.getfield 9, 3) := by decide +kernel
theorem dX3_look_78 : decode cX3_look 78 = .ok (.iload_n 3, 1) := by decide +kernel
theorem dX3_look_79 : decode cX3_look 79 = .ok (.iaload, 1) := by decide +kernel
theorem dX3_look_80 : decode cX3_look 80 = .ok (.aload_n 0, 1) := by decide +kernel
theorem dX3_look_81 : decode cX3_look 81 = .ok (.getfield 36, 3) := by decide +kernel
theorem dX3_look_84 : decode cX3_look 84 = .ok (.getfield 52, 3) := by decide +kernel
theorem dX3_look_87 : decode cX3_look 87 = .ok (.iload_n 3, 1) := by decide +kernel
theorem dX3_look_88 : decode cX3_look 88 = .ok (.iaload, 1) := by decide +kernel
theorem dX3_look_89 : decode cX3_look 89 = .ok (.iadd, 1) := by decide +kernel
theorem dX3_look_90 : decode cX3_look 90 = .ok (.iastore, 1) := by decide +kernel
theorem dX3_look_91 : decode cX3_look 91 = .ok (.aload_n 0, 1) := by decide +kernel
theorem dX3_look_92 : decode cX3_look 92 = .ok (.getfield 21, 3) := by decide +kernel
theorem dX3_look_95 : decode cX3_look 95 = .ok (.iload_n 3, 1) := by decide +kernel
theorem dX3_look_96 : decode cX3_look 96 = .ok (.aload_n 0, 1) := by decide +kernel
theorem dX3_look_97 : decode cX3_look 97 = .ok (.getfield 15, 3) := by decide +kernel
theorem dX3_look_100 : decode cX3_look 100 = .ok (.iload_n 3, 1) := by decide +kernel
theorem dX3_look_101 : decode cX3_look 101 = .ok (.iaload, 1) := by decide +kernel
theorem dX3_look_102 : decode cX3_look 102 = .ok (.aload_n 0, 1) := by decide +kernel
theorem dX3_look_103 : decode cX3_look 103 = .ok (.getfield 36, 3) := by decide +kernel
theorem dX3_look_106 : decode cX3_look 106 = .ok (.getfield 52, 3) := by decide +kernel
theorem dX3_look_109 : decode cX3_look 109 = .ok (.iload_n 3, 1) := by decide +kernel
theorem dX3_look_110 : decode cX3_look 110 = .ok (.iaload, 1) := by decide +kernel
theorem dX3_look_111 : decode cX3_look 111 = .ok (.isub, 1) := by decide +kernel
theorem dX3_look_112 : decode cX3_look 112 = .ok (.iastore, 1) := by decide +kernel
theorem dX3_look_113 : decode cX3_look 113 = .ok (.iconst 0, 1) := by decide +kernel
theorem dX3_look_114 : decode cX3_look 114 = .ok (.istore 4, 2) := by decide +kernel
theorem dX3_look_116 : decode cX3_look 116 = .ok (.iload 4, 2) := by decide +kernel
theorem dX3_look_118 : decode cX3_look 118 = .ok (.iconst 1, 1) := by decide +kernel
theorem dX3_look_119 : decode cX3_look 119 = .ok (.iload_n 3, 1) := by decide +kernel
theorem dX3_look_120 : decode cX3_look 120 = .ok (.ishl, 1) := by decide +kernel
theorem dX3_look_121 : decode cX3_look 121 = .ok (.if_icmp .ge 16, 3) := by decide +kernel
theorem dX3_look_124 : decode cX3_look 124 = .ok (.aload_n 0, 1) := by decide +kernel
theorem dX3_look_125 : decode cX3_look 125 = .ok (.iload 4, 2) := by decide +kernel
theorem dX3_look_127 : decode cX3_look 127 = .ok (.iload_n 3, 1) := by decide +kernel
theorem dX3_look_128 : decode cX3_look 128 = .ok (.invokevirtual 55, 3) := by decide +kernel
theorem dX3_look_131 : decode cX3_look 131 = .ok (.iinc 4 1, 3) := by decide +kernel
theorem dX3_look_134 : decode cX3_look 134 = .ok (.goto (-18), 3) := by decide +kernel
theorem dX3_look_137 : decode cX3_look 137 = .ok (.iinc 3 1, 3) := by decide +kernel
theorem dX3_look_140 : decode cX3_look 140 = .ok (.goto (-138), 3) := by decide +kernel
theorem dX3_look_143 : decode cX3_look 143 = .ok (.return_, 1) := by decide +kernel
theorem dX3_sumUp_0 : decode cX3_sumUp 0 = .ok (.iload_n 1, 1) := by decide +kernel
theorem dX3_sumUp_1 : decode cX3_sumUp 1 = .ok (.iconst 1, 1) := by decide +kernel
theorem dX3_sumUp_2 : decode cX3_sumUp 2 = .ok (.iload_n 2, 1) := by decide +kernel
theorem dX3_sumUp_3 : decode cX3_sumUp 3 = .ok (.ishl, 1) := by decide +kernel
theorem dX3_sumUp_4 : decode cX3_sumUp 4 = .ok (.ior, 1) := by decide +kernel
theorem dX3_sumUp_5 : decode cX3_sumUp 5 = .ok (.istore_n 3, 1) := by decide +kernel
theorem dX3_sumUp_6 : decode cX3_sumUp 6 = .ok (.aload_n 0, 1) := by decide +kernel
theorem dX3_sumUp_7 : decode cX3_sumUp 7 = .ok (.getfield 24, 3) := by decide +kernel
theorem dX3_sumUp_10 : decode cX3_sumUp 10 = .ok (.iload_n 3, 1) := by decide +kernel
theorem dX3_sumUp_11 : decode cX3_sumUp 11 = .ok (.aload_n 0, 1) := by decide +kernel
theorem dX3_sumUp_12 : decode cX3_sumUp 12 = .ok (.getfield 24, 3) := by decide +kernel
theorem dX3_sumUp_15 : decode cX3_sumUp 15 = .ok (.iload_n 1, 1) := by decide +kernel
theorem dX3_sumUp_16 : decode cX3_sumUp 16 = .ok (.iaload, 1) := by decide +kernel
theorem dX3_sumUp_17 : decode cX3_sumUp 17 = .ok (.aload_n 0, 1) := by decide +kernel
theorem dX3_sumUp_18 : decode cX3_sumUp 18 = .ok (.getfield 9, 3) := by decide +kernel
theorem dX3_sumUp_21 : decode cX3_sumUp 21 = .ok (.iload_n 2, 1) := by decide +kernel
theorem dX3_sumUp_22 : decode cX3_sumUp 22 = .ok (.iaload, 1) := by decide +kernel
theorem dX3_sumUp_23 : decode cX3_sumUp 23 = .ok (.invokestatic 59, 3) := by decide +kernel
theorem dX3_sumUp_26 : decode cX3_sumUp 26 = .ok (.iastore, 1) := by decide +kernel
theorem dX3_sumUp_27 : decode cX3_sumUp 27 = .ok (.aload_n 0, 1) := by decide +kernel
theorem dX3_sumUp_28 : decode cX3_sumUp 28 = .ok (.getfield 27, 3) := by decide +kernel
theorem dX3_sumUp_31 : decode cX3_sumUp 31 = .ok (.iload_n 3, 1) := by decide +kernel
theorem dX3_sumUp_32 : decode cX3_sumUp 32 = .ok (.aload_n 0, 1) := by decide +kernel
theorem dX3_sumUp_33 : decode cX3_sumUp 33 = .ok (.getfield 27, 3) := by decide +kernel
theorem dX3_sumUp_36 : decode cX3_sumUp 36 = .ok (.iload_n 1, 1) := by decide +kernel
theorem dX3_sumUp_37 : decode cX3_sumUp 37 = .ok (.iaload, 1) := by decide +kernel
theorem dX3_sumUp_38 : decode cX3_sumUp 38 = .ok (.aload_n 0, 1) := by decide +kernel
theorem dX3_sumUp_39 : decode cX3_sumUp 39 = .ok (.getfield 15, 3) := by decide +kernel
theorem dX3_sumUp_42 : decode cX3_sumUp 42 = .ok (.iload_n 2, 1) := by decide +kernel
theorem dX3_sumUp_43 : decode cX3_sumUp 43 = .ok (.iaload, 1) := by decide +kernel
theorem dX3_sumUp_44 : decode cX3_sumUp 44 = .ok (.invokestatic 64, 3) := by decide +kernel
theorem dX3_sumUp_47 : decode cX3_sumUp 47 = .ok (.iastore, 1) := by decide +kernel
theorem dX3_sumUp_48 : decode cX3_sumUp 48 = .ok (.aload_n 0, 1) := by decide +kernel
theorem dX3_sumUp_49 : decode cX3_sumUp 49 = .ok (.getfield 30, 3) := by decide +kernel
theorem dX3_sumUp_52 : decode cX3_sumUp 52 = .ok (.iload_n 3, 1) := by decide +kernel
theorem dX3_sumUp_53 : decode cX3_sumUp 53 = .ok (.aload_n 0, 1) := by decide +kernel
theorem dX3_sumUp_54 : decode cX3_sumUp 54 = .ok (.getfield 30, 3) := by decide +kernel
theorem dX3_sumUp_57 : decode cX3_sumUp 57 = .ok (.iload_n 1, 1) := by decide +kernel
theorem dX3_sumUp_58 : decode cX3_sumUp 58 = .ok (.iaload, 1) := by decide +kernel
theorem dX3_sumUp_59 : decode cX3_sumUp 59 = .ok (.aload_n 0, 1) := by decide +kernel
theorem dX3_sumUp_60 : decode cX3_sumUp 60 = .ok (.getfield 18, 3) := by decide +kernel
theorem dX3_sumUp_63 : decode cX3_sumUp 63 = .ok (.iload_n 2, 1) := by decide +kernel
theorem dX3_sumUp_64 : decode cX3_sumUp 64 = .ok (.iaload, 1) := by decide +kernel
theorem dX3_sumUp_65 : decode cX3_sumUp 65 = .ok (.invokestatic 59, 3) := by decide +kernel
theorem dX3_sumUp_68 : decode cX3_sumUp 68 = .ok (.iastore, 1) := by decide +kernel
theorem dX3_sumUp_69 : decode cX3_sumUp 69 = .ok (.aload_n 0, 1) := by decide +kernel
theorem dX3_sumUp_70 : decode cX3_sumUp 70 = .ok (.getfield 33, 3) := by decide +kernel
theorem dX3_sumUp_73 : decode cX3_sumUp 73 = .ok (.iload_n 3, 1) := by decide +kernel
theorem dX3_sumUp_74 : decode cX3_sumUp 74 = .ok (.aload_n 0, 1) := by decide +kernel
theorem dX3_sumUp_75 : decode cX3_sumUp 75 = .ok (.getfield 33, 3) := by decide +kernel
theorem dX3_sumUp_78 : decode cX3_sumUp 78 = .ok (.iload_n 1, 1) := by decide +kernel
theorem dX3_sumUp_79 : decode cX3_sumUp 79 = .ok (.iaload, 1) := by decide +kernel
theorem dX3_sumUp_80 : decode cX3_sumUp 80 = .ok (.aload_n 0, 1) := by decide +kernel
theorem dX3_sumUp_81 : decode cX3_sumUp 81 = .ok (.getfield 36, 3) := by decide +kernel
theorem dX3_sumUp_84 : decode cX3_sumUp 84 = .ok (.iload_n 2, 1) := by decide +kernel
theorem dX3_sumUp_85 : decode cX3_sumUp 85 = .ok (.invokevirtual 67, 3) := by decide +kernel
theorem dX3_sumUp_88 : decode cX3_sumUp 88 = .ok (.iadd, 1) := by decide +kernel
theorem dX3_sumUp_89 : decode cX3_sumUp 89 = .ok (.iastore, 1) := by decide +kernel
theorem dX3_sumUp_90 : decode cX3_sumUp 90 = .ok (.return_, 1) := by decide +kernel
theorem dX3_surely_0 : decode cX3_surely 0 = .ok (.iconst 0, 1) := by decide +kernel
theorem dX3_surely_1 : decode cX3_surely 1 = .ok (.istore_n 3, 1) := by decide +kernel
theorem dX3_surely_2 : decode cX3_surely 2 = .ok (.iconst 0, 1) := by decide +kernel
theorem dX3_surely_3 : decode cX3_surely 3 = .ok (.istore 4, 2) := by decide +kernel
theorem dX3_surely_5 : decode cX3_surely 5 = .ok (.iload 4, 2) := by decide +kernel
theorem dX3_surely_7 : decode cX3_surely 7 = .ok (.aload_n 0, 1) := by decide +kernel
theorem dX3_surely_8 : decode cX3_surely 8 = .ok (.getfield 36, 3) := by decide +kernel
theorem dX3_surely_11 : decode cX3_surely 11 = .ok (.getfield 40, 3) := by decide +kernel
theorem dX3_surely_14 : decode cX3_surely 14 = .ok (.if_icmp .ge 50, 3) := by decide +kernel
theorem dX3_surely_17 : decode cX3_surely 17 = .ok (.iload 4, 2) := by decide +kernel
theorem dX3_surely_19 : decode cX3_surely 19 = .ok (.iload_n 2, 1) := by decide +kernel
theorem dX3_surely_20 : decode cX3_surely 20 = .ok (.if_icmp .eq 38, 3) := by decide +kernel
theorem dX3_surely_23 : decode cX3_surely 23 = .ok (.aload_n 0, 1) := by decide +kernel
theorem dX3_surely_24 : decode cX3_surely 24 = .ok (.getfield 21, 3) := by decide +kernel
theorem dX3_surely_27 : decode cX3_surely 27 = .ok (.iload 4, 2) := by decide +kernel
theorem dX3_surely_29 : decode cX3_surely 29 = .ok (.iaload, 1) := by decide +kernel
theorem dX3_surely_30 : decode cX3_surely 30 = .ok (.iload_n 1, 1) := by decide +kernel
theorem dX3_surely_31 : decode cX3_surely 31 = .ok (.if_icmp .gt 27, 3) := by decide +kernel
theorem dX3_surely_34 : decode cX3_surely 34 = .ok (.iload_n 1, 1) := by decide +kernel
theorem dX3_surely_35 : decode cX3_surely 35 = .ok (.aload_n 0, 1) := by decide +kernel
theorem dX3_surely_36 : decode cX3_surely 36 = .ok (.getfield 18, 3) := by decide +kernel
theorem dX3_surely_39 : decode cX3_surely 39 = .ok (.iload 4, 2) := by decide +kernel
theorem dX3_surely_41 : decode cX3_surely 41 = .ok (.iaload, 1) := by decide +kernel
theorem dX3_surely_42 : decode cX3_surely 42 = .ok (.if_icmp .ge 16, 3) := by decide +kernel
theorem dX3_surely_45 : decode cX3_surely 45 = .ok (.iload_n 3, 1) := by decide +kernel
theorem dX3_surely_46 : decode cX3_surely 46 = .ok (.aload_n 0, 1) := by decide +kernel
theorem dX3_surely_47 : decode cX3_surely 47 = .ok (.getfield 36, 3) := by decide +kernel
theorem dX3_surely_50 : decode cX3_surely 50 = .ok (.getfield 71, 3) := by decide +kernel
theorem dX3_surely_53 : decode cX3_surely 53 = .ok (.iload 4, 2) := by decide +kernel
theorem dX3_surely_55 : decode cX3_surely 55 = .ok (.iaload, 1) := by decide +kernel
theorem dX3_surely_56 : decode cX3_surely 56 = .ok (.iadd, 1) := by decide +kernel
theorem dX3_surely_57 : decode cX3_surely 57 = .ok (.istore_n 3, 1) := by decide +kernel
theorem dX3_surely_58 : decode cX3_surely 58 = .ok (.iinc 4 1, 3) := by decide +kernel
theorem dX3_surely_61 : decode cX3_surely 61 = .ok (.goto (-56), 3) := by decide +kernel
theorem dX3_surely_64 : decode cX3_surely 64 = .ok (.iload_n 3, 1) := by decide +kernel
theorem dX3_surely_65 : decode cX3_surely 65 = .ok (.ireturn, 1) := by decide +kernel
theorem dX3_mostLeft_0 : decode cX3_mostLeft 0 = .ok (.aload_n 0, 1) := by decide +kernel
theorem dX3_mostLeft_1 : decode cX3_mostLeft 1 = .ok (.getfield 36, 3) := by decide +kernel
theorem dX3_mostLeft_4 : decode cX3_mostLeft 4 = .ok (.getfield 52, 3) := by decide +kernel
theorem dX3_mostLeft_7 : decode cX3_mostLeft 7 = .ok (.iload_n 1, 1) := by decide +kernel
theorem dX3_mostLeft_8 : decode cX3_mostLeft 8 = .ok (.iaload, 1) := by decide +kernel
theorem dX3_mostLeft_9 : decode cX3_mostLeft 9 = .ok (.iload_n 3, 1) := by decide +kernel
theorem dX3_mostLeft_10 : decode cX3_mostLeft 10 = .ok (.iload_n 2, 1) := by decide +kernel
theorem dX3_mostLeft_11 : decode cX3_mostLeft 11 = .ok (.isub, 1) := by decide +kernel
theorem dX3_mostLeft_12 : decode cX3_mostLeft 12 = .ok (.invokestatic 59, 3) := by decide +kernel
theorem dX3_mostLeft_15 : decode cX3_mostLeft 15 = .ok (.aload_n 0, 1) := by decide +kernel
theorem dX3_mostLeft_16 : decode cX3_mostLeft 16 = .ok (.getfield 18, 3) := by decide +kernel
theorem dX3_mostLeft_19 : decode cX3_mostLeft 19 = .ok (.iload_n 1, 1) := by decide +kernel
theorem dX3_mostLeft_20 : decode cX3_mostLeft 20 = .ok (.iaload, 1) := by decide +kernel
theorem dX3_mostLeft_21 : decode cX3_mostLeft 21 = .ok (.iload_n 2, 1) := by decide +kernel
theorem dX3_mostLeft_22 : decode cX3_mostLeft 22 = .ok (.isub, 1) := by decide +kernel
theorem dX3_mostLeft_23 : decode cX3_mostLeft 23 = .ok (.invokestatic 59, 3) := by decide +kernel
theorem dX3_mostLeft_26 : decode cX3_mostLeft 26 = .ok (.istore 4, 2) := by decide +kernel
theorem dX3_mostLeft_28 : decode cX3_mostLeft 28 = .ok (.aload_n 0, 1) := by decide +kernel
theorem dX3_mostLeft_29 : decode cX3_mostLeft 29 = .ok (.getfield 36, 3) := by decide +kernel
theorem dX3_mostLeft_32 : decode cX3_mostLeft 32 = .ok (.getfield 71, 3) := by decide +kernel
theorem dX3_mostLeft_35 : decode cX3_mostLeft 35 = .ok (.iload_n 1, 1) := by decide +kernel
theorem dX3_mostLeft_36 : decode cX3_mostLeft 36 = .ok (.iaload, 1) := by decide +kernel
theorem dX3_mostLeft_37 : decode cX3_mostLeft 37 = .ok (.iconst 0, 1) := by decide +kernel
theorem dX3_mostLeft_38 : decode cX3_mostLeft 38 = .ok (.iload 4, 2) := by decide +kernel
theorem dX3_mostLeft_40 : decode cX3_mostLeft 40 = .ok (.invokestatic 64, 3) := by decide +kernel
theorem dX3_mostLeft_43 : decode cX3_mostLeft 43 = .ok (.imul, 1) := by decide +kernel
theorem dX3_mostLeft_44 : decode cX3_mostLeft 44 = .ok (.ireturn, 1) := by decide +kernel
theorem dX3_least_0 : decode cX3_least 0 = .ok (.aload_n 0, 1) := by decide +kernel
theorem dX3_least_1 : decode cX3_least 1 = .ok (.getfield 36, 3) := by decide +kernel
theorem dX3_least_4 : decode cX3_least 4 = .ok (.getfield 52, 3) := by decide +kernel
theorem dX3_least_7 : decode cX3_least 7 = .ok (.iload_n 1, 1) := by decide +kernel
theorem dX3_least_8 : decode cX3_least 8 = .ok (.iaload, 1) := by decide +kernel
theorem dX3_least_9 : decode cX3_least 9 = .ok (.iload_n 3, 1) := by decide +kernel
theorem dX3_least_10 : decode cX3_least 10 = .ok (.iload_n 2, 1) := by decide +kernel
theorem dX3_least_11 : decode cX3_least 11 = .ok (.isub, 1) := by decide +kernel
theorem dX3_least_12 : decode cX3_least 12 = .ok (.invokestatic 59, 3) := by decide +kernel
theorem dX3_least_15 : decode cX3_least 15 = .ok (.aload_n 0, 1) := by decide +kernel
theorem dX3_least_16 : decode cX3_least 16 = .ok (.getfield 18, 3) := by decide +kernel
theorem dX3_least_19 : decode cX3_least 19 = .ok (.iload_n 1, 1) := by decide +kernel
theorem dX3_least_20 : decode cX3_least 20 = .ok (.iaload, 1) := by decide +kernel
theorem dX3_least_21 : decode cX3_least 21 = .ok (.iload_n 2, 1) := by decide +kernel
theorem dX3_least_22 : decode cX3_least 22 = .ok (.isub, 1) := by decide +kernel
theorem dX3_least_23 : decode cX3_least 23 = .ok (.iload_n 3, 1) := by decide +kernel
theorem dX3_least_24 : decode cX3_least 24 = .ok (.aload_n 0, 1) := by decide +kernel
theorem dX3_least_25 : decode cX3_least 25 = .ok (.getfield 21, 3) := by decide +kernel
theorem dX3_least_28 : decode cX3_least 28 = .ok (.iload_n 1, 1) := by decide +kernel
theorem dX3_least_29 : decode cX3_least 29 = .ok (.iaload, 1) := by decide +kernel
theorem dX3_least_30 : decode cX3_least 30 = .ok (.isub, 1) := by decide +kernel
theorem dX3_least_31 : decode cX3_least 31 = .ok (.invokestatic 59, 3) := by decide +kernel
theorem dX3_least_34 : decode cX3_least 34 = .ok (.invokestatic 59, 3) := by decide +kernel
theorem dX3_least_37 : decode cX3_least 37 = .ok (.istore 4, 2) := by decide +kernel
theorem dX3_least_39 : decode cX3_least 39 = .ok (.aload_n 0, 1) := by decide +kernel
theorem dX3_least_40 : decode cX3_least 40 = .ok (.getfield 36, 3) := by decide +kernel
theorem dX3_least_43 : decode cX3_least 43 = .ok (.getfield 71, 3) := by decide +kernel
theorem dX3_least_46 : decode cX3_least 46 = .ok (.iload_n 1, 1) := by decide +kernel
theorem dX3_least_47 : decode cX3_least 47 = .ok (.iaload, 1) := by decide +kernel
theorem dX3_least_48 : decode cX3_least 48 = .ok (.iconst 0, 1) := by decide +kernel
theorem dX3_least_49 : decode cX3_least 49 = .ok (.iload 4, 2) := by decide +kernel
theorem dX3_least_51 : decode cX3_least 51 = .ok (.invokestatic 64, 3) := by decide +kernel
theorem dX3_least_54 : decode cX3_least 54 = .ok (.imul, 1) := by decide +kernel
theorem dX3_least_55 : decode cX3_least 55 = .ok (.ireturn, 1) := by decide +kernel
theorem dX3_free_0 : decode cX3_free 0 = .ok (.aload_n 0, 1) := by decide +kernel
theorem dX3_free_1 : decode cX3_free 1 = .ok (.getfield 36, 3) := by decide +kernel
theorem dX3_free_4 : decode cX3_free 4 = .ok (.getfield 74, 3) := by decide +kernel
theorem dX3_free_7 : decode cX3_free 7 = .ok (.iload_n 3, 1) := by decide +kernel
theorem dX3_free_8 : decode cX3_free 8 = .ok (.iload_n 2, 1) := by decide +kernel
theorem dX3_free_9 : decode cX3_free 9 = .ok (.isub, 1) := by decide +kernel
theorem dX3_free_10 : decode cX3_free 10 = .ok (.imul, 1) := by decide +kernel
theorem dX3_free_11 : decode cX3_free 11 = .ok (.istore 4, 2) := by decide +kernel
theorem dX3_free_13 : decode cX3_free 13 = .ok (.iconst 0, 1) := by decide +kernel
theorem dX3_free_14 : decode cX3_free 14 = .ok (.istore 5, 2) := by decide +kernel
theorem dX3_free_16 : decode cX3_free 16 = .ok (.iload 5, 2) := by decide +kernel
theorem dX3_free_18 : decode cX3_free 18 = .ok (.aload_n 0, 1) := by decide +kernel
theorem dX3_free_19 : decode cX3_free 19 = .ok (.getfield 36, 3) := by decide +kernel
theorem dX3_free_22 : decode cX3_free 22 = .ok (.getfield 40, 3) := by decide +kernel
theorem dX3_free_25 : decode cX3_free 25 = .ok (.if_icmp .ge 32, 3) := by decide +kernel
theorem dX3_free_28 : decode cX3_free 28 = .ok (.iload 4, 2) := by decide +kernel
theorem dX3_free_30 : decode cX3_free 30 = .ok (.iload 5, 2) := by decide +kernel
theorem dX3_free_32 : decode cX3_free 32 = .ok (.iload_n 1, 1) := by decide +kernel
theorem dX3_free_33 : decode cX3_free 33 = .ok (.if_icmp .ne 7, 3) := by decide +kernel
theorem dX3_free_36 : decode cX3_free 36 = .ok (.iconst 0, 1) := by decide +kernel
theorem dX3_free_37 : decode cX3_free 37 = .ok (.goto 11, 3) := by decide +kernel
theorem dX3_free_40 : decode cX3_free 40 = .ok (.aload_n 0, 1) := by decide +kernel
theorem dX3_free_41 : decode cX3_free 41 = .ok (.iload 5, 2) := by decide +kernel
theorem dX3_free_43 : decode cX3_free 43 = .ok (.iload_n 2, 1) := by decide +kernel
theorem dX3_free_44 : decode cX3_free 44 = .ok (.iload_n 3, 1) := by decide +kernel
theorem dX3_free_45 : decode cX3_free 45 = .ok (.invokevirtual 77, 3) := by decide +kernel
theorem dX3_free_48 : decode cX3_free 48 = .ok (.isub, 1) := by decide +kernel
theorem dX3_free_49 : decode cX3_free 49 = .ok (.istore 4, 2) := by decide +kernel
theorem dX3_free_51 : decode cX3_free 51 = .ok (.iinc 5 1, 3) := by decide +kernel
theorem dX3_free_54 : decode cX3_free 54 = .ok (.goto (-38), 3) := by decide +kernel
theorem dX3_free_57 : decode cX3_free 57 = .ok (.iload 4, 2) := by decide +kernel
theorem dX3_free_59 : decode cX3_free 59 = .ok (.ireturn, 1) := by decide +kernel
theorem dX3_heaviest_0 : decode cX3_heaviest 0 = .ok (.bipush (-9), 2) := by decide +kernel
theorem dX3_heaviest_2 : decode cX3_heaviest 2 = .ok (.istore_n 1, 1) := by decide +kernel
theorem dX3_heaviest_3 : decode cX3_heaviest 3 = .ok (.iconst 0, 1) := by decide +kernel
theorem dX3_heaviest_4 : decode cX3_heaviest 4 = .ok (.istore_n 2, 1) := by decide +kernel
theorem dX3_heaviest_5 : decode cX3_heaviest 5 = .ok (.iconst 0, 1) := by decide +kernel
theorem dX3_heaviest_6 : decode cX3_heaviest 6 = .ok (.istore_n 3, 1) := by decide +kernel
theorem dX3_heaviest_7 : decode cX3_heaviest 7 = .ok (.iload_n 3, 1) := by decide +kernel
theorem dX3_heaviest_8 : decode cX3_heaviest 8 = .ok (.bipush 16, 2) := by decide +kernel
theorem dX3_heaviest_10 : decode cX3_heaviest 10 = .ok (.if_icmp .ge 55, 3) := by decide +kernel
theorem dX3_heaviest_13 : decode cX3_heaviest 13 = .ok (.iload_n 3, 1) := by decide +kernel
theorem dX3_heaviest_14 : decode cX3_heaviest 14 = .ok (.iconst 1, 1) := by decide +kernel
theorem dX3_heaviest_15 : decode cX3_heaviest 15 = .ok (.iadd, 1) := by decide +kernel
theorem dX3_heaviest_16 : decode cX3_heaviest 16 = .ok (.istore 4, 2) := by decide +kernel
theorem dX3_heaviest_18 : decode cX3_heaviest 18 = .ok (.iload 4, 2) := by decide +kernel
theorem dX3_heaviest_20 : decode cX3_heaviest 20 = .ok (.bipush 16, 2) := by decide +kernel
theorem dX3_heaviest_22 : decode cX3_heaviest 22 = .ok (.if_icmp .gt 37, 3) := by decide +kernel
theorem dX3_heaviest_25 : decode cX3_heaviest 25 = .ok (.aload_n 0, 1) := by decide +kernel
theorem dX3_heaviest_26 : decode cX3_heaviest 26 = .ok (.bipush (-9), 2) := by decide +kernel
theorem dX3_heaviest_28 : decode cX3_heaviest 28 = .ok (.iload_n 3, 1) := by decide +kernel
theorem dX3_heaviest_29 : decode cX3_heaviest 29 = .ok (.iload 4, 2) := by decide +kernel
theorem dX3_heaviest_31 : decode cX3_heaviest 31 = .ok (.invokevirtual 81, 3) := by decide +kernel
theorem dX3_heaviest_34 : decode cX3_heaviest 34 = .ok (.istore 5, 2) := by decide +kernel
theorem dX3_heaviest_36 : decode cX3_heaviest 36 = .ok (.iload 5, 2) := by decide +kernel
theorem dX3_heaviest_38 : decode cX3_heaviest 38 = .ok (.iload_n 2, 1) := by decide +kernel
theorem dX3_heaviest_39 : decode cX3_heaviest 39 = .ok (.if_icmp .ge 14, 3) := by decide +kernel
theorem dX3_heaviest_42 : decode cX3_heaviest 42 = .ok (.iload 5, 2) := by decide +kernel
theorem dX3_heaviest_44 : decode cX3_heaviest 44 = .ok (.istore_n 2, 1) := by decide +kernel
theorem dX3_heaviest_45 : decode cX3_heaviest 45 = .ok (.bipush 100, 2) := by decide +kernel
theorem dX3_heaviest_47 : decode cX3_heaviest 47 = .ok (.iload_n 3, 1) := by decide +kernel
theorem dX3_heaviest_48 : decode cX3_heaviest 48 = .ok (.imul, 1) := by decide +kernel
theorem dX3_heaviest_49 : decode cX3_heaviest 49 = .ok (.iload 4, 2) := by decide +kernel
theorem dX3_heaviest_51 : decode cX3_heaviest 51 = .ok (.iadd, 1) := by decide +kernel
theorem dX3_heaviest_52 : decode cX3_heaviest 52 = .ok (.istore_n 1, 1) := by decide +kernel
theorem dX3_heaviest_53 : decode cX3_heaviest 53 = .ok (.iinc 4 1, 3) := by decide +kernel
theorem dX3_heaviest_56 : decode cX3_heaviest 56 = .ok (.goto (-38), 3) := by decide +kernel
theorem dX3_heaviest_59 : decode cX3_heaviest 59 = .ok (.iinc 3 1, 3) := by decide +kernel
theorem dX3_heaviest_62 : decode cX3_heaviest 62 = .ok (.goto (-55), 3) := by decide +kernel
theorem dX3_heaviest_65 : decode cX3_heaviest 65 = .ok (.iload_n 1, 1) := by decide +kernel
theorem dX3_heaviest_66 : decode cX3_heaviest 66 = .ok (.ireturn, 1) := by decide +kernel
theorem dX3_wrapOf_0 : decode cX3_wrapOf 0 = .ok (.iconst 0, 1) := by decide +kernel
theorem dX3_wrapOf_1 : decode cX3_wrapOf 1 = .ok (.istore_n 2, 1) := by decide +kernel
theorem dX3_wrapOf_2 : decode cX3_wrapOf 2 = .ok (.iload_n 1, 1) := by decide +kernel
theorem dX3_wrapOf_3 : decode cX3_wrapOf 3 = .ok (.istore_n 3, 1) := by decide +kernel
theorem dX3_wrapOf_4 : decode cX3_wrapOf 4 = .ok (.iload_n 3, 1) := by decide +kernel
theorem dX3_wrapOf_5 : decode cX3_wrapOf 5 = .ok (.ifCond .le 38, 3) := by decide +kernel
theorem dX3_wrapOf_8 : decode cX3_wrapOf 8 = .ok (.iload_n 2, 1) := by decide +kernel
theorem dX3_wrapOf_9 : decode cX3_wrapOf 9 = .ok (.aload_n 0, 1) := by decide +kernel
theorem dX3_wrapOf_10 : decode cX3_wrapOf 10 = .ok (.getfield 36, 3) := by decide +kernel
theorem dX3_wrapOf_13 : decode cX3_wrapOf 13 = .ok (.getfield 74, 3) := by decide +kernel
theorem dX3_wrapOf_16 : decode cX3_wrapOf 16 = .ok (.aload_n 0, 1) := by decide +kernel
theorem dX3_wrapOf_17 : decode cX3_wrapOf 17 = .ok (.getfield 24, 3) := by decide +kernel
theorem dX3_wrapOf_20 : decode cX3_wrapOf 20 = .ok (.iload_n 3, 1) := by decide +kernel
theorem dX3_wrapOf_21 : decode cX3_wrapOf 21 = .ok (.iaload, 1) := by decide +kernel
theorem dX3_wrapOf_22 : decode cX3_wrapOf 22 = .ok (.imul, 1) := by decide +kernel
theorem dX3_wrapOf_23 : decode cX3_wrapOf 23 = .ok (.aload_n 0, 1) := by decide +kernel
theorem dX3_wrapOf_24 : decode cX3_wrapOf 24 = .ok (.getfield 33, 3) := by decide +kernel
theorem dX3_wrapOf_27 : decode cX3_wrapOf 27 = .ok (.iload_n 3, 1) := by decide +kernel
theorem dX3_wrapOf_28 : decode cX3_wrapOf 28 = .ok (.iaload, 1) := by decide +kernel
theorem dX3_wrapOf_29 : decode cX3_wrapOf 29 = .ok (.iadd, 1) := by decide +kernel
theorem dX3_wrapOf_30 : decode cX3_wrapOf 30 = .ok (.invokestatic 64, 3) := by decide +kernel
theorem dX3_wrapOf_33 : decode cX3_wrapOf 33 = .ok (.istore_n 2, 1) := by decide +kernel
theorem dX3_wrapOf_34 : decode cX3_wrapOf 34 = .ok (.iload_n 3, 1) := by decide +kernel
theorem dX3_wrapOf_35 : decode cX3_wrapOf 35 = .ok (.iconst 1, 1) := by decide +kernel
theorem dX3_wrapOf_36 : decode cX3_wrapOf 36 = .ok (.isub, 1) := by decide +kernel
theorem dX3_wrapOf_37 : decode cX3_wrapOf 37 = .ok (.iload_n 1, 1) := by decide +kernel
theorem dX3_wrapOf_38 : decode cX3_wrapOf 38 = .ok (.iand, 1) := by decide +kernel
theorem dX3_wrapOf_39 : decode cX3_wrapOf 39 = .ok (.istore_n 3, 1) := by decide +kernel
theorem dX3_wrapOf_40 : decode cX3_wrapOf 40 = .ok (.goto (-36), 3) := by decide +kernel
theorem dX3_wrapOf_43 : decode cX3_wrapOf 43 = .ok (.iload_n 2, 1) := by decide +kernel
theorem dX3_wrapOf_44 : decode cX3_wrapOf 44 = .ok (.ireturn, 1) := by decide +kernel
theorem dX3_greyest_0 : decode cX3_greyest 0 = .ok (.iconst 0, 1) := by decide +kernel
theorem dX3_greyest_1 : decode cX3_greyest 1 = .ok (.istore_n 3, 1) := by decide +kernel
theorem dX3_greyest_2 : decode cX3_greyest 2 = .ok (.iconst (-1), 1) := by decide +kernel
theorem dX3_greyest_3 : decode cX3_greyest 3 = .ok (.istore 4, 2) := by decide +kernel
theorem dX3_greyest_5 : decode cX3_greyest 5 = .ok (.iconst 0, 1) := by decide +kernel
theorem dX3_greyest_6 : decode cX3_greyest 6 = .ok (.istore 5, 2) := by decide +kernel
theorem dX3_greyest_8 : decode cX3_greyest 8 = .ok (.iload 5, 2) := by decide +kernel
theorem dX3_greyest_10 : decode cX3_greyest 10 = .ok (.aload_n 0, 1) := by decide +kernel
theorem dX3_greyest_11 : decode cX3_greyest 11 = .ok (.getfield 36, 3) := by decide +kernel
theorem dX3_greyest_14 : decode cX3_greyest 14 = .ok (.getfield 40, 3) := by decide +kernel
theorem dX3_greyest_17 : decode cX3_greyest 17 = .ok (.if_icmp .ge 49, 3) := by decide +kernel
theorem dX3_greyest_20 : decode cX3_greyest 20 = .ok (.iload_n 2, 1) := by decide +kernel
theorem dX3_greyest_21 : decode cX3_greyest 21 = .ok (.iload 5, 2) := by decide +kernel
theorem dX3_greyest_23 : decode cX3_greyest 23 = .ok (.ishr, 1) := by decide +kernel
theorem dX3_greyest_24 : decode cX3_greyest 24 = .ok (.iconst 1, 1) := by decide +kernel
theorem dX3_greyest_25 : decode cX3_greyest 25 = .ok (.iand, 1) := by decide +kernel
theorem dX3_greyest_26 : decode cX3_greyest 26 = .ok (.iconst 1, 1) := by decide +kernel
theorem dX3_greyest_27 : decode cX3_greyest 27 = .ok (.if_icmp .ne 33, 3) := by decide +kernel
theorem dX3_greyest_30 : decode cX3_greyest 30 = .ok (.aload_n 0, 1) := by decide +kernel
theorem dX3_greyest_31 : decode cX3_greyest 31 = .ok (.iload_n 1, 1) := by decide +kernel
theorem dX3_greyest_32 : decode cX3_greyest 32 = .ok (.iconst 1, 1) := by decide +kernel
theorem dX3_greyest_33 : decode cX3_greyest 33 = .ok (.iload 5, 2) := by decide +kernel
theorem dX3_greyest_35 : decode cX3_greyest 35 = .ok (.ishl, 1) := by decide +kernel
theorem dX3_greyest_36 : decode cX3_greyest 36 = .ok (.ior, 1) := by decide +kernel
theorem dX3_greyest_37 : decode cX3_greyest 37 = .ok (.invokevirtual 84, 3) := by decide +kernel
theorem dX3_greyest_40 : decode cX3_greyest 40 = .ok (.iload 4, 2) := by decide +kernel
theorem dX3_greyest_42 : decode cX3_greyest 42 = .ok (.if_icmp .le 18, 3) := by decide +kernel
theorem dX3_greyest_45 : decode cX3_greyest 45 = .ok (.aload_n 0, 1) := by decide +kernel
theorem dX3_greyest_46 : decode cX3_greyest 46 = .ok (.iload_n 1, 1) := by decide +kernel
theorem dX3_greyest_47 : decode cX3_greyest 47 = .ok (.iconst 1, 1) := by decide +kernel
theorem dX3_greyest_48 : decode cX3_greyest 48 = .ok (.iload 5, 2) := by decide +kernel
theorem dX3_greyest_50 : decode cX3_greyest 50 = .ok (.ishl, 1) := by decide +kernel
theorem dX3_greyest_51 : decode cX3_greyest 51 = .ok (.ior, 1) := by decide +kernel
theorem dX3_greyest_52 : decode cX3_greyest 52 = .ok (.invokevirtual 84, 3) := by decide +kernel
theorem dX3_greyest_55 : decode cX3_greyest 55 = .ok (.istore 4, 2) := by decide +kernel
theorem dX3_greyest_57 : decode cX3_greyest 57 = .ok (.iload 5, 2) := by decide +kernel
theorem dX3_greyest_59 : decode cX3_greyest 59 = .ok (.istore_n 3, 1) := by decide +kernel
theorem dX3_greyest_60 : decode cX3_greyest 60 = .ok (.iinc 5 1, 3) := by decide +kernel
theorem dX3_greyest_63 : decode cX3_greyest 63 = .ok (.goto (-55), 3) := by decide +kernel
theorem dX3_greyest_66 : decode cX3_greyest 66 = .ok (.iload_n 3, 1) := by decide +kernel
theorem dX3_greyest_67 : decode cX3_greyest 67 = .ok (.ireturn, 1) := by decide +kernel
theorem dX4_init_0 : decode cX4_init 0 = .ok (.aload_n 0, 1) := by decide +kernel
theorem dX4_init_1 : decode cX4_init 1 = .ok (.invokespecial 3, 3) := by decide +kernel
theorem dX4_init_4 : decode cX4_init 4 = .ok (.aload_n 0, 1) := by decide +kernel
theorem dX4_init_5 : decode cX4_init 5 = .ok (.iconst 3, 1) := by decide +kernel
theorem dX4_init_6 : decode cX4_init 6 = .ok (.putfield 9, 3) := by decide +kernel
theorem dX4_init_9 : decode cX4_init 9 = .ok (.aload_n 0, 1) := by decide +kernel
theorem dX4_init_10 : decode cX4_init 10 = .ok (.iconst 5, 1) := by decide +kernel
theorem dX4_init_11 : decode cX4_init 11 = .ok (.newarray .int, 2) := by decide +kernel
theorem dX4_init_13 : decode cX4_init 13 = .ok (.putfield 15, 3) := by decide +kernel
theorem dX4_init_16 : decode cX4_init 16 = .ok (.aload_n 0, 1) := by decide +kernel
theorem dX4_init_17 : decode cX4_init 17 = .ok (.iconst 5, 1) := by decide +kernel
theorem dX4_init_18 : decode cX4_init 18 = .ok (.newarray .int, 2) := by decide +kernel
theorem dX4_init_20 : decode cX4_init 20 = .ok (.putfield 19, 3) := by decide +kernel
theorem dX4_init_23 : decode cX4_init 23 = .ok (.return_, 1) := by decide +kernel
theorem dX4_forget_0 : decode cX4_forget 0 = .ok (.aload_n 0, 1) := by decide +kernel
theorem dX4_forget_1 : decode cX4_forget 1 = .ok (.iconst 3, 1) := by decide +kernel
theorem dX4_forget_2 : decode cX4_forget 2 = .ok (.putfield 9, 3) := by decide +kernel
theorem dX4_forget_5 : decode cX4_forget 5 = .ok (.aload_n 0, 1) := by decide +kernel
theorem dX4_forget_6 : decode cX4_forget 6 = .ok (.iconst 0, 1) := by decide +kernel
theorem dX4_forget_7 : decode cX4_forget 7 = .ok (.putfield 22, 3) := by decide +kernel
theorem dX4_forget_10 : decode cX4_forget 10 = .ok (.return_, 1) := by decide +kernel
theorem dX4_add_0 : decode cX4_add 0 = .ok (.aload_n 0, 1) := by decide +kernel
theorem dX4_add_1 : decode cX4_add 1 = .ok (.getfield 22, 3) := by decide +kernel
theorem dX4_add_4 : decode cX4_add 4 = .ok (.iconst 5, 1) := by decide +kernel
theorem dX4_add_5 : decode cX4_add 5 = .ok (.if_icmp .ge 33, 3) := by decide +kernel
theorem dX4_add_8 : decode cX4_add 8 = .ok (.aload_n 0, 1) := by decide +kernel
theorem dX4_add_9 : decode cX4_add 9 = .ok (.getfield 15, 3) := by decide +kernel
theorem dX4_add_12 : decode cX4_add 12 = .ok (.aload_n 0, 1) := by decide +kernel
theorem dX4_add_13 : decode cX4_add 13 = .ok (.getfield 22, 3) := by decide +kernel
theorem dX4_add_16 : decode cX4_add 16 = .ok (.iload_n 1, 1) := by decide +kernel
theorem dX4_add_17 : decode cX4_add 17 = .ok (.iastore, 1) := by decide +kernel
theorem dX4_add_18 : decode cX4_add 18 = .ok (.aload_n 0, 1) := by decide +kernel
theorem dX4_add_19 : decode cX4_add 19 = .ok (.getfield 19, 3) := by decide +kernel
theorem dX4_add_22 : decode cX4_add 22 = .ok (.aload_n 0, 1) := by decide +kernel
theorem dX4_add_23 : decode cX4_add 23 = .ok (.getfield 22, 3) := by decide +kernel
theorem dX4_add_26 : decode cX4_add 26 = .ok (.iload_n 2, 1) := by decide +kernel
theorem dX4_add_27 : decode cX4_add 27 = .ok (.iastore, 1) := by decide +kernel
theorem dX4_add_28 : decode cX4_add 28 = .ok (.aload_n 0, 1) := by decide +kernel
theorem dX4_add_29 : decode cX4_add 29 = .ok (.dup, 1) := by decide +kernel
theorem dX4_add_30 : decode cX4_add 30 = .ok (.getfield 22, 3) := by decide +kernel
theorem dX4_add_33 : decode cX4_add 33 = .ok (.iconst 1, 1) := by decide +kernel
theorem dX4_add_34 : decode cX4_add 34 = .ok (.iadd, 1) := by decide +kernel
theorem dX4_add_35 : decode cX4_add 35 = .ok (.putfield 22, 3) := by decide +kernel
theorem dX4_add_38 : decode cX4_add 38 = .ok (.return_, 1) := by decide +kernel
theorem dX4_take_0 : decode cX4_take 0 = .ok (.aload_n 0, 1) := by decide +kernel
theorem dX4_take_1 : decode cX4_take 1 = .ok (.aload_n 1, 1) := by decide +kernel
theorem dX4_take_2 : decode cX4_take 2 = .ok (.getfield 9, 3) := by decide +kernel
theorem dX4_take_5 : decode cX4_take 5 = .ok (.putfield 9, 3) := by decide +kernel
theorem dX4_take_8 : decode cX4_take 8 = .ok (.aload_n 0, 1) := by decide +kernel
theorem dX4_take_9 : decode cX4_take 9 = .ok (.aload_n 1, 1) := by decide +kernel
theorem dX4_take_10 : decode cX4_take 10 = .ok (.getfield 22, 3) := by decide +kernel
theorem dX4_take_13 : decode cX4_take 13 = .ok (.putfield 22, 3) := by decide +kernel
theorem dX4_take_16 : decode cX4_take 16 = .ok (.iconst 0, 1) := by decide +kernel
theorem dX4_take_17 : decode cX4_take 17 = .ok (.istore_n 2, 1) := by decide +kernel
theorem dX4_take_18 : decode cX4_take 18 = .ok (.iload_n 2, 1) := by decide +kernel
theorem dX4_take_19 : decode cX4_take 19 = .ok (.iconst 5, 1) := by decide +kernel
theorem dX4_take_20 : decode cX4_take 20 = .ok (.if_icmp .ge 33, 3) := by decide +kernel
theorem dX4_take_23 : decode cX4_take 23 = .ok (.aload_n 0, 1) := by decide +kernel
theorem dX4_take_24 : decode cX4_take 24 = .ok (.getfield 15, 3) := by decide +kernel
theorem dX4_take_27 : decode cX4_take 27 = .ok (.iload_n 2, 1) := by decide +kernel
theorem dX4_take_28 : decode cX4_take 28 = .ok (.aload_n 1, 1) := by decide +kernel
theorem dX4_take_29 : decode cX4_take 29 = .ok (.getfield 15, 3) := by decide +kernel
theorem dX4_take_32 : decode cX4_take 32 = .ok (.iload_n 2, 1) := by decide +kernel
theorem dX4_take_33 : decode cX4_take 33 = .ok (.iaload, 1) := by decide +kernel
theorem dX4_take_34 : decode cX4_take 34 = .ok (.iastore, 1) := by decide +kernel
theorem dX4_take_35 : decode cX4_take 35 = .ok (.aload_n 0, 1) := by decide +kernel
theorem dX4_take_36 : decode cX4_take 36 = .ok (.getfield 19, 3) := by decide +kernel
theorem dX4_take_39 : decode cX4_take 39 = .ok (.iload_n 2, 1) := by decide +kernel
theorem dX4_take_40 : decode cX4_take 40 = .ok (.aload_n 1, 1) := by decide +kernel
theorem dX4_take_41 : decode cX4_take 41 = .ok (.getfield 19, 3) := by decide +kernel
theorem dX4_take_44 : decode cX4_take 44 = .ok (.iload_n 2, 1) := by decide +kernel
theorem dX4_take_45 : decode cX4_take 45 = .ok (.iaload, 1) := by decide +kernel
theorem dX4_take_46 : decode cX4_take 46 = .ok (.iastore, 1) := by decide +kernel
theorem dX4_take_47 : decode cX4_take 47 = .ok (.iinc 2 1, 3) := by decide +kernel
theorem dX4_take_50 : decode cX4_take 50 = .ok (.goto (-32), 3) := by decide +kernel
theorem dX4_take_53 : decode cX4_take 53 = .ok (.return_, 1) := by decide +kernel
theorem dX4_has_0 : decode cX4_has 0 = .ok (.iload_n 1, 1) := by decide +kernel
theorem dX4_has_1 : decode cX4_has 1 = .ok (.ifCond .lt 15, 3) := by decide +kernel
theorem dX4_has_4 : decode cX4_has 4 = .ok (.iload_n 1, 1) := by decide +kernel
theorem dX4_has_5 : decode cX4_has 5 = .ok (.aload_n 0, 1) := by decide +kernel
theorem dX4_has_6 : decode cX4_has 6 = .ok (.getfield 22, 3) := by decide +kernel
theorem dX4_has_9 : decode cX4_has 9 = .ok (.if_icmp .ge 7, 3) := by decide +kernel
theorem dX4_has_12 : decode cX4_has 12 = .ok (.iconst 1, 1) := by decide +kernel
theorem dX4_has_13 : decode cX4_has 13 = .ok (.goto 4, 3) := by decide +kernel
theorem dX4_has_16 : decode cX4_has 16 = .ok (.iconst 0, 1) := by decide +kernel
theorem dX4_has_17 : decode cX4_has 17 = .ok (.ireturn, 1) := by decide +kernel
theorem dX4_hasSet_0 : decode cX4_hasSet 0 = .ok (.iload_n 1, 1) := by decide +kernel
theorem dX4_hasSet_1 : decode cX4_hasSet 1 = .ok (.ifCond .lt 17, 3) := by decide +kernel
theorem dX4_hasSet_4 : decode cX4_hasSet 4 = .ok (.iload_n 1, 1) := by decide +kernel
theorem dX4_hasSet_5 : decode cX4_hasSet 5 = .ok (.iconst 1, 1) := by decide +kernel
theorem dX4_hasSet_6 : decode cX4_hasSet 6 = .ok (.aload_n 0, 1) := by decide +kernel
theorem dX4_hasSet_7 : decode cX4_hasSet 7 = .ok (.getfield 22, 3) := by decide +kernel
theorem dX4_hasSet_10 : decode cX4_hasSet 10 = .ok (.ishl, 1) := by decide +kernel
theorem dX4_hasSet_11 : decode cX4_hasSet 11 = .ok (.if_icmp .ge 7, 3) := by decide +kernel
theorem dX4_hasSet_14 : decode cX4_hasSet 14 = .ok (.iconst 1, 1) := by decide +kernel
theorem dX4_hasSet_15 : decode cX4_hasSet 15 = .ok (.goto 4, 3) := by decide +kernel
theorem dX4_hasSet_18 : decode cX4_hasSet 18 = .ok (.iconst 0, 1) := by decide +kernel
theorem dX4_hasSet_19 : decode cX4_hasSet 19 = .ok (.ireturn, 1) := by decide +kernel
theorem dX4_energyOfAll_0 : decode cX4_energyOfAll 0 = .ok (.iconst 0, 1) := by decide +kernel
theorem dX4_energyOfAll_1 : decode cX4_energyOfAll 1 = .ok (.istore_n 1, 1) := by decide +kernel
theorem dX4_energyOfAll_2 : decode cX4_energyOfAll 2 = .ok (.iconst 0, 1) := by decide +kernel
theorem dX4_energyOfAll_3 : decode cX4_energyOfAll 3 = .ok (.istore_n 2, 1) := by decide +kernel
theorem dX4_energyOfAll_4 : decode cX4_energyOfAll 4 = .ok (.iload_n 2, 1) := by decide +kernel
theorem dX4_energyOfAll_5 : decode cX4_energyOfAll 5 = .ok (.aload_n 0, 1) := by decide +kernel
theorem dX4_energyOfAll_6 : decode cX4_energyOfAll 6 = .ok (.getfield 22, 3) := by decide +kernel
theorem dX4_energyOfAll_9 : decode cX4_energyOfAll 9 = .ok (.if_icmp .ge 17, 3) := by decide +kernel
theorem dX4_energyOfAll_12 : decode cX4_energyOfAll 12 = .ok (.iload_n 1, 1) := by decide +kernel
theorem dX4_energyOfAll_13 : decode cX4_energyOfAll 13 = .ok (.aload_n 0, 1) := by decide +kernel
theorem dX4_energyOfAll_14 : decode cX4_energyOfAll 14 = .ok (.iload_n 2, 1) := by decide +kernel
theorem dX4_energyOfAll_15 : decode cX4_energyOfAll 15 = .ok (.invokevirtual 25, 3) := by decide +kernel
theorem dX4_energyOfAll_18 : decode cX4_energyOfAll 18 = .ok (.iadd, 1) := by decide +kernel
theorem dX4_energyOfAll_19 : decode cX4_energyOfAll 19 = .ok (.istore_n 1, 1) := by decide +kernel
theorem dX4_energyOfAll_20 : decode cX4_energyOfAll 20 = .ok (.iinc 2 1, 3) := by decide +kernel
theorem dX4_energyOfAll_23 : decode cX4_energyOfAll 23 = .ok (.goto (-19), 3) := by decide +kernel
theorem dX4_energyOfAll_26 : decode cX4_energyOfAll 26 = .ok (.iload_n 1, 1) := by decide +kernel
theorem dX4_energyOfAll_27 : decode cX4_energyOfAll 27 = .ok (.ireturn, 1) := by decide +kernel
theorem dX4_energy_0 : decode cX4_energy 0 = .ok (.aload_n 0, 1) := by decide +kernel
theorem dX4_energy_1 : decode cX4_energy 1 = .ok (.getfield 15, 3) := by decide +kernel
theorem dX4_energy_4 : decode cX4_energy 4 = .ok (.iload_n 1, 1) := by decide +kernel
theorem dX4_energy_5 : decode cX4_energy 5 = .ok (.iaload, 1) := by decide +kernel
theorem dX4_energy_6 : decode cX4_energy 6 = .ok (.aload_n 0, 1) := by decide +kernel
theorem dX4_energy_7 : decode cX4_energy 7 = .ok (.getfield 19, 3) := by decide +kernel
theorem dX4_energy_10 : decode cX4_energy 10 = .ok (.iload_n 1, 1) := by decide +kernel
theorem dX4_energy_11 : decode cX4_energy 11 = .ok (.iaload, 1) := by decide +kernel
theorem dX4_energy_12 : decode cX4_energy 12 = .ok (.imul, 1) := by decide +kernel
theorem dX4_energy_13 : decode cX4_energy 13 = .ok (.ireturn, 1) := by decide +kernel
theorem dX5_init_0 : decode cX5_init 0 = .ok (.aload_n 0, 1) := by decide +kernel
theorem dX5_init_1 : decode cX5_init 1 = .ok (.invokespecial 3, 3) := by decide +kernel
theorem dX5_init_4 : decode cX5_init 4 = .ok (.aload_n 0, 1) := by decide +kernel
theorem dX5_init_5 : decode cX5_init 5 = .ok (.bipush 100, 2) := by decide +kernel
theorem dX5_init_7 : decode cX5_init 7 = .ok (.newarray .int, 2) := by decide +kernel
theorem dX5_init_9 : decode cX5_init 9 = .ok (.putfield 9, 3) := by decide +kernel
theorem dX5_init_12 : decode cX5_init 12 = .ok (.return_, 1) := by decide +kernel
theorem dX5_add_0 : decode cX5_add 0 = .ok (.aload_n 0, 1) := by decide +kernel
theorem dX5_add_1 : decode cX5_add 1 = .ok (.getfield 15, 3) := by decide +kernel
theorem dX5_add_4 : decode cX5_add 4 = .ok (.bipush 100, 2) := by decide +kernel
theorem dX5_add_6 : decode cX5_add 6 = .ok (.if_icmp .lt 5, 3) := by decide +kernel
theorem dX5_add_9 : decode cX5_add 9 = .ok (.iconst 0, 1) := by decide +kernel
theorem dX5_add_10 : decode cX5_add 10 = .ok (.ireturn, 1) := by decide +kernel
theorem dX5_add_11 : decode cX5_add 11 = .ok (.aload_n 0, 1) := by decide +kernel
theorem dX5_add_12 : decode cX5_add 12 = .ok (.getfield 9, 3) := by decide +kernel
theorem dX5_add_15 : decode cX5_add 15 = .ok (.aload_n 0, 1) := by decide +kernel
theorem dX5_add_16 : decode cX5_add 16 = .ok (.getfield 15, 3) := by decide +kernel
theorem dX5_add_19 : decode cX5_add 19 = .ok (.iload_n 1, 1) := by decide +kernel
theorem dX5_add_20 : decode cX5_add 20 = .ok (.iastore, 1) := by decide +kernel
theorem dX5_add_21 : decode cX5_add 21 = .ok (.aload_n 0, 1) := by decide +kernel
theorem dX5_add_22 : decode cX5_add 22 = .ok (.dup, 1) := by decide +kernel
theorem dX5_add_23 : decode cX5_add 23 = .ok (.getfield 15, 3) := by decide +kernel
theorem dX5_add_26 : decode cX5_add 26 = .ok (.iconst 1, 1) := by decide +kernel
theorem dX5_add_27 : decode cX5_add 27 = .ok (.iadd, 1) := by decide +kernel
theorem dX5_add_28 : decode cX5_add 28 = .ok (.putfield 15, 3) := by decide +kernel
theorem dX5_add_31 : decode cX5_add 31 = .ok (.iconst 1, 1) := by decide +kernel
theorem dX5_add_32 : decode cX5_add 32 = .ok (.ireturn, 1) := by decide +kernel
theorem dX5_read_0 : decode cX5_read 0 = .ok (.aload_n 1, 1) := by decide +kernel
theorem dX5_read_1 : decode cX5_read 1 = .ok (.invokevirtual 19, 3) := by decide +kernel
theorem dX5_read_4 : decode cX5_read 4 = .ok (.aload_n 0, 1) := by decide +kernel
theorem dX5_read_5 : decode cX5_read 5 = .ok (.iconst 0, 1) := by decide +kernel
theorem dX5_read_6 : decode cX5_read 6 = .ok (.putfield 24, 3) := by decide +kernel
theorem dX5_read_9 : decode cX5_read 9 = .ok (.iconst 0, 1) := by decide +kernel
theorem dX5_read_10 : decode cX5_read 10 = .ok (.istore_n 3, 1) := by decide +kernel
theorem dX5_read_11 : decode cX5_read 11 = .ok (.iload_n 3, 1) := by decide +kernel
theorem dX5_read_12 : decode cX5_read 12 = .ok (.bipush 100, 2) := by decide +kernel
theorem dX5_read_14 : decode cX5_read 14 = .ok (.if_icmp .gt 83, 3) := by decide +kernel
theorem dX5_read_17 : decode cX5_read 17 = .ok (.aload_n 0, 1) := by decide +kernel
theorem dX5_read_18 : decode cX5_read 18 = .ok (.invokevirtual 27, 3) := by decide +kernel
theorem dX5_read_21 : decode cX5_read 21 = .ok (.aload_n 0, 1) := by decide +kernel
theorem dX5_read_22 : decode cX5_read 22 = .ok (.getfield 30, 3) := by decide +kernel
theorem dX5_read_25 : decode cX5_read 25 = .ok (.aload_n 0, 1) := by decide +kernel
theorem dX5_read_26 : decode cX5_read 26 = .ok (.getfield 15, 3) := by decide +kernel
theorem dX5_read_29 : decode cX5_read 29 = .ok (.if_icmp .lt 5, 3) := by decide +kernel
theorem dX5_read_32 : decode cX5_read 32 = .ok (.iload_n 3, 1) := by decide +kernel
theorem dX5_read_33 : decode cX5_read 33 = .ok (.ireturn, 1) := by decide +kernel
theorem dX5_read_34 : decode cX5_read 34 = .ok (.aload_n 0, 1) := by decide +kernel
theorem dX5_read_35 : decode cX5_read 35 = .ok (.getfield 33, 3) := by decide +kernel
theorem dX5_read_38 : decode cX5_read 38 = .ok (.bipush 99, 2) := by decide +kernel
theorem dX5_read_40 : decode cX5_read 40 = .ok (.if_icmp .ne 23, 3) := by decide +kernel
theorem dX5_read_43 : decode cX5_read 43 = .ok (.iload_n 3, 1) := by decide +kernel
theorem dX5_read_44 : decode cX5_read 44 = .ok (.ifCond .ne 15, 3) := by decide +kernel
theorem dX5_read_47 : decode cX5_read 47 = .ok (.aload_n 0, 1) := by decide +kernel
theorem dX5_read_48 : decode cX5_read 48 = .ok (.aload_n 1, 1) := by decide +kernel
theorem dX5_read_49 : decode cX5_read 49 = .ok (.invokevirtual 36, 3) := by decide +kernel
theorem dX5_read_52 : decode cX5_read 52 = .ok (.ifCond .eq 7, 3) := by decide +kernel
theorem dX5_read_55 : decode cX5_read 55 = .ok (.iconst 1, 1) := by decide +kernel
theorem dX5_read_56 : decode cX5_read 56 = .ok (.goto 13, 3) := by decide +kernel
theorem dX5_read_59 : decode cX5_read 59 = .ok (.iconst 0, 1) := by decide +kernel
theorem dX5_read_60 : decode cX5_read 60 = .ok (.goto 9, 3) := by decide +kernel
theorem dX5_read_63 : decode cX5_read 63 = .ok (.aload_n 0, 1) := by decide +kernel
theorem dX5_read_64 : decode cX5_read 64 = .ok (.aload_n 1, 1) := by decide +kernel
theorem dX5_read_65 : decode cX5_read 65 = .ok (.aload_n 2, 1) := by decide +kernel
theorem dX5_read_66 : decode cX5_read 66 = .ok (.invokevirtual 40, 3) := by decide +kernel
theorem dX5_read_69 : decode cX5_read 69 = .ok (.istore 4, 2) := by decide +kernel
theorem dX5_read_71 : decode cX5_read 71 = .ok (.iload 4, 2) := by decide +kernel
theorem dX5_read_73 : decode cX5_read 73 = .ok (.ifCond .eq 10, 3) := by decide +kernel
theorem dX5_read_76 : decode cX5_read 76 = .ok (.aload_n 0, 1) := by decide +kernel
theorem dX5_read_77 : decode cX5_read 77 = .ok (.invokevirtual 44, 3) := by decide +kernel
theorem dX5_read_80 : decode cX5_read 80 = .ok (.ifCond .ne 11, 3) := by decide +kernel
theorem dX5_read_83 : decode cX5_read 83 = .ok (.bipush (-10), 2) := by decide +kernel
theorem dX5_read_85 : decode cX5_read 85 = .ok (.aload_n 0, 1) := by decide +kernel
theorem dX5_read_86 : decode cX5_read 86 = .ok (.getfield 30, 3) := by decide +kernel
theorem dX5_read_89 : decode cX5_read 89 = .ok (.isub, 1) := by decide +kernel
theorem dX5_read_90 : decode cX5_read 90 = .ok (.ireturn, 1) := by decide +kernel
theorem dX5_read_91 : decode cX5_read 91 = .ok (.iinc 3 1, 3) := by decide +kernel
theorem dX5_read_94 : decode cX5_read 94 = .ok (.goto (-83), 3) := by decide +kernel
theorem dX5_read_97 : decode cX5_read 97 = .ok (.bipush (-10), 2) := by decide +kernel
theorem dX5_read_99 : decode cX5_read 99 = .ok (.aload_n 0, 1) := by decide +kernel
theorem dX5_read_100 : decode cX5_read 100 = .ok (.getfield 15, 3) := by decide +kernel
theorem dX5_read_103 : decode cX5_read 103 = .ok (.isub, 1) := by decide +kernel
theorem dX5_read_104 : decode cX5_read 104 = .ok (.ireturn, 1) := by decide +kernel
theorem dX5_readItemEnd_0 : decode cX5_readItemEnd 0 = .ok (.aload_n 0, 1) := by decide +kernel
theorem dX5_readItemEnd_1 : decode cX5_readItemEnd 1 = .ok (.invokevirtual 27, 3) := by decide +kernel
theorem dX5_readItemEnd_4 : decode cX5_readItemEnd 4 = .ok (.aload_n 0, 1) := by decide +kernel
theorem dX5_readItemEnd_5 : decode cX5_readItemEnd 5 = .ok (.getfield 33, 3) := by decide +kernel
theorem dX5_readItemEnd_8 : decode cX5_readItemEnd 8 = .ok (.bipush 59, 2) := by decide +kernel
theorem dX5_readItemEnd_10 : decode cX5_readItemEnd 10 = .ok (.if_icmp .ne 7, 3) := by decide +kernel
theorem dX5_readItemEnd_13 : decode cX5_readItemEnd 13 = .ok (.iconst 1, 1) := by decide +kernel
theorem dX5_readItemEnd_14 : decode cX5_readItemEnd 14 = .ok (.goto 4, 3) := by decide +kernel
theorem dX5_readItemEnd_17 : decode cX5_readItemEnd 17 = .ok (.iconst 0, 1) := by decide +kernel
theorem dX5_readItemEnd_18 : decode cX5_readItemEnd 18 = .ok (.ireturn, 1) := by decide +kernel
theorem dX5_readRoom_0 : decode cX5_readRoom 0 = .ok (.aload_n 0, 1) := by decide +kernel
theorem dX5_readRoom_1 : decode cX5_readRoom 1 = .ok (.iconst 1, 1) := by decide +kernel
theorem dX5_readRoom_2 : decode cX5_readRoom 2 = .ok (.bipush 20, 2) := by decide +kernel
theorem dX5_readRoom_4 : decode cX5_readRoom 4 = .ok (.invokevirtual 48, 3) := by decide +kernel
theorem dX5_readRoom_7 : decode cX5_readRoom 7 = .ok (.ifCond .ne 5, 3) := by decide +kernel
theorem dX5_readRoom_10 : decode cX5_readRoom 10 = .ok (.iconst 0, 1) := by decide +kernel
theorem dX5_readRoom_11 : decode cX5_readRoom 11 = .ok (.ireturn, 1) := by decide +kernel
theorem dX5_readRoom_12 : decode cX5_readRoom 12 = .ok (.aload_n 1, 1) := by decide +kernel
theorem dX5_readRoom_13 : decode cX5_readRoom 13 = .ok (.aload_n 0, 1) := by decide +kernel
theorem dX5_readRoom_14 : decode cX5_readRoom 14 = .ok (.getfield 52, 3) := by decide +kernel
theorem dX5_readRoom_17 : decode cX5_readRoom 17 = .ok (.putfield 55, 3) := by decide +kernel
theorem dX5_readRoom_20 : decode cX5_readRoom 20 = .ok (.iconst 1, 1) := by decide +kernel
theorem dX5_readRoom_21 : decode cX5_readRoom 21 = .ok (.ireturn, 1) := by decide +kernel
theorem dX5_readTask_0 : decode cX5_readTask 0 = .ok (.aload_n 0, 1) := by decide +kernel
theorem dX5_readTask_1 : decode cX5_readTask 1 = .ok (.getfield 33, 3) := by decide +kernel
theorem dX5_readTask_4 : decode cX5_readTask 4 = .ok (.bipush 116, 2) := by decide +kernel
theorem dX5_readTask_6 : decode cX5_readTask 6 = .ok (.if_icmp .ne 21, 3) := by decide +kernel
theorem dX5_readTask_9 : decode cX5_readTask 9 = .ok (.aload_n 1, 1) := by decide +kernel
theorem dX5_readTask_10 : decode cX5_readTask 10 = .ok (.getfield 58, 3) := by decide +kernel
theorem dX5_readTask_13 : decode cX5_readTask 13 = .ok (.iconst 5, 1) := by decide +kernel
theorem dX5_readTask_14 : decode cX5_readTask 14 = .ok (.if_icmp .ge 13, 3) := by decide +kernel
theorem dX5_readTask_17 : decode cX5_readTask 17 = .ok (.aload_n 0, 1) := by decide +kernel
theorem dX5_readTask_18 : decode cX5_readTask 18 = .ok (.iconst 0, 1) := by decide +kernel
theorem dX5_readTask_19 : decode cX5_readTask 19 = .ok (.bipush 15, 2) := by decide +kernel
theorem dX5_readTask_21 : decode cX5_readTask 21 = .ok (.invokevirtual 48, 3) := by decide +kernel
theorem dX5_readTask_24 : decode cX5_readTask 24 = .ok (.ifCond .ne 5, 3) := by decide +kernel
theorem dX5_readTask_27 : decode cX5_readTask 27 = .ok (.iconst 0, 1) := by decide +kernel
theorem dX5_readTask_28 : decode cX5_readTask 28 = .ok (.ireturn, 1) := by decide +kernel
theorem dX5_readTask_29 : decode cX5_readTask 29 = .ok (.aload_n 0, 1) := by decide +kernel
theorem dX5_readTask_30 : decode cX5_readTask 30 = .ok (.getfield 52, 3) := by decide +kernel
theorem dX5_readTask_33 : decode cX5_readTask 33 = .ok (.istore_n 3, 1) := by decide +kernel
theorem dX5_readTask_34 : decode cX5_readTask 34 = .ok (.aload_n 0, 1) := by decide +kernel
theorem dX5_readTask_35 : decode cX5_readTask 35 = .ok (.iload_n 3, 1) := by decide +kernel
theorem dX5_readTask_36 : decode cX5_readTask 36 = .ok (.iconst 1, 1) := by decide +kernel
theorem dX5_readTask_37 : decode cX5_readTask 37 = .ok (.iadd, 1) := by decide +kernel
theorem dX5_readTask_38 : decode cX5_readTask 38 = .ok (.bipush 16, 2) := by decide +kernel
theorem dX5_readTask_40 : decode cX5_readTask 40 = .ok (.invokevirtual 48, 3) := by decide +kernel
theorem dX5_readTask_43 : decode cX5_readTask 43 = .ok (.ifCond .ne 5, 3) := by decide +kernel
theorem dX5_readTask_46 : decode cX5_readTask 46 = .ok (.iconst 0, 1) := by decide +kernel
theorem dX5_readTask_47 : decode cX5_readTask 47 = .ok (.ireturn, 1) := by decide +kernel
theorem dX5_readTask_48 : decode cX5_readTask 48 = .ok (.aload_n 0, 1) := by decide +kernel
theorem dX5_readTask_49 : decode cX5_readTask 49 = .ok (.getfield 52, 3) := by decide +kernel
theorem dX5_readTask_52 : decode cX5_readTask 52 = .ok (.istore 4, 2) := by decide +kernel
theorem dX5_readTask_54 : decode cX5_readTask 54 = .ok (.aload_n 0, 1) := by decide +kernel
theorem dX5_readTask_55 : decode cX5_readTask 55 = .ok (.iconst 1, 1) := by decide +kernel
theorem dX5_readTask_56 : decode cX5_readTask 56 = .ok (.bipush 9, 2) := by decide +kernel
theorem dX5_readTask_58 : decode cX5_readTask 58 = .ok (.iload 4, 2) := by decide +kernel
theorem dX5_readTask_60 : decode cX5_readTask 60 = .ok (.iload_n 3, 1) := by decide +kernel
theorem dX5_readTask_61 : decode cX5_readTask 61 = .ok (.isub, 1) := by decide +kernel
theorem dX5_readTask_62 : decode cX5_readTask 62 = .ok (.invokestatic 61, 3) := by decide +kernel
theorem dX5_readTask_65 : decode cX5_readTask 65 = .ok (.invokevirtual 48, 3) := by decide +kernel
theorem dX5_readTask_68 : decode cX5_readTask 68 = .ok (.ifCond .ne 5, 3) := by decide +kernel
theorem dX5_readTask_71 : decode cX5_readTask 71 = .ok (.iconst 0, 1) := by decide +kernel
theorem dX5_readTask_72 : decode cX5_readTask 72 = .ok (.ireturn, 1) := by decide +kernel
theorem dX5_readTask_73 : decode cX5_readTask 73 = .ok (.aload_n 0, 1) := by decide +kernel
theorem dX5_readTask_74 : decode cX5_readTask 74 = .ok (.getfield 52, 3) := by decide +kernel
theorem dX5_readTask_77 : decode cX5_readTask 77 = .ok (.istore 5, 2) := by decide +kernel
theorem dX5_readTask_79 : decode cX5_readTask 79 = .ok (.aload_n 0, 1) := by decide +kernel
theorem dX5_readTask_80 : decode cX5_readTask 80 = .ok (.iconst 1, 1) := by decide +kernel
theorem dX5_readTask_81 : decode cX5_readTask 81 = .ok (.bipush 9, 2) := by decide +kernel
theorem dX5_readTask_83 : decode cX5_readTask 83 = .ok (.aload_n 1, 1) := by decide +kernel
theorem dX5_readTask_84 : decode cX5_readTask 84 = .ok (.getfield 55, 3) := by decide +kernel
theorem dX5_readTask_87 : decode cX5_readTask 87 = .ok (.invokestatic 61, 3) := by decide +kernel
theorem dX5_readTask_90 : decode cX5_readTask 90 = .ok (.invokevirtual 48, 3) := by decide +kernel
theorem dX5_readTask_93 : decode cX5_readTask 93 = .ok (.ifCond .ne 5, 3) := by decide +kernel
theorem dX5_readTask_96 : decode cX5_readTask 96 = .ok (.iconst 0, 1) := by decide +kernel
theorem dX5_readTask_97 : decode cX5_readTask 97 = .ok (.ireturn, 1) := by decide +kernel
theorem dX5_readTask_98 : decode cX5_readTask 98 = .ok (.aload_n 2, 1) := by decide +kernel
theorem dX5_readTask_99 : decode cX5_readTask 99 = .ok (.aload_n 1, 1) := by decide +kernel
theorem dX5_readTask_100 : decode cX5_readTask 100 = .ok (.getfield 58, 3) := by decide +kernel
theorem dX5_readTask_103 : decode cX5_readTask 103 = .ok (.iload_n 3, 1) := by decide +kernel
theorem dX5_readTask_104 : decode cX5_readTask 104 = .ok (.iload 4, 2) := by decide +kernel
theorem dX5_readTask_106 : decode cX5_readTask 106 = .ok (.invokevirtual 67, 3) := by decide +kernel
theorem dX5_readTask_109 : decode cX5_readTask 109 = .ok (.aload_n 1, 1) := by decide +kernel
theorem dX5_readTask_110 : decode cX5_readTask 110 = .ok (.iload 5, 2) := by decide +kernel
theorem dX5_readTask_112 : decode cX5_readTask 112 = .ok (.aload_n 0, 1) := by decide +kernel
theorem dX5_readTask_113 : decode cX5_readTask 113 = .ok (.getfield 52, 3) := by decide +kernel
theorem dX5_readTask_116 : decode cX5_readTask 116 = .ok (.invokevirtual 73, 3) := by decide +kernel
theorem dX5_readTask_119 : decode cX5_readTask 119 = .ok (.iconst 1, 1) := by decide +kernel
theorem dX5_readTask_120 : decode cX5_readTask 120 = .ok (.ireturn, 1) := by decide +kernel
theorem dX5_readNumber_0 : decode cX5_readNumber 0 = .ok (.aload_n 0, 1) := by decide +kernel
theorem dX5_readNumber_1 : decode cX5_readNumber 1 = .ok (.invokevirtual 27, 3) := by decide +kernel
theorem dX5_readNumber_4 : decode cX5_readNumber 4 = .ok (.aload_n 0, 1) := by decide +kernel
theorem dX5_readNumber_5 : decode cX5_readNumber 5 = .ok (.getfield 33, 3) := by decide +kernel
theorem dX5_readNumber_8 : decode cX5_readNumber 8 = .ok (.bipush (-2), 2) := by decide +kernel
theorem dX5_readNumber_10 : decode cX5_readNumber 10 = .ok (.if_icmp .ne 23, 3) := by decide +kernel
theorem dX5_readNumber_13 : decode cX5_readNumber 13 = .ok (.aload_n 0, 1) := by decide +kernel
theorem dX5_readNumber_14 : decode cX5_readNumber 14 = .ok (.getfield 52, 3) := by decide +kernel
theorem dX5_readNumber_17 : decode cX5_readNumber 17 = .ok (.iload_n 1, 1) := by decide +kernel
theorem dX5_readNumber_18 : decode cX5_readNumber 18 = .ok (.if_icmp .lt 15, 3) := by decide +kernel
theorem dX5_readNumber_21 : decode cX5_readNumber 21 = .ok (.aload_n 0, 1) := by decide +kernel
theorem dX5_readNumber_22 : decode cX5_readNumber 22 = .ok (.getfield 52, 3) := by decide +kernel
theorem dX5_readNumber_25 : decode cX5_readNumber 25 = .ok (.iload_n 2, 1) := by decide +kernel
theorem dX5_readNumber_26 : decode cX5_readNumber 26 = .ok (.if_icmp .gt 7, 3) := by decide +kernel
theorem dX5_readNumber_29 : decode cX5_readNumber 29 = .ok (.iconst 1, 1) := by decide +kernel
theorem dX5_readNumber_30 : decode cX5_readNumber 30 = .ok (.goto 4, 3) := by decide +kernel
theorem dX5_readNumber_33 : decode cX5_readNumber 33 = .ok (.iconst 0, 1) := by decide +kernel
theorem dX5_readNumber_34 : decode cX5_readNumber 34 = .ok (.ireturn, 1) := by decide +kernel
theorem dX5_nextToken_0 : decode cX5_nextToken 0 = .ok (.aload_n 0, 1) := by decide +kernel
theorem dX5_nextToken_1 : decode cX5_nextToken 1 = .ok (.getfield 24, 3) := by decide +kernel
theorem dX5_nextToken_4 : decode cX5_nextToken 4 = .ok (.aload_n 0, 1) := by decide +kernel
theorem dX5_nextToken_5 : decode cX5_nextToken 5 = .ok (.getfield 15, 3) := by decide +kernel
theorem dX5_nextToken_8 : decode cX5_nextToken 8 = .ok (.if_icmp .ge 30, 3) := by decide +kernel
theorem dX5_nextToken_11 : decode cX5_nextToken 11 = .ok (.aload_n 0, 1) := by decide +kernel
theorem dX5_nextToken_12 : decode cX5_nextToken 12 = .ok (.getfield 9, 3) := by decide +kernel
theorem dX5_nextToken_15 : decode cX5_nextToken 15 = .ok (.aload_n 0, 1) := by decide +kernel
theorem dX5_nextToken_16 : decode cX5_nextToken 16 = .ok (.getfield 24, 3) := by decide +kernel
theorem dX5_nextToken_19 : decode cX5_nextToken 19 = .ok (.iaload, 1) := by decide +kernel
theorem dX5_nextToken_20 : decode cX5_nextToken 20 = .ok (.bipush 32, 2) := by decide +kernel
theorem dX5_nextToken_22 : decode cX5_nextToken 22 = .ok (.if_icmp .ne 16, 3) := by decide +kernel
theorem dX5_nextToken_25 : decode cX5_nextToken 25 = .ok (.aload_n 0, 1) := by decide +kernel
theorem dX5_nextToken_26 : decode cX5_nextToken 26 = .ok (.dup, 1) := by decide +kernel
theorem dX5_nextToken_27 : decode cX5_nextToken 27 = .ok (.getfield 24, 3) := by decide +kernel
theorem dX5_nextToken_30 : decode cX5_nextToken 30 = .ok (.iconst 1, 1) := by decide +kernel
theorem dX5_nextToken_31 : decode cX5_nextToken 31 = .ok (.iadd, 1) := by decide +kernel
theorem dX5_nextToken_32 : decode cX5_nextToken 32 = .ok (.putfield 24, 3) := by decide +kernel
theorem dX5_nextToken_35 : decode cX5_nextToken 35 = .ok (.goto (-35), 3) := by decide +kernel
theorem dX5_nextToken_38 : decode cX5_nextToken 38 = .ok (.aload_n 0, 1) := by decide +kernel
theorem dX5_nextToken_39 : decode cX5_nextToken 39 = .ok (.aload_n 0, 1) := by decide +kernel
theorem dX5_nextToken_40 : decode cX5_nextToken 40 = .ok (.getfield 24, 3) := by decide +kernel
theorem dX5_nextToken_43 : decode cX5_nextToken 43 = .ok (.putfield 30, 3) := by decide +kernel
theorem dX5_nextToken_46 : decode cX5_nextToken 46 = .ok (.aload_n 0, 1) := by decide +kernel
theorem dX5_nextToken_47 : decode cX5_nextToken 47 = .ok (.iconst (-1), 1) := by decide +kernel
theorem dX5_nextToken_48 : decode cX5_nextToken 48 = .ok (.putfield 33, 3) := by decide +kernel
theorem dX5_nextToken_51 : decode cX5_nextToken 51 = .ok (.aload_n 0, 1) := by decide +kernel
theorem dX5_nextToken_52 : decode cX5_nextToken 52 = .ok (.getfield 24, 3) := by decide +kernel
theorem dX5_nextToken_55 : decode cX5_nextToken 55 = .ok (.aload_n 0, 1) := by decide +kernel
theorem dX5_nextToken_56 : decode cX5_nextToken 56 = .ok (.getfield 15, 3) := by decide +kernel
theorem dX5_nextToken_59 : decode cX5_nextToken 59 = .ok (.if_icmp .lt 4, 3) := by decide +kernel
theorem dX5_nextToken_62 : decode cX5_nextToken 62 = .ok (.return_, 1) := by decide +kernel
theorem dX5_nextToken_63 : decode cX5_nextToken 63 = .ok (.aload_n 0, 1) := by decide +kernel
theorem dX5_nextToken_64 : decode cX5_nextToken 64 = .ok (.getfield 9, 3) := by decide +kernel
theorem dX5_nextToken_67 : decode cX5_nextToken 67 = .ok (.aload_n 0, 1) := by decide +kernel
theorem dX5_nextToken_68 : decode cX5_nextToken 68 = .ok (.getfield 24, 3) := by decide +kernel
theorem dX5_nextToken_71 : decode cX5_nextToken 71 = .ok (.iaload, 1) := by decide +kernel
theorem dX5_nextToken_72 : decode cX5_nextToken 72 = .ok (.invokestatic 77, 3) := by decide +kernel
theorem dX5_nextToken_75 : decode cX5_nextToken 75 = .ok (.ifCond .eq 10, 3) := by decide +kernel
theorem dX5_nextToken_78 : decode cX5_nextToken 78 = .ok (.aload_n 0, 1) := by decide +kernel
theorem dX5_nextToken_79 : decode cX5_nextToken 79 = .ok (.invokevirtual 81, 3) := by decide +kernel
theorem dX5_nextToken_82 : decode cX5_nextToken 82 = .ok (.goto 26, 3) := by decide +kernel
theorem dX5_nextToken_85 : decode cX5_nextToken 85 = .ok (.aload_n 0, 1) := by decide +kernel
theorem dX5_nextToken_86 : decode cX5_nextToken 86 = .ok (.aload_n 0, 1) := by decide +kernel
theorem dX5_nextToken_87 : decode cX5_nextToken 87 = .ok (.getfield 9, 3) := by decide +kernel
theorem dX5_nextToken_90 : decode cX5_nextToken 90 = .ok (.aload_n 0, 1) := by decide +kernel
theorem dX5_nextToken_91 : decode cX5_nextToken 91 = .ok (.getfield 24, 3) := by decide +kernel
theorem dX5_nextToken_94 : decode cX5_nextToken 94 = .ok (.iaload, 1) := by decide +kernel
theorem dX5_nextToken_95 : decode cX5_nextToken 95 = .ok (.putfield 33, 3) := by decide +kernel
theorem dX5_nextToken_98 : decode cX5_nextToken 98 = .ok (.aload_n 0, 1) := by decide +kernel
theorem dX5_nextToken_99 : decode cX5_nextToken 99 = .ok (.dup, 1) := by decide +kernel
theorem dX5_nextToken_100 : decode cX5_nextToken 100 = .ok (.getfield 24, 3) := by decide +kernel
theorem dX5_nextToken_103 : decode cX5_nextToken 103 = .ok (.iconst 1, 1) := by decide +kernel
theorem dX5_nextToken_104 : decode cX5_nextToken 104 = .ok (.iadd, 1) := by decide +kernel
theorem dX5_nextToken_105 : decode cX5_nextToken 105 = .ok (.putfield 24, 3) := by decide +kernel
theorem dX5_nextToken_108 : decode cX5_nextToken 108 = .ok (.return_, 1) := by decide +kernel
theorem dX5_nextNumber_0 : decode cX5_nextNumber 0 = .ok (.aload_n 0, 1) := by decide +kernel
theorem dX5_nextNumber_1 : decode cX5_nextNumber 1 = .ok (.iconst 0, 1) := by decide +kernel
theorem dX5_nextNumber_2 : decode cX5_nextNumber 2 = .ok (.putfield 52, 3) := by decide +kernel
theorem dX5_nextNumber_5 : decode cX5_nextNumber 5 = .ok (.aload_n 0, 1) := by decide +kernel
theorem dX5_nextNumber_6 : decode cX5_nextNumber 6 = .ok (.getfield 24, 3) := by decide +kernel
theorem dX5_nextNumber_9 : decode cX5_nextNumber 9 = .ok (.aload_n 0, 1) := by decide +kernel
theorem dX5_nextNumber_10 : decode cX5_nextNumber 10 = .ok (.getfield 15, 3) := by decide +kernel
theorem dX5_nextNumber_13 : decode cX5_nextNumber 13 = .ok (.if_icmp .ge 60, 3) := by decide +kernel
theorem dX5_nextNumber_16 : decode cX5_nextNumber 16 = .ok (.aload_n 0, 1) := by decide +kernel
theorem dX5_nextNumber_17 : decode cX5_nextNumber 17 = .ok (.getfield 9, 3) := by decide +kernel
theorem dX5_nextNumber_20 : decode cX5_nextNumber 20 = .ok (.aload_n 0, 1) := by decide +kernel
theorem dX5_nextNumber_21 : decode cX5_nextNumber 21 = .ok (.getfield 24, 3) := by decide +kernel
theorem dX5_nextNumber_24 : decode cX5_nextNumber 24 = .ok (.iaload, 1) := by decide +kernel
theorem dX5_nextNumber_25 : decode cX5_nextNumber 25 = .ok (.invokestatic 77, 3) := by decide +kernel
theorem dX5_nextNumber_28 : decode cX5_nextNumber 28 = .ok (.ifCond .eq 45, 3) := by decide +kernel
theorem dX5_nextNumber_31 : decode cX5_nextNumber 31 = .ok (.aload_n 0, 1) := by decide +kernel
theorem dX5_nextNumber_32 : decode cX5_nextNumber 32 = .ok (.bipush 100, 2) := by decide +kernel
theorem dX5_nextNumber_34 : decode cX5_nextNumber 34 = .ok (.aload_n 0, 1) := by decide +kernel
theorem dX5_nextNumber_35 : decode cX5_nextNumber 35 = .ok (.getfield 52, 3) := by decide +kernel
theorem dX5_nextNumber_38 : decode cX5_nextNumber 38 = .ok (.bipush 10, 2) := by decide +kernel
theorem dX5_nextNumber_40 : decode cX5_nextNumber 40 = .ok (.imul, 1) := by decide +kernel
theorem dX5_nextNumber_41 : decode cX5_nextNumber 41 = .ok (.aload_n 0, 1) := by decide +kernel
theorem dX5_nextNumber_42 : decode cX5_nextNumber 42 = .ok (.getfield 9, 3) := by decide +kernel
theorem dX5_nextNumber_45 : decode cX5_nextNumber 45 = .ok (.aload_n 0, 1) := by decide +kernel
theorem dX5_nextNumber_46 : decode cX5_nextNumber 46 = .ok (.getfield 24, 3) := by decide +kernel
theorem dX5_nextNumber_49 : decode cX5_nextNumber 49 = .ok (.iaload, 1) := by decide +kernel
theorem dX5_nextNumber_50 : decode cX5_nextNumber 50 = .ok (.iadd, 1) := by decide +kernel
theorem dX5_nextNumber_51 : decode cX5_nextNumber 51 = .ok (.bipush 48, 2) := by decide +kernel
theorem dX5_nextNumber_53 : decode cX5_nextNumber 53 = .ok (.isub, 1) := by decide +kernel
theorem dX5_nextNumber_54 : decode cX5_nextNumber 54 = .ok (.invokestatic 61, 3) := by decide +kernel
theorem dX5_nextNumber_57 : decode cX5_nextNumber 57 = .ok (.putfield 52, 3) := by decide +kernel
theorem dX5_nextNumber_60 : decode cX5_nextNumber 60 = .ok (.aload_n 0, 1) := by decide +kernel
theorem dX5_nextNumber_61 : decode cX5_nextNumber 61 = .ok (.dup, 1) := by decide +kernel
theorem dX5_nextNumber_62 : decode cX5_nextNumber 62 = .ok (.getfield 24, 3) := by decide +kernel
theorem dX5_nextNumber_65 : decode cX5_nextNumber 65 = .ok (.iconst 1, 1) := by decide +kernel
theorem dX5_nextNumber_66 : decode cX5_nextNumber 66 = .ok (.iadd, 1) := by decide +kernel
theorem dX5_nextNumber_67 : decode cX5_nextNumber 67 = .ok (.putfield 24, 3) := by decide +kernel
theorem dX5_nextNumber_70 : decode cX5_nextNumber 70 = .ok (.goto (-65), 3) := by decide +kernel
theorem dX5_nextNumber_73 : decode cX5_nextNumber 73 = .ok (.aload_n 0, 1) := by decide +kernel
theorem dX5_nextNumber_74 : decode cX5_nextNumber 74 = .ok (.getfield 9, 3) := by decide +kernel
theorem dX5_nextNumber_77 : decode cX5_nextNumber 77 = .ok (.aload_n 0, 1) := by decide +kernel
theorem dX5_nextNumber_78 : decode cX5_nextNumber 78 = .ok (.getfield 30, 3) := by decide +kernel
theorem dX5_nextNumber_81 : decode cX5_nextNumber 81 = .ok (.iaload, 1) := by decide +kernel
theorem dX5_nextNumber_82 : decode cX5_nextNumber 82 = .ok (.bipush 48, 2) := by decide +kernel
theorem dX5_nextNumber_84 : decode cX5_nextNumber 84 = .ok (.if_icmp .ne 20, 3) := by decide +kernel
theorem dX5_nextNumber_87 : decode cX5_nextNumber 87 = .ok (.aload_n 0, 1) := by decide +kernel
theorem dX5_nextNumber_88 : decode cX5_nextNumber 88 = .ok (.getfield 24, 3) := by decide +kernel
theorem dX5_nextNumber_91 : decode cX5_nextNumber 91 = .ok (.aload_n 0, 1) := by decide +kernel
theorem dX5_nextNumber_92 : decode cX5_nextNumber 92 = .ok (.getfield 30, 3) := by decide +kernel
theorem dX5_nextNumber_95 : decode cX5_nextNumber 95 = .ok (.isub, 1) := by decide +kernel
theorem dX5_nextNumber_96 : decode cX5_nextNumber 96 = .ok (.iconst 1, 1) := by decide +kernel
theorem dX5_nextNumber_97 : decode cX5_nextNumber 97 = .ok (.if_icmp .le 7, 3) := by decide +kernel
theorem dX5_nextNumber_100 : decode cX5_nextNumber 100 = .ok (.iconst 1, 1) := by decide +kernel
theorem dX5_nextNumber_101 : decode cX5_nextNumber 101 = .ok (.goto 4, 3) := by decide +kernel
theorem dX5_nextNumber_104 : decode cX5_nextNumber 104 = .ok (.iconst 0, 1) := by decide +kernel
theorem dX5_nextNumber_105 : decode cX5_nextNumber 105 = .ok (.istore_n 1, 1) := by decide +kernel
theorem dX5_nextNumber_106 : decode cX5_nextNumber 106 = .ok (.aload_n 0, 1) := by decide +kernel
theorem dX5_nextNumber_107 : decode cX5_nextNumber 107 = .ok (.iload_n 1, 1) := by decide +kernel
theorem dX5_nextNumber_108 : decode cX5_nextNumber 108 = .ok (.ifCond .eq 7, 3) := by decide +kernel
theorem dX5_nextNumber_111 : decode cX5_nextNumber 111 = .ok (.iconst (-1), 1) := by decide +kernel
theorem dX5_nextNumber_112 : decode cX5_nextNumber 112 = .ok (.goto 5, 3) := by decide +kernel
theorem dX5_nextNumber_115 : decode cX5_nextNumber 115 = .ok (.bipush (-2), 2) := by decide +kernel
theorem dX5_nextNumber_117 : decode cX5_nextNumber 117 = .ok (.putfield 33, 3) := by decide +kernel
theorem dX5_nextNumber_120 : decode cX5_nextNumber 120 = .ok (.return_, 1) := by decide +kernel
theorem dX5_isDigit_0 : decode cX5_isDigit 0 = .ok (.iload_n 0, 1) := by decide +kernel
theorem dX5_isDigit_1 : decode cX5_isDigit 1 = .ok (.bipush 48, 2) := by decide +kernel
theorem dX5_isDigit_3 : decode cX5_isDigit 3 = .ok (.if_icmp .lt 13, 3) := by decide +kernel
theorem dX5_isDigit_6 : decode cX5_isDigit 6 = .ok (.iload_n 0, 1) := by decide +kernel
theorem dX5_isDigit_7 : decode cX5_isDigit 7 = .ok (.bipush 57, 2) := by decide +kernel
theorem dX5_isDigit_9 : decode cX5_isDigit 9 = .ok (.if_icmp .gt 7, 3) := by decide +kernel
theorem dX5_isDigit_12 : decode cX5_isDigit 12 = .ok (.iconst 1, 1) := by decide +kernel
theorem dX5_isDigit_13 : decode cX5_isDigit 13 = .ok (.goto 4, 3) := by decide +kernel
theorem dX5_isDigit_16 : decode cX5_isDigit 16 = .ok (.iconst 0, 1) := by decide +kernel
theorem dX5_isDigit_17 : decode cX5_isDigit 17 = .ok (.ireturn, 1) := by decide +kernel
theorem dX6_init_0 : decode cX6_init 0 = .ok (.aload_n 0, 1) := by decide +kernel
theorem dX6_init_1 : decode cX6_init 1 = .ok (.invokespecial 3, 3) := by decide +kernel
theorem dX6_init_4 : decode cX6_init 4 = .ok (.aload_n 0, 1) := by decide +kernel
theorem dX6_init_5 : decode cX6_init 5 = .ok (.bipush 10, 2) := by decide +kernel
theorem dX6_init_7 : decode cX6_init 7 = .ok (.newarray .int, 2) := by decide +kernel
theorem dX6_init_9 : decode cX6_init 9 = .ok (.putfield 11, 3) := by decide +kernel
theorem dX6_init_12 : decode cX6_init 12 = .ok (.aload_n 0, 1) := by decide +kernel
theorem dX6_init_13 : decode cX6_init 13 = .ok (.bipush 10, 2) := by decide +kernel
theorem dX6_init_15 : decode cX6_init 15 = .ok (.newarray .int, 2) := by decide +kernel
theorem dX6_init_17 : decode cX6_init 17 = .ok (.putfield 15, 3) := by decide +kernel
theorem dX6_init_20 : decode cX6_init 20 = .ok (.aload_n 0, 1) := by decide +kernel
theorem dX6_init_21 : decode cX6_init 21 = .ok (.bipush 10, 2) := by decide +kernel
theorem dX6_init_23 : decode cX6_init 23 = .ok (.newarray .int, 2) := by decide +kernel
theorem dX6_init_25 : decode cX6_init 25 = .ok (.putfield 18, 3) := by decide +kernel
theorem dX6_init_28 : decode cX6_init 28 = .ok (.return_, 1) := by decide +kernel
theorem dX6_placeOf_0 : decode cX6_placeOf 0 = .ok (.iload_n 1, 1) := by decide +kernel
theorem dX6_placeOf_1 : decode cX6_placeOf 1 = .ok (.iconst 5, 1) := by decide +kernel
theorem dX6_placeOf_2 : decode cX6_placeOf 2 = .ok (.imul, 1) := by decide +kernel
theorem dX6_placeOf_3 : decode cX6_placeOf 3 = .ok (.iload_n 0, 1) := by decide +kernel
theorem dX6_placeOf_4 : decode cX6_placeOf 4 = .ok (.iadd, 1) := by decide +kernel
theorem dX6_placeOf_5 : decode cX6_placeOf 5 = .ok (.ireturn, 1) := by decide +kernel
theorem dX6_edge_0 : decode cX6_edge 0 = .ok (.aload_n 0, 1) := by decide +kernel
theorem dX6_edge_1 : decode cX6_edge 1 = .ok (.getfield 11, 3) := by decide +kernel
theorem dX6_edge_4 : decode cX6_edge 4 = .ok (.iload_n 1, 1) := by decide +kernel
theorem dX6_edge_5 : decode cX6_edge 5 = .ok (.iload_n 2, 1) := by decide +kernel
theorem dX6_edge_6 : decode cX6_edge 6 = .ok (.invokestatic 21, 3) := by decide +kernel
theorem dX6_edge_9 : decode cX6_edge 9 = .ok (.iaload, 1) := by decide +kernel
theorem dX6_edge_10 : decode cX6_edge 10 = .ok (.ireturn, 1) := by decide +kernel
theorem dX6_ruleOf_0 : decode cX6_ruleOf 0 = .ok (.aload_n 0, 1) := by decide +kernel
theorem dX6_ruleOf_1 : decode cX6_ruleOf 1 = .ok (.getfield 15, 3) := by decide +kernel
theorem dX6_ruleOf_4 : decode cX6_ruleOf 4 = .ok (.iload_n 1, 1) := by decide +kernel
theorem dX6_ruleOf_5 : decode cX6_ruleOf 5 = .ok (.iload_n 2, 1) := by decide +kernel
theorem dX6_ruleOf_6 : decode cX6_ruleOf 6 = .ok (.invokestatic 21, 3) := by decide +kernel
theorem dX6_ruleOf_9 : decode cX6_ruleOf 9 = .ok (.iaload, 1) := by decide +kernel
theorem dX6_ruleOf_10 : decode cX6_ruleOf 10 = .ok (.ireturn, 1) := by decide +kernel
theorem dX6_causeOf_0 : decode cX6_causeOf 0 = .ok (.aload_n 0, 1) := by decide +kernel
theorem dX6_causeOf_1 : decode cX6_causeOf 1 = .ok (.getfield 18, 3) := by decide +kernel
theorem dX6_causeOf_4 : decode cX6_causeOf 4 = .ok (.iload_n 1, 1) := by decide +kernel
theorem dX6_causeOf_5 : decode cX6_causeOf 5 = .ok (.iload_n 2, 1) := by decide +kernel
theorem dX6_causeOf_6 : decode cX6_causeOf 6 = .ok (.invokestatic 21, 3) := by decide +kernel
theorem dX6_causeOf_9 : decode cX6_causeOf 9 = .ok (.iaload, 1) := by decide +kernel
theorem dX6_causeOf_10 : decode cX6_causeOf 10 = .ok (.ireturn, 1) := by decide +kernel
theorem dX6_open_0 : decode cX6_open 0 = .ok (.aload_n 0, 1) := by decide +kernel
theorem dX6_open_1 : decode cX6_open 1 = .ok (.iload_n 1, 1) := by decide +kernel
theorem dX6_open_2 : decode cX6_open 2 = .ok (.iconst 0, 1) := by decide +kernel
theorem dX6_open_3 : decode cX6_open 3 = .ok (.iload_n 2, 1) := by decide +kernel
theorem dX6_open_4 : decode cX6_open 4 = .ok (.bipush (-9), 2) := by decide +kernel
theorem dX6_open_6 : decode cX6_open 6 = .ok (.bipush (-9), 2) := by decide +kernel
theorem dX6_open_8 : decode cX6_open 8 = .ok (.invokevirtual 25, 3) := by decide +kernel
theorem dX6_open_11 : decode cX6_open 11 = .ok (.aload_n 0, 1) := by decide +kernel
theorem dX6_open_12 : decode cX6_open 12 = .ok (.iload_n 1, 1) := by decide +kernel
theorem dX6_open_13 : decode cX6_open 13 = .ok (.iconst 1, 1) := by decide +kernel
theorem dX6_open_14 : decode cX6_open 14 = .ok (.iload_n 3, 1) := by decide +kernel
theorem dX6_open_15 : decode cX6_open 15 = .ok (.bipush (-9), 2) := by decide +kernel
theorem dX6_open_17 : decode cX6_open 17 = .ok (.bipush (-9), 2) := by decide +kernel
theorem dX6_open_19 : decode cX6_open 19 = .ok (.invokevirtual 25, 3) := by decide +kernel
theorem dX6_open_22 : decode cX6_open 22 = .ok (.return_, 1) := by decide +kernel
theorem dX6_move_0 : decode cX6_move 0 = .ok (.iload_n 1, 1) := by decide +kernel
theorem dX6_move_1 : decode cX6_move 1 = .ok (.iload_n 2, 1) := by decide +kernel
theorem dX6_move_2 : decode cX6_move 2 = .ok (.invokestatic 21, 3) := by decide +kernel
theorem dX6_move_5 : decode cX6_move 5 = .ok (.istore 6, 2) := by decide +kernel
theorem dX6_move_7 : decode cX6_move 7 = .ok (.aload_n 0, 1) := by decide +kernel
theorem dX6_move_8 : decode cX6_move 8 = .ok (.getfield 11, 3) := by decide +kernel
theorem dX6_move_11 : decode cX6_move 11 = .ok (.iload 6, 2) := by decide +kernel
theorem dX6_move_13 : decode cX6_move 13 = .ok (.iload_n 3, 1) := by decide +kernel
theorem dX6_move_14 : decode cX6_move 14 = .ok (.iastore, 1) := by decide +kernel
theorem dX6_move_15 : decode cX6_move 15 = .ok (.aload_n 0, 1) := by decide +kernel
theorem dX6_move_16 : decode cX6_move 16 = .ok (.getfield 15, 3) := by decide +kernel
theorem dX6_move_19 : decode cX6_move 19 = .ok (.iload 6, 2) := by decide +kernel
theorem dX6_move_21 : decode cX6_move 21 = .ok (.iload 4, 2) := by decide +kernel
theorem dX6_move_23 : decode cX6_move 23 = .ok (.iastore, 1) := by decide +kernel
theorem dX6_move_24 : decode cX6_move 24 = .ok (.aload_n 0, 1) := by decide +kernel
theorem dX6_move_25 : decode cX6_move 25 = .ok (.getfield 18, 3) := by decide +kernel
theorem dX6_move_28 : decode cX6_move 28 = .ok (.iload 6, 2) := by decide +kernel
theorem dX6_move_30 : decode cX6_move 30 = .ok (.iload 5, 2) := by decide +kernel
theorem dX6_move_32 : decode cX6_move 32 = .ok (.iastore, 1) := by decide +kernel
theorem dX6_move_33 : decode cX6_move 33 = .ok (.return_, 1) := by decide +kernel
theorem dX6_take_0 : decode cX6_take 0 = .ok (.iconst 0, 1) := by decide +kernel
theorem dX6_take_1 : decode cX6_take 1 = .ok (.istore_n 2, 1) := by decide +kernel
theorem dX6_take_2 : decode cX6_take 2 = .ok (.iload_n 2, 1) := by decide +kernel
theorem dX6_take_3 : decode cX6_take 3 = .ok (.bipush 10, 2) := by decide +kernel
theorem dX6_take_5 : decode cX6_take 5 = .ok (.if_icmp .ge 45, 3) := by decide +kernel
theorem dX6_take_8 : decode cX6_take 8 = .ok (.aload_n 0, 1) := by decide +kernel
theorem dX6_take_9 : decode cX6_take 9 = .ok (.getfield 11, 3) := by decide +kernel
theorem dX6_take_12 : decode cX6_take 12 = .ok (.iload_n 2, 1) := by decide +kernel
theorem dX6_take_13 : decode cX6_take 13 = .ok (.aload_n 1, 1) := by decide +kernel
theorem dX6_take_14 : decode cX6_take 14 = .ok (.getfield 11, 3) := by decide +kernel
theorem dX6_take_17 : decode cX6_take 17 = .ok (.iload_n 2, 1) := by decide +kernel
theorem dX6_take_18 : decode cX6_take 18 = .ok (.iaload, 1) := by decide +kernel
theorem dX6_take_19 : decode cX6_take 19 = .ok (.iastore, 1) := by decide +kernel
theorem dX6_take_20 : decode cX6_take 20 = .ok (.aload_n 0, 1) := by decide +kernel
theorem dX6_take_21 : decode cX6_take 21 = .ok (.getfield 15, 3) := by decide +kernel
theorem dX6_take_24 : decode cX6_take 24 = .ok (.iload_n 2, 1) := by decide +kernel
theorem dX6_take_25 : decode cX6_take 25 = .ok (.aload_n 1, 1) := by decide +kernel
theorem dX6_take_26 : decode cX6_take 26 = .ok (.getfield 15, 3) := by decide +kernel
theorem dX6_take_29 : decode cX6_take 29 = .ok (.iload_n 2, 1) := by decide +kernel
theorem dX6_take_30 : decode cX6_take 30 = .ok (.iaload, 1) := by decide +kernel
theorem dX6_take_31 : decode cX6_take 31 = .ok (.iastore, 1) := by decide +kernel
theorem dX6_take_32 : decode cX6_take 32 = .ok (.aload_n 0, 1) := by decide +kernel
theorem dX6_take_33 : decode cX6_take 33 = .ok (.getfield 18, 3) := by decide +kernel
theorem dX6_take_36 : decode cX6_take 36 = .ok (.iload_n 2, 1) := by decide +kernel
theorem dX6_take_37 : decode cX6_take 37 = .ok (.aload_n 1, 1) := by decide +kernel
theorem dX6_take_38 : decode cX6_take 38 = .ok (.getfield 18, 3) := by decide +kernel
theorem dX6_take_41 : decode cX6_take 41 = .ok (.iload_n 2, 1) := by decide +kernel
theorem dX6_take_42 : decode cX6_take 42 = .ok (.iaload, 1) := by decide +kernel
theorem dX6_take_43 : decode cX6_take 43 = .ok (.iastore, 1) := by decide +kernel
theorem dX6_take_44 : decode cX6_take 44 = .ok (.iinc 2 1, 3) := by decide +kernel
theorem dX6_take_47 : decode cX6_take 47 = .ok (.goto (-45), 3) := by decide +kernel
theorem dX6_take_50 : decode cX6_take 50 = .ok (.return_, 1) := by decide +kernel
theorem dX6_isBroken_0 : decode cX6_isBroken 0 = .ok (.iconst 0, 1) := by decide +kernel
theorem dX6_isBroken_1 : decode cX6_isBroken 1 = .ok (.istore_n 2, 1) := by decide +kernel
theorem dX6_isBroken_2 : decode cX6_isBroken 2 = .ok (.iload_n 2, 1) := by decide +kernel
theorem dX6_isBroken_3 : decode cX6_isBroken 3 = .ok (.aload_n 1, 1) := by decide +kernel
theorem dX6_isBroken_4 : decode cX6_isBroken 4 = .ok (.getfield 29, 3) := by decide +kernel
theorem dX6_isBroken_7 : decode cX6_isBroken 7 = .ok (.if_icmp .ge 33, 3) := by decide +kernel
theorem dX6_isBroken_10 : decode cX6_isBroken 10 = .ok (.aload_n 0, 1) := by decide +kernel
theorem dX6_isBroken_11 : decode cX6_isBroken 11 = .ok (.iload_n 2, 1) := by decide +kernel
theorem dX6_isBroken_12 : decode cX6_isBroken 12 = .ok (.iconst 0, 1) := by decide +kernel
theorem dX6_isBroken_13 : decode cX6_isBroken 13 = .ok (.invokevirtual 35, 3) := by decide +kernel
theorem dX6_isBroken_16 : decode cX6_isBroken 16 = .ok (.aload_n 1, 1) := by decide +kernel
theorem dX6_isBroken_17 : decode cX6_isBroken 17 = .ok (.getfield 38, 3) := by decide +kernel
theorem dX6_isBroken_20 : decode cX6_isBroken 20 = .ok (.iload_n 2, 1) := by decide +kernel
theorem dX6_isBroken_21 : decode cX6_isBroken 21 = .ok (.iaload, 1) := by decide +kernel
theorem dX6_isBroken_22 : decode cX6_isBroken 22 = .ok (.iadd, 1) := by decide +kernel
theorem dX6_isBroken_23 : decode cX6_isBroken 23 = .ok (.aload_n 0, 1) := by decide +kernel
theorem dX6_isBroken_24 : decode cX6_isBroken 24 = .ok (.iload_n 2, 1) := by decide +kernel
theorem dX6_isBroken_25 : decode cX6_isBroken 25 = .ok (.iconst 1, 1) := by decide +kernel
theorem dX6_isBroken_26 : decode cX6_isBroken 26 = .ok (.invokevirtual 35, 3) := by decide +kernel
theorem dX6_isBroken_29 : decode cX6_isBroken 29 = .ok (.if_icmp .le 5, 3) := by decide +kernel
theorem dX6_isBroken_32 : decode cX6_isBroken 32 = .ok (.iconst 1, 1) := by decide +kernel
theorem dX6_isBroken_33 : decode cX6_isBroken 33 = .ok (.ireturn, 1) := by decide +kernel
theorem dX6_isBroken_34 : decode cX6_isBroken 34 = .ok (.iinc 2 1, 3) := by decide +kernel
theorem dX6_isBroken_37 : decode cX6_isBroken 37 = .ok (.goto (-35), 3) := by decide +kernel
theorem dX6_isBroken_40 : decode cX6_isBroken 40 = .ok (.iconst 0, 1) := by decide +kernel
theorem dX6_isBroken_41 : decode cX6_isBroken 41 = .ok (.ireturn, 1) := by decide +kernel
theorem dX6_others_0 : decode cX6_others 0 = .ok (.iconst 0, 1) := by decide +kernel
theorem dX6_others_1 : decode cX6_others 1 = .ok (.istore_n 3, 1) := by decide +kernel
theorem dX6_others_2 : decode cX6_others 2 = .ok (.iconst 0, 1) := by decide +kernel
theorem dX6_others_3 : decode cX6_others 3 = .ok (.istore 4, 2) := by decide +kernel
theorem dX6_others_5 : decode cX6_others 5 = .ok (.iload 4, 2) := by decide +kernel
theorem dX6_others_7 : decode cX6_others 7 = .ok (.iload_n 2, 1) := by decide +kernel
theorem dX6_others_8 : decode cX6_others 8 = .ok (.if_icmp .ge 59, 3) := by decide +kernel
theorem dX6_others_11 : decode cX6_others 11 = .ok (.iload_n 3, 1) := by decide +kernel
theorem dX6_others_12 : decode cX6_others 12 = .ok (.aload_n 0, 1) := by decide +kernel
theorem dX6_others_13 : decode cX6_others 13 = .ok (.iload 4, 2) := by decide +kernel
theorem dX6_others_15 : decode cX6_others 15 = .ok (.iconst 0, 1) := by decide +kernel
theorem dX6_others_16 : decode cX6_others 16 = .ok (.invokevirtual 35, 3) := by decide +kernel
theorem dX6_others_19 : decode cX6_others 19 = .ok (.aload_n 1, 1) := by decide +kernel
theorem dX6_others_20 : decode cX6_others 20 = .ok (.iload 4, 2) := by decide +kernel
theorem dX6_others_22 : decode cX6_others 22 = .ok (.iconst 0, 1) := by decide +kernel
theorem dX6_others_23 : decode cX6_others 23 = .ok (.invokevirtual 35, 3) := by decide +kernel
theorem dX6_others_26 : decode cX6_others 26 = .ok (.if_icmp .eq 7, 3) := by decide +kernel
theorem dX6_others_29 : decode cX6_others 29 = .ok (.iconst 1, 1) := by decide +kernel
theorem dX6_others_30 : decode cX6_others 30 = .ok (.goto 4, 3) := by decide +kernel
theorem dX6_others_33 : decode cX6_others 33 = .ok (.iconst 0, 1) := by decide +kernel
theorem dX6_others_34 : decode cX6_others 34 = .ok (.iadd, 1) := by decide +kernel
theorem dX6_others_35 : decode cX6_others 35 = .ok (.istore_n 3, 1) := by decide +kernel
theorem dX6_others_36 : decode cX6_others 36 = .ok (.iload_n 3, 1) := by decide +kernel
theorem dX6_others_37 : decode cX6_others 37 = .ok (.aload_n 0, 1) := by decide +kernel
theorem dX6_others_38 : decode cX6_others 38 = .ok (.iload 4, 2) := by decide +kernel
theorem dX6_others_40 : decode cX6_others 40 = .ok (.iconst 1, 1) := by decide +kernel
theorem dX6_others_41 : decode cX6_others 41 = .ok (.invokevirtual 35, 3) := by decide +kernel
theorem dX6_others_44 : decode cX6_others 44 = .ok (.aload_n 1, 1) := by decide +kernel
theorem dX6_others_45 : decode cX6_others 45 = .ok (.iload 4, 2) := by decide +kernel
theorem dX6_others_47 : decode cX6_others 47 = .ok (.iconst 1, 1) := by decide +kernel
theorem dX6_others_48 : decode cX6_others 48 = .ok (.invokevirtual 35, 3) := by decide +kernel
theorem dX6_others_51 : decode cX6_others 51 = .ok (.if_icmp .eq 7, 3) := by decide +kernel
theorem dX6_others_54 : decode cX6_others 54 = .ok (.iconst 1, 1) := by decide +kernel
theorem dX6_others_55 : decode cX6_others 55 = .ok (.goto 4, 3) := by decide +kernel
theorem dX6_others_58 : decode cX6_others 58 = .ok (.iconst 0, 1) := by decide +kernel
theorem dX6_others_59 : decode cX6_others 59 = .ok (.iadd, 1) := by decide +kernel
theorem dX6_others_60 : decode cX6_others 60 = .ok (.istore_n 3, 1) := by decide +kernel
theorem dX6_others_61 : decode cX6_others 61 = .ok (.iinc 4 1, 3) := by decide +kernel
theorem dX6_others_64 : decode cX6_others 64 = .ok (.goto (-59), 3) := by decide +kernel
theorem dX6_others_67 : decode cX6_others 67 = .ok (.iload_n 3, 1) := by decide +kernel
theorem dX6_others_68 : decode cX6_others 68 = .ok (.ireturn, 1) := by decide +kernel
theorem dX7_init_0 : decode cX7_init 0 = .ok (.aload_n 0, 1) := by decide +kernel
theorem dX7_init_1 : decode cX7_init 1 = .ok (.invokespecial 3, 3) := by decide +kernel
theorem dX7_init_4 : decode cX7_init 4 = .ok (.aload_n 0, 1) := by decide +kernel
theorem dX7_init_5 : decode cX7_init 5 = .ok (.new 9, 3) := by decide +kernel
theorem dX7_init_8 : decode cX7_init 8 = .ok (.dup, 1) := by decide +kernel
theorem dX7_init_9 : decode cX7_init 9 = .ok (.invokespecial 11, 3) := by decide +kernel
theorem dX7_init_12 : decode cX7_init 12 = .ok (.putfield 12, 3) := by decide +kernel
theorem dX7_init_15 : decode cX7_init 15 = .ok (.aload_n 0, 1) := by decide +kernel
theorem dX7_init_16 : decode cX7_init 16 = .ok (.new 16, 3) := by decide +kernel
theorem dX7_init_19 : decode cX7_init 19 = .ok (.dup, 1) := by decide +kernel
theorem dX7_init_20 : decode cX7_init 20 = .ok (.invokespecial 18, 3) := by decide +kernel
theorem dX7_init_23 : decode cX7_init 23 = .ok (.putfield 19, 3) := by decide +kernel
theorem dX7_init_26 : decode cX7_init 26 = .ok (.aload_n 0, 1) := by decide +kernel
theorem dX7_init_27 : decode cX7_init 27 = .ok (.new 16, 3) := by decide +kernel
theorem dX7_init_30 : decode cX7_init 30 = .ok (.dup, 1) := by decide +kernel
theorem dX7_init_31 : decode cX7_init 31 = .ok (.invokespecial 18, 3) := by decide +kernel
theorem dX7_init_34 : decode cX7_init 34 = .ok (.putfield 23, 3) := by decide +kernel
theorem dX7_init_37 : decode cX7_init 37 = .ok (.aload_n 0, 1) := by decide +kernel
theorem dX7_init_38 : decode cX7_init 38 = .ok (.new 26, 3) := by decide +kernel
theorem dX7_init_41 : decode cX7_init 41 = .ok (.dup, 1) := by decide +kernel
theorem dX7_init_42 : decode cX7_init 42 = .ok (.invokespecial 28, 3) := by decide +kernel
theorem dX7_init_45 : decode cX7_init 45 = .ok (.putfield 29, 3) := by decide +kernel
theorem dX7_init_48 : decode cX7_init 48 = .ok (.aload_n 0, 1) := by decide +kernel
theorem dX7_init_49 : decode cX7_init 49 = .ok (.new 26, 3) := by decide +kernel
theorem dX7_init_52 : decode cX7_init 52 = .ok (.dup, 1) := by decide +kernel
theorem dX7_init_53 : decode cX7_init 53 = .ok (.invokespecial 28, 3) := by decide +kernel
theorem dX7_init_56 : decode cX7_init 56 = .ok (.putfield 33, 3) := by decide +kernel
theorem dX7_init_59 : decode cX7_init 59 = .ok (.aload_n 0, 1) := by decide +kernel
theorem dX7_init_60 : decode cX7_init 60 = .ok (.iconst 2, 1) := by decide +kernel
theorem dX7_init_61 : decode cX7_init 61 = .ok (.anewarray 26, 3) := by decide +kernel
theorem dX7_init_64 : decode cX7_init 64 = .ok (.putfield 36, 3) := by decide +kernel
theorem dX7_init_67 : decode cX7_init 67 = .ok (.aload_n 0, 1) := by decide +kernel
theorem dX7_init_68 : decode cX7_init 68 = .ok (.iconst 2, 1) := by decide +kernel
theorem dX7_init_69 : decode cX7_init 69 = .ok (.newarray .boolean, 2) := by decide +kernel
theorem dX7_init_71 : decode cX7_init 71 = .ok (.putfield 40, 3) := by decide +kernel
theorem dX7_init_74 : decode cX7_init 74 = .ok (.aload_n 0, 1) := by decide +kernel
theorem dX7_init_75 : decode cX7_init 75 = .ok (.new 44, 3) := by decide +kernel
theorem dX7_init_78 : decode cX7_init 78 = .ok (.dup, 1) := by decide +kernel
theorem dX7_init_79 : decode cX7_init 79 = .ok (.invokespecial 46, 3) := by decide +kernel
theorem dX7_init_82 : decode cX7_init 82 = .ok (.putfield 47, 3) := by decide +kernel
theorem dX7_init_85 : decode cX7_init 85 = .ok (.aload_n 0, 1) := by decide +kernel
theorem dX7_init_86 : decode cX7_init 86 = .ok (.new 51, 3) := by decide +kernel
theorem dX7_init_89 : decode cX7_init 89 = .ok (.dup, 1) := by decide +kernel
theorem dX7_init_90 : decode cX7_init 90 = .ok (.aload_n 0, 1) := by decide +kernel
theorem dX7_init_91 : decode cX7_init 91 = .ok (.getfield 19, 3) := by decide +kernel
theorem dX7_init_94 : decode cX7_init 94 = .ok (.invokespecial 53, 3) := by decide +kernel
theorem dX7_init_97 : decode cX7_init 97 = .ok (.putfield 56, 3) := by decide +kernel
theorem dX7_init_100 : decode cX7_init 100 = .ok (.aload_n 0, 1) := by decide +kernel
theorem dX7_init_101 : decode cX7_init 101 = .ok (.new 60, 3) := by decide +kernel
theorem dX7_init_104 : decode cX7_init 104 = .ok (.dup, 1) := by decide +kernel
theorem dX7_init_105 : decode cX7_init 105 = .ok (.aload_n 0, 1) := by decide +kernel
theorem dX7_init_106 : decode cX7_init 106 = .ok (.getfield 19, 3) := by decide +kernel
theorem dX7_init_109 : decode cX7_init 109 = .ok (.aload_n 0, 1) := by decide +kernel
theorem dX7_init_110 : decode cX7_init 110 = .ok (.getfield 56, 3) := by decide +kernel
theorem dX7_init_113 : decode cX7_init 113 = .ok (.invokespecial 62, 3) := by decide +kernel
theorem dX7_init_116 : decode cX7_init 116 = .ok (.putfield 65, 3) := by decide +kernel
theorem dX7_init_119 : decode cX7_init 119 = .ok (.aload_n 0, 1) := by decide +kernel
theorem dX7_init_120 : decode cX7_init 120 = .ok (.new 69, 3) := by decide +kernel
theorem dX7_init_123 : decode cX7_init 123 = .ok (.dup, 1) := by decide +kernel
theorem dX7_init_124 : decode cX7_init 124 = .ok (.aload_n 0, 1) := by decide +kernel
theorem dX7_init_125 : decode cX7_init 125 = .ok (.getfield 19, 3) := by decide +kernel
theorem dX7_init_128 : decode cX7_init 128 = .ok (.invokespecial 71, 3) := by decide +kernel
theorem dX7_init_131 : decode cX7_init 131 = .ok (.putfield 72, 3) := by decide +kernel
theorem dX7_init_134 : decode cX7_init 134 = .ok (.iconst 0, 1) := by decide +kernel
theorem dX7_init_135 : decode cX7_init 135 = .ok (.istore_n 1, 1) := by decide +kernel
theorem dX7_init_136 : decode cX7_init 136 = .ok (.iload_n 1, 1) := by decide +kernel
theorem dX7_init_137 : decode cX7_init 137 = .ok (.iconst 2, 1) := by decide +kernel
theorem dX7_init_138 : decode cX7_init 138 = .ok (.if_icmp .ge 22, 3) := by decide +kernel
theorem dX7_init_141 : decode cX7_init 141 = .ok (.aload_n 0, 1) := by decide +kernel
theorem dX7_init_142 : decode cX7_init 142 = .ok (.getfield 36, 3) := by decide +kernel
theorem dX7_init_145 : decode cX7_init 145 = .ok (.iload_n 1, 1) := by decide +kernel
theorem dX7_init_146 : decode cX7_init 146 = .ok (.new 26, 3) := by decide +kernel
theorem dX7_init_149 : decode cX7_init 149 = .ok (.dup, 1) := by decide +kernel
theorem dX7_init_150 : decode cX7_init 150 = .ok (.invokespecial 28, 3) := by decide +kernel
theorem dX7_init_153 : decode cX7_init 153 = .ok (.aastore, 1) := by decide +kernel
theorem dX7_init_154 : decode cX7_init 154 = .ok (.iinc 1 1, 3) := by decide +kernel
theorem dX7_init_157 : decode cX7_init 157 = .ok (.goto (-21), 3) := by decide +kernel
theorem dX7_init_160 : decode cX7_init 160 = .ok (.return_, 1) := by decide +kernel
theorem dX7_type_0 : decode cX7_type 0 = .ok (.iload_n 1, 1) := by decide +kernel
theorem dX7_type_1 : decode cX7_type 1 = .ok (.ifCond .lt 10, 3) := by decide +kernel
theorem dX7_type_4 : decode cX7_type 4 = .ok (.iload_n 1, 1) := by decide +kernel
theorem dX7_type_5 : decode cX7_type 5 = .ok (.sipush 255, 3) := by decide +kernel
theorem dX7_type_8 : decode cX7_type 8 = .ok (.if_icmp .le 5, 3) := by decide +kernel
theorem dX7_type_11 : decode cX7_type 11 = .ok (.iconst (-1), 1) := by decide +kernel
theorem dX7_type_12 : decode cX7_type 12 = .ok (.ireturn, 1) := by decide +kernel
theorem dX7_type_13 : decode cX7_type 13 = .ok (.aload_n 0, 1) := by decide +kernel
theorem dX7_type_14 : decode cX7_type 14 = .ok (.getfield 12, 3) := by decide +kernel
theorem dX7_type_17 : decode cX7_type 17 = .ok (.iload_n 1, 1) := by decide +kernel
theorem dX7_type_18 : decode cX7_type 18 = .ok (.invokevirtual 76, 3) := by decide +kernel
theorem dX7_type_21 : decode cX7_type 21 = .ok (.ifCond .eq 13, 3) := by decide +kernel
theorem dX7_type_24 : decode cX7_type 24 = .ok (.aload_n 0, 1) := by decide +kernel
theorem dX7_type_25 : decode cX7_type 25 = .ok (.getfield 12, 3) := by decide +kernel
theorem dX7_type_28 : decode cX7_type 28 = .ok (.getfield 80, 3) := by decide +kernel
theorem dX7_type_31 : decode cX7_type 31 = .ok (.goto 5, 3) := by decide +kernel
theorem dX7_type_34 : decode cX7_type 34 = .ok (.bipush (-3), 2) := by decide +kernel
theorem dX7_type_36 : decode cX7_type 36 = .ok (.ireturn, 1) := by decide +kernel
theorem dX7_clear_0 : decode cX7_clear 0 = .ok (.aload_n 0, 1) := by decide +kernel
theorem dX7_clear_1 : decode cX7_clear 1 = .ok (.getfield 12, 3) := by decide +kernel
theorem dX7_clear_4 : decode cX7_clear 4 = .ok (.getfield 80, 3) := by decide +kernel
theorem dX7_clear_7 : decode cX7_clear 7 = .ok (.istore_n 1, 1) := by decide +kernel
theorem dX7_clear_8 : decode cX7_clear 8 = .ok (.aload_n 0, 1) := by decide +kernel
theorem dX7_clear_9 : decode cX7_clear 9 = .ok (.getfield 12, 3) := by decide +kernel
theorem dX7_clear_12 : decode cX7_clear 12 = .ok (.iconst 0, 1) := by decide +kernel
theorem dX7_clear_13 : decode cX7_clear 13 = .ok (.putfield 80, 3) := by decide +kernel
theorem dX7_clear_16 : decode cX7_clear 16 = .ok (.iload_n 1, 1) := by decide +kernel
theorem dX7_clear_17 : decode cX7_clear 17 = .ok (.ireturn, 1) := by decide +kernel
theorem dX7_desk_0 : decode cX7_desk 0 = .ok (.aload_n 0, 1) := by decide +kernel
theorem dX7_desk_1 : decode cX7_desk 1 = .ok (.getfield 12, 3) := by decide +kernel
theorem dX7_desk_4 : decode cX7_desk 4 = .ok (.aload_n 0, 1) := by decide +kernel
theorem dX7_desk_5 : decode cX7_desk 5 = .ok (.getfield 23, 3) := by decide +kernel
theorem dX7_desk_8 : decode cX7_desk 8 = .ok (.aload_n 0, 1) := by decide +kernel
theorem dX7_desk_9 : decode cX7_desk 9 = .ok (.getfield 33, 3) := by decide +kernel
theorem dX7_desk_12 : decode cX7_desk 12 = .ok (.invokevirtual 84, 3) := by decide +kernel
theorem dX7_desk_15 : decode cX7_desk 15 = .ok (.istore_n 1, 1) := by decide +kernel
theorem dX7_desk_16 : decode cX7_desk 16 = .ok (.iload_n 1, 1) := by decide +kernel
theorem dX7_desk_17 : decode cX7_desk 17 = .ok (.ifCond .ge 5, 3) := by decide +kernel
theorem dX7_desk_20 : decode cX7_desk 20 = .ok (.iload_n 1, 1) := by decide +kernel
theorem dX7_desk_21 : decode cX7_desk 21 = .ok (.ireturn, 1) := by decide +kernel
theorem dX7_desk_22 : decode cX7_desk 22 = .ok (.aload_n 0, 1) := by decide +kernel
theorem dX7_desk_23 : decode cX7_desk 23 = .ok (.getfield 19, 3) := by decide +kernel
theorem dX7_desk_26 : decode cX7_desk 26 = .ok (.aload_n 0, 1) := by decide +kernel
theorem dX7_desk_27 : decode cX7_desk 27 = .ok (.getfield 23, 3) := by decide +kernel
theorem dX7_desk_30 : decode cX7_desk 30 = .ok (.invokevirtual 88, 3) := by decide +kernel
theorem dX7_desk_33 : decode cX7_desk 33 = .ok (.aload_n 0, 1) := by decide +kernel
theorem dX7_desk_34 : decode cX7_desk 34 = .ok (.getfield 29, 3) := by decide +kernel
theorem dX7_desk_37 : decode cX7_desk 37 = .ok (.aload_n 0, 1) := by decide +kernel
theorem dX7_desk_38 : decode cX7_desk 38 = .ok (.getfield 33, 3) := by decide +kernel
theorem dX7_desk_41 : decode cX7_desk 41 = .ok (.invokevirtual 91, 3) := by decide +kernel
theorem dX7_desk_44 : decode cX7_desk 44 = .ok (.aload_n 0, 1) := by decide +kernel
theorem dX7_desk_45 : decode cX7_desk 45 = .ok (.getfield 12, 3) := by decide +kernel
theorem dX7_desk_48 : decode cX7_desk 48 = .ok (.iconst 0, 1) := by decide +kernel
theorem dX7_desk_49 : decode cX7_desk 49 = .ok (.putfield 80, 3) := by decide +kernel
theorem dX7_desk_52 : decode cX7_desk 52 = .ok (.aload_n 0, 1) := by decide +kernel
theorem dX7_desk_53 : decode cX7_desk 53 = .ok (.getfield 47, 3) := by decide +kernel
theorem dX7_desk_56 : decode cX7_desk 56 = .ok (.iconst 0, 1) := by decide +kernel
theorem dX7_desk_57 : decode cX7_desk 57 = .ok (.putfield 94, 3) := by decide +kernel
theorem dX7_desk_60 : decode cX7_desk 60 = .ok (.iconst 0, 1) := by decide +kernel
theorem dX7_desk_61 : decode cX7_desk 61 = .ok (.istore_n 2, 1) := by decide +kernel
theorem dX7_desk_62 : decode cX7_desk 62 = .ok (.iload_n 2, 1) := by decide +kernel
theorem dX7_desk_63 : decode cX7_desk 63 = .ok (.iconst 2, 1) := by decide +kernel
theorem dX7_desk_64 : decode cX7_desk 64 = .ok (.if_icmp .ge 16, 3) := by decide +kernel
theorem dX7_desk_67 : decode cX7_desk 67 = .ok (.aload_n 0, 1) := by decide +kernel
theorem dX7_desk_68 : decode cX7_desk 68 = .ok (.getfield 40, 3) := by decide +kernel
theorem dX7_desk_71 : decode cX7_desk 71 = .ok (.iload_n 2, 1) := by decide +kernel
theorem dX7_desk_72 : decode cX7_desk 72 = .ok (.iconst 0, 1) := by decide +kernel
theorem dX7_desk_73 : decode cX7_desk 73 = .ok (.bastore, 1) := by decide +kernel
theorem dX7_desk_74 : decode cX7_desk 74 = .ok (.iinc 2 1, 3) := by decide +kernel
theorem dX7_desk_77 : decode cX7_desk 77 = .ok (.goto (-15), 3) := by decide +kernel
theorem dX7_desk_80 : decode cX7_desk 80 = .ok (.iload_n 1, 1) := by decide +kernel
theorem dX7_desk_81 : decode cX7_desk 81 = .ok (.ireturn, 1) := by decide +kernel
theorem dX7_task_0 : decode cX7_task 0 = .ok (.aload_n 0, 1) := by decide +kernel
theorem dX7_task_1 : decode cX7_task 1 = .ok (.getfield 19, 3) := by decide +kernel
theorem dX7_task_4 : decode cX7_task 4 = .ok (.iload_n 1, 1) := by decide +kernel
theorem dX7_task_5 : decode cX7_task 5 = .ok (.invokevirtual 97, 3) := by decide +kernel
theorem dX7_task_8 : decode cX7_task 8 = .ok (.ifCond .ne 5, 3) := by decide +kernel
theorem dX7_task_11 : decode cX7_task 11 = .ok (.iconst (-1), 1) := by decide +kernel
theorem dX7_task_12 : decode cX7_task 12 = .ok (.ireturn, 1) := by decide +kernel
theorem dX7_task_13 : decode cX7_task 13 = .ok (.iload_n 2, 1) := by decide +kernel
theorem dX7_task_14 : decode cX7_task 14 = .ok (.tableswitch 104 0 5 #[38, 48, 58, 68, 78, 91], 38) := by decide +kernel
theorem dX7_task_52 : decode cX7_task 52 = .ok (.aload_n 0, 1) := by decide +kernel
theorem dX7_task_53 : decode cX7_task 53 = .ok (.getfield 29, 3) := by decide +kernel
theorem dX7_task_56 : decode cX7_task 56 = .ok (.iload_n 1, 1) := by decide +kernel
theorem dX7_task_57 : decode cX7_task 57 = .ok (.iconst 0, 1) := by decide +kernel
theorem dX7_task_58 : decode cX7_task 58 = .ok (.invokevirtual 100, 3) := by decide +kernel
theorem dX7_task_61 : decode cX7_task 61 = .ok (.ireturn, 1) := by decide +kernel
theorem dX7_task_62 : decode cX7_task 62 = .ok (.aload_n 0, 1) := by decide +kernel
theorem dX7_task_63 : decode cX7_task 63 = .ok (.getfield 29, 3) := by decide +kernel
theorem dX7_task_66 : decode cX7_task 66 = .ok (.iload_n 1, 1) := by decide +kernel
theorem dX7_task_67 : decode cX7_task 67 = .ok (.iconst 1, 1) := by decide +kernel
theorem dX7_task_68 : decode cX7_task 68 = .ok (.invokevirtual 100, 3) := by decide +kernel
theorem dX7_task_71 : decode cX7_task 71 = .ok (.ireturn, 1) := by decide +kernel
theorem dX7_task_72 : decode cX7_task 72 = .ok (.aload_n 0, 1) := by decide +kernel
theorem dX7_task_73 : decode cX7_task 73 = .ok (.getfield 19, 3) := by decide +kernel
theorem dX7_task_76 : decode cX7_task 76 = .ok (.getfield 104, 3) := by decide +kernel
theorem dX7_task_79 : decode cX7_task 79 = .ok (.iload_n 1, 1) := by decide +kernel
theorem dX7_task_80 : decode cX7_task 80 = .ok (.iaload, 1) := by decide +kernel
theorem dX7_task_81 : decode cX7_task 81 = .ok (.ireturn, 1) := by decide +kernel
theorem dX7_task_82 : decode cX7_task 82 = .ok (.aload_n 0, 1) := by decide +kernel
theorem dX7_task_83 : decode cX7_task 83 = .ok (.getfield 19, 3) := by decide +kernel
theorem dX7_task_86 : decode cX7_task 86 = .ok (.getfield 108, 3) := by decide +kernel
theorem dX7_task_89 : decode cX7_task 89 = .ok (.iload_n 1, 1) := by decide +kernel
theorem dX7_task_90 : decode cX7_task 90 = .ok (.iaload, 1) := by decide +kernel
theorem dX7_task_91 : decode cX7_task 91 = .ok (.ireturn, 1) := by decide +kernel
theorem dX7_task_92 : decode cX7_task 92 = .ok (.aload_n 0, 1) := by decide +kernel
theorem dX7_task_93 : decode cX7_task 93 = .ok (.getfield 72, 3) := by decide +kernel
theorem dX7_task_96 : decode cX7_task 96 = .ok (.aload_n 0, 1) := by decide +kernel
theorem dX7_task_97 : decode cX7_task 97 = .ok (.getfield 29, 3) := by decide +kernel
theorem dX7_task_100 : decode cX7_task 100 = .ok (.iload_n 1, 1) := by decide +kernel
theorem dX7_task_101 : decode cX7_task 101 = .ok (.invokevirtual 111, 3) := by decide +kernel
theorem dX7_task_104 : decode cX7_task 104 = .ok (.ireturn, 1) := by decide +kernel
theorem dX7_task_105 : decode cX7_task 105 = .ok (.aload_n 0, 1) := by decide +kernel
theorem dX7_task_106 : decode cX7_task 106 = .ok (.getfield 72, 3) := by decide +kernel
theorem dX7_task_109 : decode cX7_task 109 = .ok (.aload_n 0, 1) := by decide +kernel
theorem dX7_task_110 : decode cX7_task 110 = .ok (.getfield 29, 3) := by decide +kernel
theorem dX7_task_113 : decode cX7_task 113 = .ok (.iload_n 1, 1) := by decide +kernel
theorem dX7_task_114 : decode cX7_task 114 = .ok (.invokevirtual 115, 3) := by decide +kernel
theorem dX7_task_117 : decode cX7_task 117 = .ok (.ireturn, 1) := by decide +kernel
theorem dX7_task_118 : decode cX7_task 118 = .ok (.iconst (-1), 1) := by decide +kernel
theorem dX7_task_119 : decode cX7_task 119 = .ok (.ireturn, 1) := by decide +kernel
theorem dX7_why_0 : decode cX7_why 0 = .ok (.aload_n 0, 1) := by decide +kernel
theorem dX7_why_1 : decode cX7_why 1 = .ok (.getfield 19, 3) := by decide +kernel
theorem dX7_why_4 : decode cX7_why 4 = .ok (.iload_n 1, 1) := by decide +kernel
theorem dX7_why_5 : decode cX7_why 5 = .ok (.invokevirtual 97, 3) := by decide +kernel
theorem dX7_why_8 : decode cX7_why 8 = .ok (.ifCond .eq 17, 3) := by decide +kernel
theorem dX7_why_11 : decode cX7_why 11 = .ok (.iload_n 2, 1) := by decide +kernel
theorem dX7_why_12 : decode cX7_why 12 = .ok (.invokestatic 118, 3) := by decide +kernel
theorem dX7_why_15 : decode cX7_why 15 = .ok (.ifCond .eq 10, 3) := by decide +kernel
theorem dX7_why_18 : decode cX7_why 18 = .ok (.iload_n 3, 1) := by decide +kernel
theorem dX7_why_19 : decode cX7_why 19 = .ok (.invokestatic 118, 3) := by decide +kernel
theorem dX7_why_22 : decode cX7_why 22 = .ok (.ifCond .ne 5, 3) := by decide +kernel
theorem dX7_why_25 : decode cX7_why 25 = .ok (.iconst (-1), 1) := by decide +kernel
theorem dX7_why_26 : decode cX7_why 26 = .ok (.ireturn, 1) := by decide +kernel
theorem dX7_why_27 : decode cX7_why 27 = .ok (.iload_n 3, 1) := by decide +kernel
theorem dX7_why_28 : decode cX7_why 28 = .ok (.ifCond .ne 15, 3) := by decide +kernel
theorem dX7_why_31 : decode cX7_why 31 = .ok (.aload_n 0, 1) := by decide +kernel
theorem dX7_why_32 : decode cX7_why 32 = .ok (.getfield 29, 3) := by decide +kernel
theorem dX7_why_35 : decode cX7_why 35 = .ok (.iload_n 1, 1) := by decide +kernel
theorem dX7_why_36 : decode cX7_why 36 = .ok (.iload_n 2, 1) := by decide +kernel
theorem dX7_why_37 : decode cX7_why 37 = .ok (.invokevirtual 121, 3) := by decide +kernel
theorem dX7_why_40 : decode cX7_why 40 = .ok (.goto 12, 3) := by decide +kernel
theorem dX7_why_43 : decode cX7_why 43 = .ok (.aload_n 0, 1) := by decide +kernel
theorem dX7_why_44 : decode cX7_why 44 = .ok (.getfield 29, 3) := by decide +kernel
theorem dX7_why_47 : decode cX7_why 47 = .ok (.iload_n 1, 1) := by decide +kernel
theorem dX7_why_48 : decode cX7_why 48 = .ok (.iload_n 2, 1) := by decide +kernel
theorem dX7_why_49 : decode cX7_why 49 = .ok (.invokevirtual 124, 3) := by decide +kernel
theorem dX7_why_52 : decode cX7_why 52 = .ok (.ireturn, 1) := by decide +kernel
theorem dX7_must_0 : decode cX7_must 0 = .ok (.iload_n 1, 1) := by decide +kernel
theorem dX7_must_1 : decode cX7_must 1 = .ok (.ifCond .lt 9, 3) := by decide +kernel
theorem dX7_must_4 : decode cX7_must 4 = .ok (.iload_n 1, 1) := by decide +kernel
theorem dX7_must_5 : decode cX7_must 5 = .ok (.bipush 16, 2) := by decide +kernel
theorem dX7_must_7 : decode cX7_must 7 = .ok (.if_icmp .lt 5, 3) := by decide +kernel
theorem dX7_must_10 : decode cX7_must 10 = .ok (.iconst (-1), 1) := by decide +kernel
theorem dX7_must_11 : decode cX7_must 11 = .ok (.ireturn, 1) := by decide +kernel
theorem dX7_must_12 : decode cX7_must 12 = .ok (.aload_n 0, 1) := by decide +kernel
theorem dX7_must_13 : decode cX7_must 13 = .ok (.getfield 56, 3) := by decide +kernel
theorem dX7_must_16 : decode cX7_must 16 = .ok (.aload_n 0, 1) := by decide +kernel
theorem dX7_must_17 : decode cX7_must 17 = .ok (.getfield 29, 3) := by decide +kernel
theorem dX7_must_20 : decode cX7_must 20 = .ok (.iconst 0, 1) := by decide +kernel
theorem dX7_must_21 : decode cX7_must 21 = .ok (.invokevirtual 127, 3) := by decide +kernel
theorem dX7_must_24 : decode cX7_must 24 = .ok (.aload_n 0, 1) := by decide +kernel
theorem dX7_must_25 : decode cX7_must 25 = .ok (.getfield 56, 3) := by decide +kernel
theorem dX7_must_28 : decode cX7_must 28 = .ok (.iload_n 1, 1) := by decide +kernel
theorem dX7_must_29 : decode cX7_must 29 = .ok (.bipush (-9), 2) := by decide +kernel
theorem dX7_must_31 : decode cX7_must 31 = .ok (.invokevirtual 131, 3) := by decide +kernel
theorem dX7_must_34 : decode cX7_must 34 = .ok (.ireturn, 1) := by decide +kernel
theorem dX7_tightens_0 : decode cX7_tightens 0 = .ok (.iload_n 1, 1) := by decide +kernel
theorem dX7_tightens_1 : decode cX7_tightens 1 = .ok (.ifCond .lt 8, 3) := by decide +kernel
theorem dX7_tightens_4 : decode cX7_tightens 4 = .ok (.iload_n 1, 1) := by decide +kernel
theorem dX7_tightens_5 : decode cX7_tightens 5 = .ok (.iconst 4, 1) := by decide +kernel
theorem dX7_tightens_6 : decode cX7_tightens 6 = .ok (.if_icmp .le 5, 3) := by decide +kernel
theorem dX7_tightens_9 : decode cX7_tightens 9 = .ok (.iconst (-1), 1) := by decide +kernel
theorem dX7_tightens_10 : decode cX7_tightens 10 = .ok (.ireturn, 1) := by decide +kernel
theorem dX7_tightens_11 : decode cX7_tightens 11 = .ok (.aload_n 0, 1) := by decide +kernel
theorem dX7_tightens_12 : decode cX7_tightens 12 = .ok (.getfield 29, 3) := by decide +kernel
theorem dX7_tightens_15 : decode cX7_tightens 15 = .ok (.aload_n 0, 1) := by decide +kernel
theorem dX7_tightens_16 : decode cX7_tightens 16 = .ok (.getfield 19, 3) := by decide +kernel
theorem dX7_tightens_19 : decode cX7_tightens 19 = .ok (.invokevirtual 134, 3) := by decide +kernel
theorem dX7_tightens_22 : decode cX7_tightens 22 = .ok (.ifCond .eq 6, 3) := by decide +kernel
theorem dX7_tightens_25 : decode cX7_tightens 25 = .ok (.bipush (-2), 2) := by decide +kernel
theorem dX7_tightens_27 : decode cX7_tightens 27 = .ok (.ireturn, 1) := by decide +kernel
theorem dX7_tightens_28 : decode cX7_tightens 28 = .ok (.aload_n 0, 1) := by decide +kernel
theorem dX7_tightens_29 : decode cX7_tightens 29 = .ok (.getfield 47, 3) := by decide +kernel
theorem dX7_tightens_32 : decode cX7_tightens 32 = .ok (.aload_n 0, 1) := by decide +kernel
theorem dX7_tightens_33 : decode cX7_tightens 33 = .ok (.getfield 29, 3) := by decide +kernel
theorem dX7_tightens_36 : decode cX7_tightens 36 = .ok (.invokevirtual 138, 3) := by decide +kernel
theorem dX7_tightens_39 : decode cX7_tightens 39 = .ok (.iload_n 1, 1) := by decide +kernel
theorem dX7_tightens_40 : decode cX7_tightens 40 = .ok (.iconst 4, 1) := by decide +kernel
theorem dX7_tightens_41 : decode cX7_tightens 41 = .ok (.if_icmp .ne 17, 3) := by decide +kernel
theorem dX7_tightens_44 : decode cX7_tightens 44 = .ok (.aload_n 0, 1) := by decide +kernel
theorem dX7_tightens_45 : decode cX7_tightens 45 = .ok (.getfield 65, 3) := by decide +kernel
theorem dX7_tightens_48 : decode cX7_tightens 48 = .ok (.aload_n 0, 1) := by decide +kernel
theorem dX7_tightens_49 : decode cX7_tightens 49 = .ok (.getfield 29, 3) := by decide +kernel
theorem dX7_tightens_52 : decode cX7_tightens 52 = .ok (.invokevirtual 140, 3) := by decide +kernel
theorem dX7_tightens_55 : decode cX7_tightens 55 = .ok (.goto 16, 3) := by decide +kernel
theorem dX7_tightens_58 : decode cX7_tightens 58 = .ok (.aload_n 0, 1) := by decide +kernel
theorem dX7_tightens_59 : decode cX7_tightens 59 = .ok (.getfield 65, 3) := by decide +kernel
theorem dX7_tightens_62 : decode cX7_tightens 62 = .ok (.iload_n 1, 1) := by decide +kernel
theorem dX7_tightens_63 : decode cX7_tightens 63 = .ok (.aload_n 0, 1) := by decide +kernel
theorem dX7_tightens_64 : decode cX7_tightens 64 = .ok (.getfield 29, 3) := by decide +kernel
theorem dX7_tightens_67 : decode cX7_tightens 67 = .ok (.invokevirtual 143, 3) := by decide +kernel
theorem dX7_tightens_70 : decode cX7_tightens 70 = .ok (.pop, 1) := by decide +kernel
theorem dX7_tightens_71 : decode cX7_tightens 71 = .ok (.aload_n 0, 1) := by decide +kernel
theorem dX7_tightens_72 : decode cX7_tightens 72 = .ok (.getfield 29, 3) := by decide +kernel
theorem dX7_tightens_75 : decode cX7_tightens 75 = .ok (.aload_n 0, 1) := by decide +kernel
theorem dX7_tightens_76 : decode cX7_tightens 76 = .ok (.getfield 47, 3) := by decide +kernel
theorem dX7_tightens_79 : decode cX7_tightens 79 = .ok (.invokevirtual 147, 3) := by decide +kernel
theorem dX7_tightens_82 : decode cX7_tightens 82 = .ok (.aload_n 0, 1) := by decide +kernel
theorem dX7_tightens_83 : decode cX7_tightens 83 = .ok (.getfield 19, 3) := by decide +kernel
theorem dX7_tightens_86 : decode cX7_tightens 86 = .ok (.getfield 151, 3) := by decide +kernel
theorem dX7_tightens_89 : decode cX7_tightens 89 = .ok (.invokevirtual 154, 3) := by decide +kernel
theorem dX7_tightens_92 : decode cX7_tightens 92 = .ok (.ireturn, 1) := by decide +kernel
theorem dX7_puts_0 : decode cX7_puts 0 = .ok (.aload_n 0, 1) := by decide +kernel
theorem dX7_puts_1 : decode cX7_puts 1 = .ok (.getfield 19, 3) := by decide +kernel
theorem dX7_puts_4 : decode cX7_puts 4 = .ok (.iload_n 1, 1) := by decide +kernel
theorem dX7_puts_5 : decode cX7_puts 5 = .ok (.invokevirtual 97, 3) := by decide +kernel
theorem dX7_puts_8 : decode cX7_puts 8 = .ok (.ifCond .eq 20, 3) := by decide +kernel
theorem dX7_puts_11 : decode cX7_puts 11 = .ok (.iload_n 2, 1) := by decide +kernel
theorem dX7_puts_12 : decode cX7_puts 12 = .ok (.invokestatic 118, 3) := by decide +kernel
theorem dX7_puts_15 : decode cX7_puts 15 = .ok (.ifCond .eq 13, 3) := by decide +kernel
theorem dX7_puts_18 : decode cX7_puts 18 = .ok (.iload_n 3, 1) := by decide +kernel
theorem dX7_puts_19 : decode cX7_puts 19 = .ok (.ifCond .lt 9, 3) := by decide +kernel
theorem dX7_puts_22 : decode cX7_puts 22 = .ok (.iload_n 3, 1) := by decide +kernel
theorem dX7_puts_23 : decode cX7_puts 23 = .ok (.bipush 16, 2) := by decide +kernel
theorem dX7_puts_25 : decode cX7_puts 25 = .ok (.if_icmp .le 5, 3) := by decide +kernel
theorem dX7_puts_28 : decode cX7_puts 28 = .ok (.iconst (-1), 1) := by decide +kernel
theorem dX7_puts_29 : decode cX7_puts 29 = .ok (.ireturn, 1) := by decide +kernel
theorem dX7_puts_30 : decode cX7_puts 30 = .ok (.aload_n 0, 1) := by decide +kernel
theorem dX7_puts_31 : decode cX7_puts 31 = .ok (.getfield 29, 3) := by decide +kernel
theorem dX7_puts_34 : decode cX7_puts 34 = .ok (.aload_n 0, 1) := by decide +kernel
theorem dX7_puts_35 : decode cX7_puts 35 = .ok (.getfield 19, 3) := by decide +kernel
theorem dX7_puts_38 : decode cX7_puts 38 = .ok (.invokevirtual 134, 3) := by decide +kernel
theorem dX7_puts_41 : decode cX7_puts 41 = .ok (.ifCond .ne 13, 3) := by decide +kernel
theorem dX7_puts_44 : decode cX7_puts 44 = .ok (.aload_n 0, 1) := by decide +kernel
theorem dX7_puts_45 : decode cX7_puts 45 = .ok (.iload_n 1, 1) := by decide +kernel
theorem dX7_puts_46 : decode cX7_puts 46 = .ok (.iload_n 2, 1) := by decide +kernel
theorem dX7_puts_47 : decode cX7_puts 47 = .ok (.iload_n 3, 1) := by decide +kernel
theorem dX7_puts_48 : decode cX7_puts 48 = .ok (.invokevirtual 157, 3) := by decide +kernel
theorem dX7_puts_51 : decode cX7_puts 51 = .ok (.ifCond .ne 6, 3) := by decide +kernel
theorem dX7_puts_54 : decode cX7_puts 54 = .ok (.bipush (-2), 2) := by decide +kernel
theorem dX7_puts_56 : decode cX7_puts 56 = .ok (.ireturn, 1) := by decide +kernel
theorem dX7_puts_57 : decode cX7_puts 57 = .ok (.aload_n 0, 1) := by decide +kernel
theorem dX7_puts_58 : decode cX7_puts 58 = .ok (.getfield 47, 3) := by decide +kernel
theorem dX7_puts_61 : decode cX7_puts 61 = .ok (.aload_n 0, 1) := by decide +kernel
theorem dX7_puts_62 : decode cX7_puts 62 = .ok (.getfield 29, 3) := by decide +kernel
theorem dX7_puts_65 : decode cX7_puts 65 = .ok (.invokevirtual 138, 3) := by decide +kernel
theorem dX7_puts_68 : decode cX7_puts 68 = .ok (.aload_n 0, 1) := by decide +kernel
theorem dX7_puts_69 : decode cX7_puts 69 = .ok (.getfield 29, 3) := by decide +kernel
theorem dX7_puts_72 : decode cX7_puts 72 = .ok (.iload_n 1, 1) := by decide +kernel
theorem dX7_puts_73 : decode cX7_puts 73 = .ok (.iload_n 2, 1) := by decide +kernel
theorem dX7_puts_74 : decode cX7_puts 74 = .ok (.invokevirtual 100, 3) := by decide +kernel
theorem dX7_puts_77 : decode cX7_puts 77 = .ok (.istore 4, 2) := by decide +kernel
theorem dX7_puts_79 : decode cX7_puts 79 = .ok (.aload_n 0, 1) := by decide +kernel
theorem dX7_puts_80 : decode cX7_puts 80 = .ok (.getfield 29, 3) := by decide +kernel
theorem dX7_puts_83 : decode cX7_puts 83 = .ok (.iload_n 1, 1) := by decide +kernel
theorem dX7_puts_84 : decode cX7_puts 84 = .ok (.iload_n 2, 1) := by decide +kernel
theorem dX7_puts_85 : decode cX7_puts 85 = .ok (.iload_n 3, 1) := by decide +kernel
theorem dX7_puts_86 : decode cX7_puts 86 = .ok (.bipush (-9), 2) := by decide +kernel
theorem dX7_puts_88 : decode cX7_puts 88 = .ok (.bipush (-9), 2) := by decide +kernel
theorem dX7_puts_90 : decode cX7_puts 90 = .ok (.invokevirtual 161, 3) := by decide +kernel
theorem dX7_puts_93 : decode cX7_puts 93 = .ok (.iload 4, 2) := by decide +kernel
theorem dX7_puts_95 : decode cX7_puts 95 = .ok (.ireturn, 1) := by decide +kernel
theorem dX7_undo_0 : decode cX7_undo 0 = .ok (.aload_n 0, 1) := by decide +kernel
theorem dX7_undo_1 : decode cX7_undo 1 = .ok (.getfield 47, 3) := by decide +kernel
theorem dX7_undo_4 : decode cX7_undo 4 = .ok (.getfield 94, 3) := by decide +kernel
theorem dX7_undo_7 : decode cX7_undo 7 = .ok (.ifCond .ne 6, 3) := by decide +kernel
theorem dX7_undo_10 : decode cX7_undo 10 = .ok (.bipush (-2), 2) := by decide +kernel
theorem dX7_undo_12 : decode cX7_undo 12 = .ok (.ireturn, 1) := by decide +kernel
theorem dX7_undo_13 : decode cX7_undo 13 = .ok (.aload_n 0, 1) := by decide +kernel
theorem dX7_undo_14 : decode cX7_undo 14 = .ok (.getfield 47, 3) := by decide +kernel
theorem dX7_undo_17 : decode cX7_undo 17 = .ok (.aload_n 0, 1) := by decide +kernel
theorem dX7_undo_18 : decode cX7_undo 18 = .ok (.getfield 29, 3) := by decide +kernel
theorem dX7_undo_21 : decode cX7_undo 21 = .ok (.invokevirtual 165, 3) := by decide +kernel
theorem dX7_undo_24 : decode cX7_undo 24 = .ok (.aload_n 0, 1) := by decide +kernel
theorem dX7_undo_25 : decode cX7_undo 25 = .ok (.getfield 47, 3) := by decide +kernel
theorem dX7_undo_28 : decode cX7_undo 28 = .ok (.getfield 94, 3) := by decide +kernel
theorem dX7_undo_31 : decode cX7_undo 31 = .ok (.ireturn, 1) := by decide +kernel
theorem dX7_wrap_0 : decode cX7_wrap 0 = .ok (.iload_n 1, 1) := by decide +kernel
theorem dX7_wrap_1 : decode cX7_wrap 1 = .ok (.ifCond .eq 14, 3) := by decide +kernel
theorem dX7_wrap_4 : decode cX7_wrap 4 = .ok (.aload_n 0, 1) := by decide +kernel
theorem dX7_wrap_5 : decode cX7_wrap 5 = .ok (.getfield 19, 3) := by decide +kernel
theorem dX7_wrap_8 : decode cX7_wrap 8 = .ok (.iload_n 1, 1) := by decide +kernel
theorem dX7_wrap_9 : decode cX7_wrap 9 = .ok (.invokevirtual 168, 3) := by decide +kernel
theorem dX7_wrap_12 : decode cX7_wrap 12 = .ok (.ifCond .ne 5, 3) := by decide +kernel
theorem dX7_wrap_15 : decode cX7_wrap 15 = .ok (.iconst (-1), 1) := by decide +kernel
theorem dX7_wrap_16 : decode cX7_wrap 16 = .ok (.ireturn, 1) := by decide +kernel
theorem dX7_wrap_17 : decode cX7_wrap 17 = .ok (.aload_n 0, 1) := by decide +kernel
theorem dX7_wrap_18 : decode cX7_wrap 18 = .ok (.getfield 56, 3) := by decide +kernel
theorem dX7_wrap_21 : decode cX7_wrap 21 = .ok (.aload_n 0, 1) := by decide +kernel
theorem dX7_wrap_22 : decode cX7_wrap 22 = .ok (.getfield 29, 3) := by decide +kernel
theorem dX7_wrap_25 : decode cX7_wrap 25 = .ok (.iconst 0, 1) := by decide +kernel
theorem dX7_wrap_26 : decode cX7_wrap 26 = .ok (.invokevirtual 127, 3) := by decide +kernel
theorem dX7_wrap_29 : decode cX7_wrap 29 = .ok (.aload_n 0, 1) := by decide +kernel
theorem dX7_wrap_30 : decode cX7_wrap 30 = .ok (.getfield 56, 3) := by decide +kernel
theorem dX7_wrap_33 : decode cX7_wrap 33 = .ok (.iload_n 1, 1) := by decide +kernel
theorem dX7_wrap_34 : decode cX7_wrap 34 = .ok (.invokevirtual 171, 3) := by decide +kernel
theorem dX7_wrap_37 : decode cX7_wrap 37 = .ok (.ireturn, 1) := by decide +kernel
theorem dX7_grey_0 : decode cX7_grey 0 = .ok (.aload_n 0, 1) := by decide +kernel
theorem dX7_grey_1 : decode cX7_grey 1 = .ok (.getfield 19, 3) := by decide +kernel
theorem dX7_grey_4 : decode cX7_grey 4 = .ok (.iload_n 1, 1) := by decide +kernel
theorem dX7_grey_5 : decode cX7_grey 5 = .ok (.invokevirtual 168, 3) := by decide +kernel
theorem dX7_grey_8 : decode cX7_grey 8 = .ok (.ifCond .eq 18, 3) := by decide +kernel
theorem dX7_grey_11 : decode cX7_grey 11 = .ok (.aload_n 0, 1) := by decide +kernel
theorem dX7_grey_12 : decode cX7_grey 12 = .ok (.getfield 19, 3) := by decide +kernel
theorem dX7_grey_15 : decode cX7_grey 15 = .ok (.iload_n 2, 1) := by decide +kernel
theorem dX7_grey_16 : decode cX7_grey 16 = .ok (.invokevirtual 168, 3) := by decide +kernel
theorem dX7_grey_19 : decode cX7_grey 19 = .ok (.ifCond .eq 7, 3) := by decide +kernel
theorem dX7_grey_22 : decode cX7_grey 22 = .ok (.iload_n 2, 1) := by decide +kernel
theorem dX7_grey_23 : decode cX7_grey 23 = .ok (.ifCond .ne 5, 3) := by decide +kernel
theorem dX7_grey_26 : decode cX7_grey 26 = .ok (.iconst (-1), 1) := by decide +kernel
theorem dX7_grey_27 : decode cX7_grey 27 = .ok (.ireturn, 1) := by decide +kernel
theorem dX7_grey_28 : decode cX7_grey 28 = .ok (.iload_n 1, 1) := by decide +kernel
theorem dX7_grey_29 : decode cX7_grey 29 = .ok (.iload_n 2, 1) := by decide +kernel
theorem dX7_grey_30 : decode cX7_grey 30 = .ok (.iand, 1) := by decide +kernel
theorem dX7_grey_31 : decode cX7_grey 31 = .ok (.ifCond .ne 10, 3) := by decide +kernel
theorem dX7_grey_34 : decode cX7_grey 34 = .ok (.iload_n 3, 1) := by decide +kernel
theorem dX7_grey_35 : decode cX7_grey 35 = .ok (.invokestatic 118, 3) := by decide +kernel
theorem dX7_grey_38 : decode cX7_grey 38 = .ok (.ifCond .ne 5, 3) := by decide +kernel
theorem dX7_grey_41 : decode cX7_grey 41 = .ok (.iconst (-1), 1) := by decide +kernel
theorem dX7_grey_42 : decode cX7_grey 42 = .ok (.ireturn, 1) := by decide +kernel
theorem dX7_grey_43 : decode cX7_grey 43 = .ok (.aload_n 0, 1) := by decide +kernel
theorem dX7_grey_44 : decode cX7_grey 44 = .ok (.getfield 56, 3) := by decide +kernel
theorem dX7_grey_47 : decode cX7_grey 47 = .ok (.aload_n 0, 1) := by decide +kernel
theorem dX7_grey_48 : decode cX7_grey 48 = .ok (.getfield 29, 3) := by decide +kernel
theorem dX7_grey_51 : decode cX7_grey 51 = .ok (.iconst 0, 1) := by decide +kernel
theorem dX7_grey_52 : decode cX7_grey 52 = .ok (.invokevirtual 127, 3) := by decide +kernel
theorem dX7_grey_55 : decode cX7_grey 55 = .ok (.aload_n 0, 1) := by decide +kernel
theorem dX7_grey_56 : decode cX7_grey 56 = .ok (.getfield 56, 3) := by decide +kernel
theorem dX7_grey_59 : decode cX7_grey 59 = .ok (.iload_n 1, 1) := by decide +kernel
theorem dX7_grey_60 : decode cX7_grey 60 = .ok (.iload_n 2, 1) := by decide +kernel
theorem dX7_grey_61 : decode cX7_grey 61 = .ok (.invokevirtual 175, 3) := by decide +kernel
theorem dX7_grey_64 : decode cX7_grey 64 = .ok (.istore 4, 2) := by decide +kernel
theorem dX7_grey_66 : decode cX7_grey 66 = .ok (.iload_n 3, 1) := by decide +kernel
theorem dX7_grey_67 : decode cX7_grey 67 = .ok (.ifCond .ne 19, 3) := by decide +kernel
theorem dX7_grey_70 : decode cX7_grey 70 = .ok (.aload_n 0, 1) := by decide +kernel
theorem dX7_grey_71 : decode cX7_grey 71 = .ok (.getfield 56, 3) := by decide +kernel
theorem dX7_grey_74 : decode cX7_grey 74 = .ok (.iload_n 1, 1) := by decide +kernel
theorem dX7_grey_75 : decode cX7_grey 75 = .ok (.iconst 1, 1) := by decide +kernel
theorem dX7_grey_76 : decode cX7_grey 76 = .ok (.iload 4, 2) := by decide +kernel
theorem dX7_grey_78 : decode cX7_grey 78 = .ok (.ishl, 1) := by decide +kernel
theorem dX7_grey_79 : decode cX7_grey 79 = .ok (.ior, 1) := by decide +kernel
theorem dX7_grey_80 : decode cX7_grey 80 = .ok (.invokevirtual 171, 3) := by decide +kernel
theorem dX7_grey_83 : decode cX7_grey 83 = .ok (.goto 5, 3) := by decide +kernel
theorem dX7_grey_86 : decode cX7_grey 86 = .ok (.iload 4, 2) := by decide +kernel
theorem dX7_grey_88 : decode cX7_grey 88 = .ok (.ireturn, 1) := by decide +kernel
theorem dX7_odds_0 : decode cX7_odds 0 = .ok (.iload_n 1, 1) := by decide +kernel
theorem dX7_odds_1 : decode cX7_odds 1 = .ok (.ifCond .lt 16, 3) := by decide +kernel
theorem dX7_odds_4 : decode cX7_odds 4 = .ok (.iload_n 1, 1) := by decide +kernel
theorem dX7_odds_5 : decode cX7_odds 5 = .ok (.bipush 10, 2) := by decide +kernel
theorem dX7_odds_7 : decode cX7_odds 7 = .ok (.if_icmp .gt 10, 3) := by decide +kernel
theorem dX7_odds_10 : decode cX7_odds 10 = .ok (.iload_n 2, 1) := by decide +kernel
theorem dX7_odds_11 : decode cX7_odds 11 = .ok (.invokestatic 118, 3) := by decide +kernel
theorem dX7_odds_14 : decode cX7_odds 14 = .ok (.ifCond .ne 5, 3) := by decide +kernel
theorem dX7_odds_17 : decode cX7_odds 17 = .ok (.iconst (-1), 1) := by decide +kernel
theorem dX7_odds_18 : decode cX7_odds 18 = .ok (.ireturn, 1) := by decide +kernel
theorem dX7_odds_19 : decode cX7_odds 19 = .ok (.aload_n 0, 1) := by decide +kernel
theorem dX7_odds_20 : decode cX7_odds 20 = .ok (.getfield 72, 3) := by decide +kernel
theorem dX7_odds_23 : decode cX7_odds 23 = .ok (.aload_n 0, 1) := by decide +kernel
theorem dX7_odds_24 : decode cX7_odds 24 = .ok (.getfield 29, 3) := by decide +kernel
theorem dX7_odds_27 : decode cX7_odds 27 = .ok (.iload_n 1, 1) := by decide +kernel
theorem dX7_odds_28 : decode cX7_odds 28 = .ok (.invokevirtual 178, 3) := by decide +kernel
theorem dX7_odds_31 : decode cX7_odds 31 = .ok (.istore_n 3, 1) := by decide +kernel
theorem dX7_odds_32 : decode cX7_odds 32 = .ok (.bipush 10, 2) := by decide +kernel
theorem dX7_odds_34 : decode cX7_odds 34 = .ok (.aload_n 0, 1) := by decide +kernel
theorem dX7_odds_35 : decode cX7_odds 35 = .ok (.getfield 19, 3) := by decide +kernel
theorem dX7_odds_38 : decode cX7_odds 38 = .ok (.getfield 151, 3) := by decide +kernel
theorem dX7_odds_41 : decode cX7_odds 41 = .ok (.invokestatic 181, 3) := by decide +kernel
theorem dX7_odds_44 : decode cX7_odds 44 = .ok (.istore 4, 2) := by decide +kernel
theorem dX7_odds_46 : decode cX7_odds 46 = .ok (.iload_n 3, 1) := by decide +kernel
theorem dX7_odds_47 : decode cX7_odds 47 = .ok (.iload 4, 2) := by decide +kernel
theorem dX7_odds_49 : decode cX7_odds 49 = .ok (.invokestatic 184, 3) := by decide +kernel
theorem dX7_odds_52 : decode cX7_odds 52 = .ok (.istore 5, 2) := by decide +kernel
theorem dX7_odds_54 : decode cX7_odds 54 = .ok (.iload 5, 2) := by decide +kernel
theorem dX7_odds_56 : decode cX7_odds 56 = .ok (.ifCond .gt 5, 3) := by decide +kernel
theorem dX7_odds_59 : decode cX7_odds 59 = .ok (.iconst (-1), 1) := by decide +kernel
theorem dX7_odds_60 : decode cX7_odds 60 = .ok (.ireturn, 1) := by decide +kernel
theorem dX7_odds_61 : decode cX7_odds 61 = .ok (.iload_n 2, 1) := by decide +kernel
theorem dX7_odds_62 : decode cX7_odds 62 = .ok (.ifCond .ne 10, 3) := by decide +kernel
theorem dX7_odds_65 : decode cX7_odds 65 = .ok (.iload_n 3, 1) := by decide +kernel
theorem dX7_odds_66 : decode cX7_odds 66 = .ok (.iload 5, 2) := by decide +kernel
theorem dX7_odds_68 : decode cX7_odds 68 = .ok (.idiv, 1) := by decide +kernel
theorem dX7_odds_69 : decode cX7_odds 69 = .ok (.goto 8, 3) := by decide +kernel
theorem dX7_odds_72 : decode cX7_odds 72 = .ok (.iload 4, 2) := by decide +kernel
theorem dX7_odds_74 : decode cX7_odds 74 = .ok (.iload 5, 2) := by decide +kernel
theorem dX7_odds_76 : decode cX7_odds 76 = .ok (.idiv, 1) := by decide +kernel
theorem dX7_odds_77 : decode cX7_odds 77 = .ok (.ireturn, 1) := by decide +kernel
theorem dX7_keep_0 : decode cX7_keep 0 = .ok (.iload_n 1, 1) := by decide +kernel
theorem dX7_keep_1 : decode cX7_keep 1 = .ok (.invokestatic 118, 3) := by decide +kernel
theorem dX7_keep_4 : decode cX7_keep 4 = .ok (.ifCond .ne 5, 3) := by decide +kernel
theorem dX7_keep_7 : decode cX7_keep 7 = .ok (.iconst (-1), 1) := by decide +kernel
theorem dX7_keep_8 : decode cX7_keep 8 = .ok (.ireturn, 1) := by decide +kernel
theorem dX7_keep_9 : decode cX7_keep 9 = .ok (.aload_n 0, 1) := by decide +kernel
theorem dX7_keep_10 : decode cX7_keep 10 = .ok (.getfield 36, 3) := by decide +kernel
theorem dX7_keep_13 : decode cX7_keep 13 = .ok (.iload_n 1, 1) := by decide +kernel
theorem dX7_keep_14 : decode cX7_keep 14 = .ok (.aaload, 1) := by decide +kernel
theorem dX7_keep_15 : decode cX7_keep 15 = .ok (.aload_n 0, 1) := by decide +kernel
theorem dX7_keep_16 : decode cX7_keep 16 = .ok (.getfield 29, 3) := by decide +kernel
theorem dX7_keep_19 : decode cX7_keep 19 = .ok (.invokevirtual 91, 3) := by decide +kernel
theorem dX7_keep_22 : decode cX7_keep 22 = .ok (.aload_n 0, 1) := by decide +kernel
theorem dX7_keep_23 : decode cX7_keep 23 = .ok (.getfield 40, 3) := by decide +kernel
theorem dX7_keep_26 : decode cX7_keep 26 = .ok (.iload_n 1, 1) := by decide +kernel
theorem dX7_keep_27 : decode cX7_keep 27 = .ok (.iconst 1, 1) := by decide +kernel
theorem dX7_keep_28 : decode cX7_keep 28 = .ok (.bastore, 1) := by decide +kernel
theorem dX7_keep_29 : decode cX7_keep 29 = .ok (.aload_n 0, 1) := by decide +kernel
theorem dX7_keep_30 : decode cX7_keep 30 = .ok (.getfield 19, 3) := by decide +kernel
theorem dX7_keep_33 : decode cX7_keep 33 = .ok (.getfield 151, 3) := by decide +kernel
theorem dX7_keep_36 : decode cX7_keep 36 = .ok (.ireturn, 1) := by decide +kernel
theorem dX7_back_0 : decode cX7_back 0 = .ok (.iload_n 1, 1) := by decide +kernel
theorem dX7_back_1 : decode cX7_back 1 = .ok (.invokestatic 118, 3) := by decide +kernel
theorem dX7_back_4 : decode cX7_back 4 = .ok (.ifCond .ne 5, 3) := by decide +kernel
theorem dX7_back_7 : decode cX7_back 7 = .ok (.iconst (-1), 1) := by decide +kernel
theorem dX7_back_8 : decode cX7_back 8 = .ok (.ireturn, 1) := by decide +kernel
theorem dX7_back_9 : decode cX7_back 9 = .ok (.aload_n 0, 1) := by decide +kernel
theorem dX7_back_10 : decode cX7_back 10 = .ok (.getfield 40, 3) := by decide +kernel
theorem dX7_back_13 : decode cX7_back 13 = .ok (.iload_n 1, 1) := by decide +kernel
theorem dX7_back_14 : decode cX7_back 14 = .ok (.baload, 1) := by decide +kernel
theorem dX7_back_15 : decode cX7_back 15 = .ok (.ifCond .ne 6, 3) := by decide +kernel
theorem dX7_back_18 : decode cX7_back 18 = .ok (.bipush (-2), 2) := by decide +kernel
theorem dX7_back_20 : decode cX7_back 20 = .ok (.ireturn, 1) := by decide +kernel
theorem dX7_back_21 : decode cX7_back 21 = .ok (.aload_n 0, 1) := by decide +kernel
theorem dX7_back_22 : decode cX7_back 22 = .ok (.getfield 29, 3) := by decide +kernel
theorem dX7_back_25 : decode cX7_back 25 = .ok (.aload_n 0, 1) := by decide +kernel
theorem dX7_back_26 : decode cX7_back 26 = .ok (.getfield 36, 3) := by decide +kernel
theorem dX7_back_29 : decode cX7_back 29 = .ok (.iload_n 1, 1) := by decide +kernel
theorem dX7_back_30 : decode cX7_back 30 = .ok (.aaload, 1) := by decide +kernel
theorem dX7_back_31 : decode cX7_back 31 = .ok (.invokevirtual 91, 3) := by decide +kernel
theorem dX7_back_34 : decode cX7_back 34 = .ok (.aload_n 0, 1) := by decide +kernel
theorem dX7_back_35 : decode cX7_back 35 = .ok (.getfield 47, 3) := by decide +kernel
theorem dX7_back_38 : decode cX7_back 38 = .ok (.iconst 0, 1) := by decide +kernel
theorem dX7_back_39 : decode cX7_back 39 = .ok (.putfield 94, 3) := by decide +kernel
theorem dX7_back_42 : decode cX7_back 42 = .ok (.aload_n 0, 1) := by decide +kernel
theorem dX7_back_43 : decode cX7_back 43 = .ok (.getfield 19, 3) := by decide +kernel
theorem dX7_back_46 : decode cX7_back 46 = .ok (.getfield 151, 3) := by decide +kernel
theorem dX7_back_49 : decode cX7_back 49 = .ok (.ireturn, 1) := by decide +kernel
theorem dX7_count_0 : decode cX7_count 0 = .ok (.iload_n 1, 1) := by decide +kernel
theorem dX7_count_1 : decode cX7_count 1 = .ok (.tableswitch 155 0 8 #[51, 59, 67, 87, 99, 111, 131, 139, 147], 51) := by decide +kernel
theorem dX7_count_52 : decode cX7_count 52 = .ok (.aload_n 0, 1) := by decide +kernel
theorem dX7_count_53 : decode cX7_count 53 = .ok (.getfield 19, 3) := by decide +kernel
theorem dX7_count_56 : decode cX7_count 56 = .ok (.getfield 151, 3) := by decide +kernel
theorem dX7_count_59 : decode cX7_count 59 = .ok (.ireturn, 1) := by decide +kernel
theorem dX7_count_60 : decode cX7_count 60 = .ok (.aload_n 0, 1) := by decide +kernel
theorem dX7_count_61 : decode cX7_count 61 = .ok (.getfield 19, 3) := by decide +kernel
theorem dX7_count_64 : decode cX7_count 64 = .ok (.getfield 187, 3) := by decide +kernel
theorem dX7_count_67 : decode cX7_count 67 = .ok (.ireturn, 1) := by decide +kernel
theorem dX7_count_68 : decode cX7_count 68 = .ok (.aload_n 0, 1) := by decide +kernel
theorem dX7_count_69 : decode cX7_count 69 = .ok (.getfield 29, 3) := by decide +kernel
theorem dX7_count_72 : decode cX7_count 72 = .ok (.aload_n 0, 1) := by decide +kernel
theorem dX7_count_73 : decode cX7_count 73 = .ok (.getfield 19, 3) := by decide +kernel
theorem dX7_count_76 : decode cX7_count 76 = .ok (.invokevirtual 134, 3) := by decide +kernel
theorem dX7_count_79 : decode cX7_count 79 = .ok (.ifCond .eq 7, 3) := by decide +kernel
theorem dX7_count_82 : decode cX7_count 82 = .ok (.iconst 1, 1) := by decide +kernel
theorem dX7_count_83 : decode cX7_count 83 = .ok (.goto 4, 3) := by decide +kernel
theorem dX7_count_86 : decode cX7_count 86 = .ok (.iconst 0, 1) := by decide +kernel
theorem dX7_count_87 : decode cX7_count 87 = .ok (.ireturn, 1) := by decide +kernel
theorem dX7_count_88 : decode cX7_count 88 = .ok (.aload_n 0, 1) := by decide +kernel
theorem dX7_count_89 : decode cX7_count 89 = .ok (.getfield 72, 3) := by decide +kernel
theorem dX7_count_92 : decode cX7_count 92 = .ok (.aload_n 0, 1) := by decide +kernel
theorem dX7_count_93 : decode cX7_count 93 = .ok (.getfield 29, 3) := by decide +kernel
theorem dX7_count_96 : decode cX7_count 96 = .ok (.invokevirtual 190, 3) := by decide +kernel
theorem dX7_count_99 : decode cX7_count 99 = .ok (.ireturn, 1) := by decide +kernel
theorem dX7_count_100 : decode cX7_count 100 = .ok (.aload_n 0, 1) := by decide +kernel
theorem dX7_count_101 : decode cX7_count 101 = .ok (.getfield 72, 3) := by decide +kernel
theorem dX7_count_104 : decode cX7_count 104 = .ok (.aload_n 0, 1) := by decide +kernel
theorem dX7_count_105 : decode cX7_count 105 = .ok (.getfield 29, 3) := by decide +kernel
theorem dX7_count_108 : decode cX7_count 108 = .ok (.invokevirtual 194, 3) := by decide +kernel
theorem dX7_count_111 : decode cX7_count 111 = .ok (.ireturn, 1) := by decide +kernel
theorem dX7_count_112 : decode cX7_count 112 = .ok (.aload_n 0, 1) := by decide +kernel
theorem dX7_count_113 : decode cX7_count 113 = .ok (.getfield 56, 3) := by decide +kernel
theorem dX7_count_116 : decode cX7_count 116 = .ok (.aload_n 0, 1) := by decide +kernel
theorem dX7_count_117 : decode cX7_count 117 = .ok (.getfield 29, 3) := by decide +kernel
theorem dX7_count_120 : decode cX7_count 120 = .ok (.iconst 0, 1) := by decide +kernel
theorem dX7_count_121 : decode cX7_count 121 = .ok (.invokevirtual 127, 3) := by decide +kernel
theorem dX7_count_124 : decode cX7_count 124 = .ok (.aload_n 0, 1) := by decide +kernel
theorem dX7_count_125 : decode cX7_count 125 = .ok (.getfield 56, 3) := by decide +kernel
theorem dX7_count_128 : decode cX7_count 128 = .ok (.invokevirtual 197, 3) := by decide +kernel
theorem dX7_count_131 : decode cX7_count 131 = .ok (.ireturn, 1) := by decide +kernel
theorem dX7_count_132 : decode cX7_count 132 = .ok (.aload_n 0, 1) := by decide +kernel
theorem dX7_count_133 : decode cX7_count 133 = .ok (.getfield 19, 3) := by decide +kernel
theorem dX7_count_136 : decode cX7_count 136 = .ok (.invokevirtual 201, 3) := by decide +kernel
theorem dX7_count_139 : decode cX7_count 139 = .ok (.ireturn, 1) := by decide +kernel
theorem dX7_count_140 : decode cX7_count 140 = .ok (.aload_n 0, 1) := by decide +kernel
theorem dX7_count_141 : decode cX7_count 141 = .ok (.getfield 12, 3) := by decide +kernel
theorem dX7_count_144 : decode cX7_count 144 = .ok (.getfield 80, 3) := by decide +kernel
theorem dX7_count_147 : decode cX7_count 147 = .ok (.ireturn, 1) := by decide +kernel
theorem dX7_count_148 : decode cX7_count 148 = .ok (.aload_n 0, 1) := by decide +kernel
theorem dX7_count_149 : decode cX7_count 149 = .ok (.getfield 47, 3) := by decide +kernel
theorem dX7_count_152 : decode cX7_count 152 = .ok (.getfield 94, 3) := by decide +kernel
theorem dX7_count_155 : decode cX7_count 155 = .ok (.ireturn, 1) := by decide +kernel
theorem dX7_count_156 : decode cX7_count 156 = .ok (.iconst (-1), 1) := by decide +kernel
theorem dX7_count_157 : decode cX7_count 157 = .ok (.ireturn, 1) := by decide +kernel
theorem dX7_mayPut_0 : decode cX7_mayPut 0 = .ok (.aload_n 0, 1) := by decide +kernel
theorem dX7_mayPut_1 : decode cX7_mayPut 1 = .ok (.getfield 29, 3) := by decide +kernel
theorem dX7_mayPut_4 : decode cX7_mayPut 4 = .ok (.iload_n 1, 1) := by decide +kernel
theorem dX7_mayPut_5 : decode cX7_mayPut 5 = .ok (.iconst 0, 1) := by decide +kernel
theorem dX7_mayPut_6 : decode cX7_mayPut 6 = .ok (.invokevirtual 100, 3) := by decide +kernel
theorem dX7_mayPut_9 : decode cX7_mayPut 9 = .ok (.istore 4, 2) := by decide +kernel
theorem dX7_mayPut_11 : decode cX7_mayPut 11 = .ok (.aload_n 0, 1) := by decide +kernel
theorem dX7_mayPut_12 : decode cX7_mayPut 12 = .ok (.getfield 29, 3) := by decide +kernel
theorem dX7_mayPut_15 : decode cX7_mayPut 15 = .ok (.iload_n 1, 1) := by decide +kernel
theorem dX7_mayPut_16 : decode cX7_mayPut 16 = .ok (.iconst 1, 1) := by decide +kernel
theorem dX7_mayPut_17 : decode cX7_mayPut 17 = .ok (.invokevirtual 100, 3) := by decide +kernel
theorem dX7_mayPut_20 : decode cX7_mayPut 20 = .ok (.istore 5, 2) := by decide +kernel
theorem dX7_mayPut_22 : decode cX7_mayPut 22 = .ok (.iload_n 2, 1) := by decide +kernel
theorem dX7_mayPut_23 : decode cX7_mayPut 23 = .ok (.ifCond .ne 31, 3) := by decide +kernel
theorem dX7_mayPut_26 : decode cX7_mayPut 26 = .ok (.iload_n 3, 1) := by decide +kernel
theorem dX7_mayPut_27 : decode cX7_mayPut 27 = .ok (.iload 4, 2) := by decide +kernel
theorem dX7_mayPut_29 : decode cX7_mayPut 29 = .ok (.if_icmp .le 23, 3) := by decide +kernel
theorem dX7_mayPut_32 : decode cX7_mayPut 32 = .ok (.iload_n 3, 1) := by decide +kernel
theorem dX7_mayPut_33 : decode cX7_mayPut 33 = .ok (.aload_n 0, 1) := by decide +kernel
theorem dX7_mayPut_34 : decode cX7_mayPut 34 = .ok (.getfield 19, 3) := by decide +kernel
theorem dX7_mayPut_37 : decode cX7_mayPut 37 = .ok (.getfield 104, 3) := by decide +kernel
theorem dX7_mayPut_40 : decode cX7_mayPut 40 = .ok (.iload_n 1, 1) := by decide +kernel
theorem dX7_mayPut_41 : decode cX7_mayPut 41 = .ok (.iaload, 1) := by decide +kernel
theorem dX7_mayPut_42 : decode cX7_mayPut 42 = .ok (.iadd, 1) := by decide +kernel
theorem dX7_mayPut_43 : decode cX7_mayPut 43 = .ok (.iload 5, 2) := by decide +kernel
theorem dX7_mayPut_45 : decode cX7_mayPut 45 = .ok (.if_icmp .gt 7, 3) := by decide +kernel
theorem dX7_mayPut_48 : decode cX7_mayPut 48 = .ok (.iconst 1, 1) := by decide +kernel
theorem dX7_mayPut_49 : decode cX7_mayPut 49 = .ok (.goto 4, 3) := by decide +kernel
theorem dX7_mayPut_52 : decode cX7_mayPut 52 = .ok (.iconst 0, 1) := by decide +kernel
theorem dX7_mayPut_53 : decode cX7_mayPut 53 = .ok (.ireturn, 1) := by decide +kernel
theorem dX7_mayPut_54 : decode cX7_mayPut 54 = .ok (.iload_n 3, 1) := by decide +kernel
theorem dX7_mayPut_55 : decode cX7_mayPut 55 = .ok (.iload 5, 2) := by decide +kernel
theorem dX7_mayPut_57 : decode cX7_mayPut 57 = .ok (.if_icmp .ge 23, 3) := by decide +kernel
theorem dX7_mayPut_60 : decode cX7_mayPut 60 = .ok (.iload_n 3, 1) := by decide +kernel
theorem dX7_mayPut_61 : decode cX7_mayPut 61 = .ok (.aload_n 0, 1) := by decide +kernel
theorem dX7_mayPut_62 : decode cX7_mayPut 62 = .ok (.getfield 19, 3) := by decide +kernel
theorem dX7_mayPut_65 : decode cX7_mayPut 65 = .ok (.getfield 104, 3) := by decide +kernel
theorem dX7_mayPut_68 : decode cX7_mayPut 68 = .ok (.iload_n 1, 1) := by decide +kernel
theorem dX7_mayPut_69 : decode cX7_mayPut 69 = .ok (.iaload, 1) := by decide +kernel
theorem dX7_mayPut_70 : decode cX7_mayPut 70 = .ok (.isub, 1) := by decide +kernel
theorem dX7_mayPut_71 : decode cX7_mayPut 71 = .ok (.iload 4, 2) := by decide +kernel
theorem dX7_mayPut_73 : decode cX7_mayPut 73 = .ok (.if_icmp .lt 7, 3) := by decide +kernel
theorem dX7_mayPut_76 : decode cX7_mayPut 76 = .ok (.iconst 1, 1) := by decide +kernel
theorem dX7_mayPut_77 : decode cX7_mayPut 77 = .ok (.goto 4, 3) := by decide +kernel
theorem dX7_mayPut_80 : decode cX7_mayPut 80 = .ok (.iconst 0, 1) := by decide +kernel
theorem dX7_mayPut_81 : decode cX7_mayPut 81 = .ok (.ireturn, 1) := by decide +kernel
theorem dX7_isZeroOrOne_0 : decode cX7_isZeroOrOne 0 = .ok (.iload_n 0, 1) := by decide +kernel
theorem dX7_isZeroOrOne_1 : decode cX7_isZeroOrOne 1 = .ok (.ifCond .eq 8, 3) := by decide +kernel
theorem dX7_isZeroOrOne_4 : decode cX7_isZeroOrOne 4 = .ok (.iload_n 0, 1) := by decide +kernel
theorem dX7_isZeroOrOne_5 : decode cX7_isZeroOrOne 5 = .ok (.iconst 1, 1) := by decide +kernel
theorem dX7_isZeroOrOne_6 : decode cX7_isZeroOrOne 6 = .ok (.if_icmp .ne 7, 3) := by decide +kernel
theorem dX7_isZeroOrOne_9 : decode cX7_isZeroOrOne 9 = .ok (.iconst 1, 1) := by decide +kernel
theorem dX7_isZeroOrOne_10 : decode cX7_isZeroOrOne 10 = .ok (.goto 4, 3) := by decide +kernel
theorem dX7_isZeroOrOne_13 : decode cX7_isZeroOrOne 13 = .ok (.iconst 0, 1) := by decide +kernel
theorem dX7_isZeroOrOne_14 : decode cX7_isZeroOrOne 14 = .ok (.ireturn, 1) := by decide +kernel
theorem dX7_power_0 : decode cX7_power 0 = .ok (.iconst 1, 1) := by decide +kernel
theorem dX7_power_1 : decode cX7_power 1 = .ok (.istore_n 2, 1) := by decide +kernel
theorem dX7_power_2 : decode cX7_power 2 = .ok (.iconst 0, 1) := by decide +kernel
theorem dX7_power_3 : decode cX7_power 3 = .ok (.istore_n 3, 1) := by decide +kernel
theorem dX7_power_4 : decode cX7_power 4 = .ok (.iload_n 3, 1) := by decide +kernel
theorem dX7_power_5 : decode cX7_power 5 = .ok (.iload_n 1, 1) := by decide +kernel
theorem dX7_power_6 : decode cX7_power 6 = .ok (.if_icmp .ge 13, 3) := by decide +kernel
theorem dX7_power_9 : decode cX7_power 9 = .ok (.iload_n 2, 1) := by decide +kernel
theorem dX7_power_10 : decode cX7_power 10 = .ok (.iload_n 0, 1) := by decide +kernel
theorem dX7_power_11 : decode cX7_power 11 = .ok (.imul, 1) := by decide +kernel
theorem dX7_power_12 : decode cX7_power 12 = .ok (.istore_n 2, 1) := by decide +kernel
theorem dX7_power_13 : decode cX7_power 13 = .ok (.iinc 3 1, 3) := by decide +kernel
theorem dX7_power_16 : decode cX7_power 16 = .ok (.goto (-12), 3) := by decide +kernel
theorem dX7_power_19 : decode cX7_power 19 = .ok (.iload_n 2, 1) := by decide +kernel
theorem dX7_power_20 : decode cX7_power 20 = .ok (.ireturn, 1) := by decide +kernel
theorem dX7_commonDivisor_0 : decode cX7_commonDivisor 0 = .ok (.iload_n 0, 1) := by decide +kernel
theorem dX7_commonDivisor_1 : decode cX7_commonDivisor 1 = .ok (.iload_n 1, 1) := by decide +kernel
theorem dX7_commonDivisor_2 : decode cX7_commonDivisor 2 = .ok (.invokestatic 204, 3) := by decide +kernel
theorem dX7_commonDivisor_5 : decode cX7_commonDivisor 5 = .ok (.istore_n 2, 1) := by decide +kernel
theorem dX7_commonDivisor_6 : decode cX7_commonDivisor 6 = .ok (.iload_n 0, 1) := by decide +kernel
theorem dX7_commonDivisor_7 : decode cX7_commonDivisor 7 = .ok (.iload_n 1, 1) := by decide +kernel
theorem dX7_commonDivisor_8 : decode cX7_commonDivisor 8 = .ok (.invokestatic 209, 3) := by decide +kernel
theorem dX7_commonDivisor_11 : decode cX7_commonDivisor 11 = .ok (.istore_n 3, 1) := by decide +kernel
theorem dX7_commonDivisor_12 : decode cX7_commonDivisor 12 = .ok (.iload_n 0, 1) := by decide +kernel
theorem dX7_commonDivisor_13 : decode cX7_commonDivisor 13 = .ok (.iload_n 1, 1) := by decide +kernel
theorem dX7_commonDivisor_14 : decode cX7_commonDivisor 14 = .ok (.invokestatic 209, 3) := by decide +kernel
theorem dX7_commonDivisor_17 : decode cX7_commonDivisor 17 = .ok (.istore 4, 2) := by decide +kernel
theorem dX7_commonDivisor_19 : decode cX7_commonDivisor 19 = .ok (.iload 4, 2) := by decide +kernel
theorem dX7_commonDivisor_21 : decode cX7_commonDivisor 21 = .ok (.ifCond .le 23, 3) := by decide +kernel
theorem dX7_commonDivisor_24 : decode cX7_commonDivisor 24 = .ok (.iload_n 3, 1) := by decide +kernel
theorem dX7_commonDivisor_25 : decode cX7_commonDivisor 25 = .ok (.ifCond .le 19, 3) := by decide +kernel
theorem dX7_commonDivisor_28 : decode cX7_commonDivisor 28 = .ok (.iload_n 2, 1) := by decide +kernel
theorem dX7_commonDivisor_29 : decode cX7_commonDivisor 29 = .ok (.iload_n 3, 1) := by decide +kernel
theorem dX7_commonDivisor_30 : decode cX7_commonDivisor 30 = .ok (.irem, 1) := by decide +kernel
theorem dX7_commonDivisor_31 : decode cX7_commonDivisor 31 = .ok (.istore 5, 2) := by decide +kernel
theorem dX7_commonDivisor_33 : decode cX7_commonDivisor 33 = .ok (.iload_n 3, 1) := by decide +kernel
theorem dX7_commonDivisor_34 : decode cX7_commonDivisor 34 = .ok (.istore_n 2, 1) := by decide +kernel
theorem dX7_commonDivisor_35 : decode cX7_commonDivisor 35 = .ok (.iload 5, 2) := by decide +kernel
theorem dX7_commonDivisor_37 : decode cX7_commonDivisor 37 = .ok (.istore_n 3, 1) := by decide +kernel
theorem dX7_commonDivisor_38 : decode cX7_commonDivisor 38 = .ok (.iinc 4 (-1), 3) := by decide +kernel
theorem dX7_commonDivisor_41 : decode cX7_commonDivisor 41 = .ok (.goto (-22), 3) := by decide +kernel
theorem dX7_commonDivisor_44 : decode cX7_commonDivisor 44 = .ok (.iload_n 2, 1) := by decide +kernel
theorem dX7_commonDivisor_45 : decode cX7_commonDivisor 45 = .ok (.ireturn, 1) := by decide +kernel
theorem dX8_init_0 : decode cX8_init 0 = .ok (.aload_n 0, 1) := by decide +kernel
theorem dX8_init_1 : decode cX8_init 1 = .ok (.invokespecial 1, 3) := by decide +kernel
theorem dX8_init_4 : decode cX8_init 4 = .ok (.aload_n 0, 1) := by decide +kernel
theorem dX8_init_5 : decode cX8_init 5 = .ok (.iconst 5, 1) := by decide +kernel
theorem dX8_init_6 : decode cX8_init 6 = .ok (.newarray .int, 2) := by decide +kernel
theorem dX8_init_8 : decode cX8_init 8 = .ok (.putfield 7, 3) := by decide +kernel
theorem dX8_init_11 : decode cX8_init 11 = .ok (.aload_n 0, 1) := by decide +kernel
theorem dX8_init_12 : decode cX8_init 12 = .ok (.iconst 5, 1) := by decide +kernel
theorem dX8_init_13 : decode cX8_init 13 = .ok (.newarray .int, 2) := by decide +kernel
theorem dX8_init_15 : decode cX8_init 15 = .ok (.putfield 13, 3) := by decide +kernel
theorem dX8_init_18 : decode cX8_init 18 = .ok (.aload_n 0, 1) := by decide +kernel
theorem dX8_init_19 : decode cX8_init 19 = .ok (.bipush 30, 2) := by decide +kernel
theorem dX8_init_21 : decode cX8_init 21 = .ok (.newarray .int, 2) := by decide +kernel
theorem dX8_init_23 : decode cX8_init 23 = .ok (.putfield 16, 3) := by decide +kernel
theorem dX8_init_26 : decode cX8_init 26 = .ok (.aload_n 0, 1) := by decide +kernel
theorem dX8_init_27 : decode cX8_init 27 = .ok (.sipush 300, 3) := by decide +kernel
theorem dX8_init_30 : decode cX8_init 30 = .ok (.newarray .int, 2) := by decide +kernel
theorem dX8_init_32 : decode cX8_init 32 = .ok (.putfield 19, 3) := by decide +kernel
theorem dX8_init_35 : decode cX8_init 35 = .ok (.aload_n 0, 1) := by decide +kernel
theorem dX8_init_36 : decode cX8_init 36 = .ok (.iconst 2, 1) := by decide +kernel
theorem dX8_init_37 : decode cX8_init 37 = .ok (.newarray .boolean, 2) := by decide +kernel
theorem dX8_init_39 : decode cX8_init 39 = .ok (.putfield 22, 3) := by decide +kernel
theorem dX8_init_42 : decode cX8_init 42 = .ok (.aload_n 0, 1) := by decide +kernel
theorem dX8_init_43 : decode cX8_init 43 = .ok (.bipush 60, 2) := by decide +kernel
theorem dX8_init_45 : decode cX8_init 45 = .ok (.newarray .int, 2) := by decide +kernel
theorem dX8_init_47 : decode cX8_init 47 = .ok (.putfield 26, 3) := by decide +kernel
theorem dX8_init_50 : decode cX8_init 50 = .ok (.aload_n 0, 1) := by decide +kernel
theorem dX8_init_51 : decode cX8_init 51 = .ok (.bipush 100, 2) := by decide +kernel
theorem dX8_init_53 : decode cX8_init 53 = .ok (.newarray .int, 2) := by decide +kernel
theorem dX8_init_55 : decode cX8_init 55 = .ok (.putfield 29, 3) := by decide +kernel
theorem dX8_init_58 : decode cX8_init 58 = .ok (.aload_n 0, 1) := by decide +kernel
theorem dX8_init_59 : decode cX8_init 59 = .ok (.bipush 20, 2) := by decide +kernel
theorem dX8_init_61 : decode cX8_init 61 = .ok (.newarray .int, 2) := by decide +kernel
theorem dX8_init_63 : decode cX8_init 63 = .ok (.putfield 32, 3) := by decide +kernel
theorem dX8_init_66 : decode cX8_init 66 = .ok (.aload_n 0, 1) := by decide +kernel
theorem dX8_init_67 : decode cX8_init 67 = .ok (.iconst 5, 1) := by decide +kernel
theorem dX8_init_68 : decode cX8_init 68 = .ok (.newarray .int, 2) := by decide +kernel
theorem dX8_init_70 : decode cX8_init 70 = .ok (.putfield 35, 3) := by decide +kernel
theorem dX8_init_73 : decode cX8_init 73 = .ok (.aload_n 0, 1) := by decide +kernel
theorem dX8_init_74 : decode cX8_init 74 = .ok (.iconst 5, 1) := by decide +kernel
theorem dX8_init_75 : decode cX8_init 75 = .ok (.newarray .int, 2) := by decide +kernel
theorem dX8_init_77 : decode cX8_init 77 = .ok (.putfield 38, 3) := by decide +kernel
theorem dX8_init_80 : decode cX8_init 80 = .ok (.aload_n 0, 1) := by decide +kernel
theorem dX8_init_81 : decode cX8_init 81 = .ok (.iconst 5, 1) := by decide +kernel
theorem dX8_init_82 : decode cX8_init 82 = .ok (.newarray .int, 2) := by decide +kernel
theorem dX8_init_84 : decode cX8_init 84 = .ok (.putfield 41, 3) := by decide +kernel
theorem dX8_init_87 : decode cX8_init 87 = .ok (.aload_n 0, 1) := by decide +kernel
theorem dX8_init_88 : decode cX8_init 88 = .ok (.iconst 5, 1) := by decide +kernel
theorem dX8_init_89 : decode cX8_init 89 = .ok (.newarray .int, 2) := by decide +kernel
theorem dX8_init_91 : decode cX8_init 91 = .ok (.putfield 44, 3) := by decide +kernel
theorem dX8_init_94 : decode cX8_init 94 = .ok (.aload_n 0, 1) := by decide +kernel
theorem dX8_init_95 : decode cX8_init 95 = .ok (.bipush 30, 2) := by decide +kernel
theorem dX8_init_97 : decode cX8_init 97 = .ok (.newarray .int, 2) := by decide +kernel
theorem dX8_init_99 : decode cX8_init 99 = .ok (.putfield 47, 3) := by decide +kernel
theorem dX8_init_102 : decode cX8_init 102 = .ok (.aload_n 0, 1) := by decide +kernel
theorem dX8_init_103 : decode cX8_init 103 = .ok (.iconst 5, 1) := by decide +kernel
theorem dX8_init_104 : decode cX8_init 104 = .ok (.newarray .int, 2) := by decide +kernel
theorem dX8_init_106 : decode cX8_init 106 = .ok (.putfield 50, 3) := by decide +kernel
theorem dX8_init_109 : decode cX8_init 109 = .ok (.aload_n 0, 1) := by decide +kernel
theorem dX8_init_110 : decode cX8_init 110 = .ok (.bipush 16, 2) := by decide +kernel
theorem dX8_init_112 : decode cX8_init 112 = .ok (.newarray .int, 2) := by decide +kernel
theorem dX8_init_114 : decode cX8_init 114 = .ok (.putfield 53, 3) := by decide +kernel
theorem dX8_init_117 : decode cX8_init 117 = .ok (.aload_n 0, 1) := by decide +kernel
theorem dX8_init_118 : decode cX8_init 118 = .ok (.iconst 5, 1) := by decide +kernel
theorem dX8_init_119 : decode cX8_init 119 = .ok (.newarray .int, 2) := by decide +kernel
theorem dX8_init_121 : decode cX8_init 121 = .ok (.putfield 56, 3) := by decide +kernel
theorem dX8_init_124 : decode cX8_init 124 = .ok (.aload_n 0, 1) := by decide +kernel
theorem dX8_init_125 : decode cX8_init 125 = .ok (.iconst 3, 1) := by decide +kernel
theorem dX8_init_126 : decode cX8_init 126 = .ok (.putfield 59, 3) := by decide +kernel
theorem dX8_init_129 : decode cX8_init 129 = .ok (.return_, 1) := by decide +kernel
theorem dX8_in_0 : decode cX8_in 0 = .ok (.iload_n 0, 1) := by decide +kernel
theorem dX8_in_1 : decode cX8_in 1 = .ok (.iload_n 1, 1) := by decide +kernel
theorem dX8_in_2 : decode cX8_in 2 = .ok (.if_icmp .lt 12, 3) := by decide +kernel
theorem dX8_in_5 : decode cX8_in 5 = .ok (.iload_n 0, 1) := by decide +kernel
theorem dX8_in_6 : decode cX8_in 6 = .ok (.iload_n 2, 1) := by decide +kernel
theorem dX8_in_7 : decode cX8_in 7 = .ok (.if_icmp .gt 7, 3) := by decide +kernel
theorem dX8_in_10 : decode cX8_in 10 = .ok (.iconst 1, 1) := by decide +kernel
theorem dX8_in_11 : decode cX8_in 11 = .ok (.goto 4, 3) := by decide +kernel
theorem dX8_in_14 : decode cX8_in 14 = .ok (.iconst 0, 1) := by decide +kernel
theorem dX8_in_15 : decode cX8_in 15 = .ok (.ireturn, 1) := by decide +kernel
theorem dX8_has_0 : decode cX8_has 0 = .ok (.iload_n 0, 1) := by decide +kernel
theorem dX8_has_1 : decode cX8_has 1 = .ok (.iload_n 1, 1) := by decide +kernel
theorem dX8_has_2 : decode cX8_has 2 = .ok (.ishr, 1) := by decide +kernel
theorem dX8_has_3 : decode cX8_has 3 = .ok (.iconst 1, 1) := by decide +kernel
theorem dX8_has_4 : decode cX8_has 4 = .ok (.iand, 1) := by decide +kernel
theorem dX8_has_5 : decode cX8_has 5 = .ok (.iconst 1, 1) := by decide +kernel
theorem dX8_has_6 : decode cX8_has 6 = .ok (.if_icmp .ne 7, 3) := by decide +kernel
theorem dX8_has_9 : decode cX8_has 9 = .ok (.iconst 1, 1) := by decide +kernel
theorem dX8_has_10 : decode cX8_has 10 = .ok (.goto 4, 3) := by decide +kernel
theorem dX8_has_13 : decode cX8_has 13 = .ok (.iconst 0, 1) := by decide +kernel
theorem dX8_has_14 : decode cX8_has 14 = .ok (.ireturn, 1) := by decide +kernel
theorem dX8_type_0 : decode cX8_type 0 = .ok (.iload_n 1, 1) := by decide +kernel
theorem dX8_type_1 : decode cX8_type 1 = .ok (.iconst 0, 1) := by decide +kernel
theorem dX8_type_2 : decode cX8_type 2 = .ok (.sipush 255, 3) := by decide +kernel
theorem dX8_type_5 : decode cX8_type 5 = .ok (.invokestatic 63, 3) := by decide +kernel
theorem dX8_type_8 : decode cX8_type 8 = .ok (.ifCond .ne 5, 3) := by decide +kernel
theorem dX8_type_11 : decode cX8_type 11 = .ok (.iconst (-1), 1) := by decide +kernel
theorem dX8_type_12 : decode cX8_type 12 = .ok (.ireturn, 1) := by decide +kernel
theorem dX8_type_13 : decode cX8_type 13 = .ok (.aload_n 0, 1) := by decide +kernel
theorem dX8_type_14 : decode cX8_type 14 = .ok (.getfield 67, 3) := by decide +kernel
theorem dX8_type_17 : decode cX8_type 17 = .ok (.bipush 100, 2) := by decide +kernel
theorem dX8_type_19 : decode cX8_type 19 = .ok (.if_icmp .ne 6, 3) := by decide +kernel
theorem dX8_type_22 : decode cX8_type 22 = .ok (.bipush (-3), 2) := by decide +kernel
theorem dX8_type_24 : decode cX8_type 24 = .ok (.ireturn, 1) := by decide +kernel
theorem dX8_type_25 : decode cX8_type 25 = .ok (.aload_n 0, 1) := by decide +kernel
theorem dX8_type_26 : decode cX8_type 26 = .ok (.getfield 29, 3) := by decide +kernel
theorem dX8_type_29 : decode cX8_type 29 = .ok (.aload_n 0, 1) := by decide +kernel
theorem dX8_type_30 : decode cX8_type 30 = .ok (.getfield 67, 3) := by decide +kernel
theorem dX8_type_33 : decode cX8_type 33 = .ok (.iload_n 1, 1) := by decide +kernel
theorem dX8_type_34 : decode cX8_type 34 = .ok (.iastore, 1) := by decide +kernel
theorem dX8_type_35 : decode cX8_type 35 = .ok (.aload_n 0, 1) := by decide +kernel
theorem dX8_type_36 : decode cX8_type 36 = .ok (.dup, 1) := by decide +kernel
theorem dX8_type_37 : decode cX8_type 37 = .ok (.getfield 67, 3) := by decide +kernel
theorem dX8_type_40 : decode cX8_type 40 = .ok (.iconst 1, 1) := by decide +kernel
theorem dX8_type_41 : decode cX8_type 41 = .ok (.iadd, 1) := by decide +kernel
theorem dX8_type_42 : decode cX8_type 42 = .ok (.putfield 67, 3) := by decide +kernel
theorem dX8_type_45 : decode cX8_type 45 = .ok (.aload_n 0, 1) := by decide +kernel
theorem dX8_type_46 : decode cX8_type 46 = .ok (.getfield 67, 3) := by decide +kernel
theorem dX8_type_49 : decode cX8_type 49 = .ok (.ireturn, 1) := by decide +kernel
theorem dX8_clear_0 : decode cX8_clear 0 = .ok (.aload_n 0, 1) := by decide +kernel
theorem dX8_clear_1 : decode cX8_clear 1 = .ok (.getfield 67, 3) := by decide +kernel
theorem dX8_clear_4 : decode cX8_clear 4 = .ok (.istore_n 1, 1) := by decide +kernel
theorem dX8_clear_5 : decode cX8_clear 5 = .ok (.aload_n 0, 1) := by decide +kernel
theorem dX8_clear_6 : decode cX8_clear 6 = .ok (.iconst 0, 1) := by decide +kernel
theorem dX8_clear_7 : decode cX8_clear 7 = .ok (.putfield 67, 3) := by decide +kernel
theorem dX8_clear_10 : decode cX8_clear 10 = .ok (.iload_n 1, 1) := by decide +kernel
theorem dX8_clear_11 : decode cX8_clear 11 = .ok (.ireturn, 1) := by decide +kernel
theorem dX8_isFigure_0 : decode cX8_isFigure 0 = .ok (.aload_n 0, 1) := by decide +kernel
theorem dX8_isFigure_1 : decode cX8_isFigure 1 = .ok (.getfield 70, 3) := by decide +kernel
theorem dX8_isFigure_4 : decode cX8_isFigure 4 = .ok (.aload_n 0, 1) := by decide +kernel
theorem dX8_isFigure_5 : decode cX8_isFigure 5 = .ok (.getfield 67, 3) := by decide +kernel
theorem dX8_isFigure_8 : decode cX8_isFigure 8 = .ok (.if_icmp .ge 26, 3) := by decide +kernel
theorem dX8_isFigure_11 : decode cX8_isFigure 11 = .ok (.aload_n 0, 1) := by decide +kernel
theorem dX8_isFigure_12 : decode cX8_isFigure 12 = .ok (.getfield 29, 3) := by decide +kernel
theorem dX8_isFigure_15 : decode cX8_isFigure 15 = .ok (.aload_n 0, 1) := by decide +kernel
theorem dX8_isFigure_16 : decode cX8_isFigure 16 = .ok (.getfield 70, 3) := by decide +kernel
theorem dX8_isFigure_19 : decode cX8_isFigure 19 = .ok (.iaload, 1) := by decide +kernel
theorem dX8_isFigure_20 : decode cX8_isFigure 20 = .ok (.bipush 48, 2) := by decide +kernel
theorem dX8_isFigure_22 : decode cX8_isFigure 22 = .ok (.bipush 57, 2) := by decide +kernel
theorem dX8_isFigure_24 : decode cX8_isFigure 24 = .ok (.invokestatic 63, 3) := by decide +kernel
theorem dX8_isFigure_27 : decode cX8_isFigure 27 = .ok (.ifCond .eq 7, 3) := by decide +kernel
theorem dX8_isFigure_30 : decode cX8_isFigure 30 = .ok (.iconst 1, 1) := by decide +kernel
theorem dX8_isFigure_31 : decode cX8_isFigure 31 = .ok (.goto 4, 3) := by decide +kernel
theorem dX8_isFigure_34 : decode cX8_isFigure 34 = .ok (.iconst 0, 1) := by decide +kernel
theorem dX8_isFigure_35 : decode cX8_isFigure 35 = .ok (.ireturn, 1) := by decide +kernel
theorem dX8_blanks_0 : decode cX8_blanks 0 = .ok (.aload_n 0, 1) := by decide +kernel
theorem dX8_blanks_1 : decode cX8_blanks 1 = .ok (.getfield 70, 3) := by decide +kernel
theorem dX8_blanks_4 : decode cX8_blanks 4 = .ok (.aload_n 0, 1) := by decide +kernel
theorem dX8_blanks_5 : decode cX8_blanks 5 = .ok (.getfield 67, 3) := by decide +kernel
theorem dX8_blanks_8 : decode cX8_blanks 8 = .ok (.if_icmp .ge 30, 3) := by decide +kernel
theorem dX8_blanks_11 : decode cX8_blanks 11 = .ok (.aload_n 0, 1) := by decide +kernel
theorem dX8_blanks_12 : decode cX8_blanks 12 = .ok (.getfield 29, 3) := by decide +kernel
theorem dX8_blanks_15 : decode cX8_blanks 15 = .ok (.aload_n 0, 1) := by decide +kernel
theorem dX8_blanks_16 : decode cX8_blanks 16 = .ok (.getfield 70, 3) := by decide +kernel
theorem dX8_blanks_19 : decode cX8_blanks 19 = .ok (.iaload, 1) := by decide +kernel
theorem dX8_blanks_20 : decode cX8_blanks 20 = .ok (.bipush 32, 2) := by decide +kernel
theorem dX8_blanks_22 : decode cX8_blanks 22 = .ok (.if_icmp .ne 16, 3) := by decide +kernel
theorem dX8_blanks_25 : decode cX8_blanks 25 = .ok (.aload_n 0, 1) := by decide +kernel
theorem dX8_blanks_26 : decode cX8_blanks 26 = .ok (.dup, 1) := by decide +kernel
theorem dX8_blanks_27 : decode cX8_blanks 27 = .ok (.getfield 70, 3) := by decide +kernel
theorem dX8_blanks_30 : decode cX8_blanks 30 = .ok (.iconst 1, 1) := by decide +kernel
theorem dX8_blanks_31 : decode cX8_blanks 31 = .ok (.iadd, 1) := by decide +kernel
theorem dX8_blanks_32 : decode cX8_blanks 32 = .ok (.putfield 70, 3) := by decide +kernel
theorem dX8_blanks_35 : decode cX8_blanks 35 = .ok (.goto (-35), 3) := by decide +kernel
theorem dX8_blanks_38 : decode cX8_blanks 38 = .ok (.return_, 1) := by decide +kernel
theorem dX8_next_0 : decode cX8_next 0 = .ok (.aload_n 0, 1) := by decide +kernel
theorem dX8_next_1 : decode cX8_next 1 = .ok (.invokevirtual 73, 3) := by decide +kernel
theorem dX8_next_4 : decode cX8_next 4 = .ok (.aload_n 0, 1) := by decide +kernel
theorem dX8_next_5 : decode cX8_next 5 = .ok (.aload_n 0, 1) := by decide +kernel
theorem dX8_next_6 : decode cX8_next 6 = .ok (.getfield 70, 3) := by decide +kernel
theorem dX8_next_9 : decode cX8_next 9 = .ok (.putfield 76, 3) := by decide +kernel
theorem dX8_next_12 : decode cX8_next 12 = .ok (.aload_n 0, 1) := by decide +kernel
theorem dX8_next_13 : decode cX8_next 13 = .ok (.getfield 70, 3) := by decide +kernel
theorem dX8_next_16 : decode cX8_next 16 = .ok (.aload_n 0, 1) := by decide +kernel
theorem dX8_next_17 : decode cX8_next 17 = .ok (.getfield 67, 3) := by decide +kernel
theorem dX8_next_20 : decode cX8_next 20 = .ok (.if_icmp .ne 11, 3) := by decide +kernel
theorem dX8_next_23 : decode cX8_next 23 = .ok (.aload_n 0, 1) := by decide +kernel
theorem dX8_next_24 : decode cX8_next 24 = .ok (.iconst (-1), 1) := by decide +kernel
theorem dX8_next_25 : decode cX8_next 25 = .ok (.putfield 79, 3) := by decide +kernel
theorem dX8_next_28 : decode cX8_next 28 = .ok (.goto 172, 3) := by decide +kernel
theorem dX8_next_31 : decode cX8_next 31 = .ok (.aload_n 0, 1) := by decide +kernel
theorem dX8_next_32 : decode cX8_next 32 = .ok (.invokevirtual 82, 3) := by decide +kernel
theorem dX8_next_35 : decode cX8_next 35 = .ok (.ifCond .eq 117, 3) := by decide +kernel
theorem dX8_next_38 : decode cX8_next 38 = .ok (.aload_n 0, 1) := by decide +kernel
theorem dX8_next_39 : decode cX8_next 39 = .ok (.iconst 0, 1) := by decide +kernel
theorem dX8_next_40 : decode cX8_next 40 = .ok (.putfield 86, 3) := by decide +kernel
theorem dX8_next_43 : decode cX8_next 43 = .ok (.aload_n 0, 1) := by decide +kernel
theorem dX8_next_44 : decode cX8_next 44 = .ok (.invokevirtual 82, 3) := by decide +kernel
theorem dX8_next_47 : decode cX8_next 47 = .ok (.ifCond .eq 56, 3) := by decide +kernel
theorem dX8_next_50 : decode cX8_next 50 = .ok (.aload_n 0, 1) := by decide +kernel
theorem dX8_next_51 : decode cX8_next 51 = .ok (.aload_n 0, 1) := by decide +kernel
theorem dX8_next_52 : decode cX8_next 52 = .ok (.getfield 86, 3) := by decide +kernel
theorem dX8_next_55 : decode cX8_next 55 = .ok (.bipush 99, 2) := by decide +kernel
theorem dX8_next_57 : decode cX8_next 57 = .ok (.if_icmp .le 10, 3) := by decide +kernel
theorem dX8_next_60 : decode cX8_next 60 = .ok (.aload_n 0, 1) := by decide +kernel
theorem dX8_next_61 : decode cX8_next 61 = .ok (.getfield 86, 3) := by decide +kernel
theorem dX8_next_64 : decode cX8_next 64 = .ok (.goto 23, 3) := by decide +kernel
theorem dX8_next_67 : decode cX8_next 67 = .ok (.bipush 10, 2) := by decide +kernel
theorem dX8_next_69 : decode cX8_next 69 = .ok (.aload_n 0, 1) := by decide +kernel
theorem dX8_next_70 : decode cX8_next 70 = .ok (.getfield 86, 3) := by decide +kernel
theorem dX8_next_73 : decode cX8_next 73 = .ok (.imul, 1) := by decide +kernel
theorem dX8_next_74 : decode cX8_next 74 = .ok (.aload_n 0, 1) := by decide +kernel
theorem dX8_next_75 : decode cX8_next 75 = .ok (.getfield 29, 3) := by decide +kernel
theorem dX8_next_78 : decode cX8_next 78 = .ok (.aload_n 0, 1) := by decide +kernel
theorem dX8_next_79 : decode cX8_next 79 = .ok (.getfield 70, 3) := by decide +kernel
theorem dX8_next_82 : decode cX8_next 82 = .ok (.iaload, 1) := by decide +kernel
theorem dX8_next_83 : decode cX8_next 83 = .ok (.iadd, 1) := by decide +kernel
theorem dX8_next_84 : decode cX8_next 84 = .ok (.bipush 48, 2) := by decide +kernel
theorem dX8_next_86 : decode cX8_next 86 = .ok (.isub, 1) := by decide +kernel
theorem dX8_next_87 : decode cX8_next 87 = .ok (.putfield 86, 3) := by decide +kernel
theorem dX8_next_90 : decode cX8_next 90 = .ok (.aload_n 0, 1) := by decide +kernel
theorem dX8_next_91 : decode cX8_next 91 = .ok (.dup, 1) := by decide +kernel
theorem dX8_next_92 : decode cX8_next 92 = .ok (.getfield 70, 3) := by decide +kernel
theorem dX8_next_95 : decode cX8_next 95 = .ok (.iconst 1, 1) := by decide +kernel
theorem dX8_next_96 : decode cX8_next 96 = .ok (.iadd, 1) := by decide +kernel
theorem dX8_next_97 : decode cX8_next 97 = .ok (.putfield 70, 3) := by decide +kernel
theorem dX8_next_100 : decode cX8_next 100 = .ok (.goto (-57), 3) := by decide +kernel
theorem dX8_next_103 : decode cX8_next 103 = .ok (.aload_n 0, 1) := by decide +kernel
theorem dX8_next_104 : decode cX8_next 104 = .ok (.aload_n 0, 1) := by decide +kernel
theorem dX8_next_105 : decode cX8_next 105 = .ok (.getfield 86, 3) := by decide +kernel
theorem dX8_next_108 : decode cX8_next 108 = .ok (.bipush 99, 2) := by decide +kernel
theorem dX8_next_110 : decode cX8_next 110 = .ok (.if_icmp .gt 30, 3) := by decide +kernel
theorem dX8_next_113 : decode cX8_next 113 = .ok (.aload_n 0, 1) := by decide +kernel
theorem dX8_next_114 : decode cX8_next 114 = .ok (.getfield 29, 3) := by decide +kernel
theorem dX8_next_117 : decode cX8_next 117 = .ok (.aload_n 0, 1) := by decide +kernel
theorem dX8_next_118 : decode cX8_next 118 = .ok (.getfield 76, 3) := by decide +kernel
theorem dX8_next_121 : decode cX8_next 121 = .ok (.iaload, 1) := by decide +kernel
theorem dX8_next_122 : decode cX8_next 122 = .ok (.bipush 48, 2) := by decide +kernel
theorem dX8_next_124 : decode cX8_next 124 = .ok (.if_icmp .ne 21, 3) := by decide +kernel
theorem dX8_next_127 : decode cX8_next 127 = .ok (.aload_n 0, 1) := by decide +kernel
theorem dX8_next_128 : decode cX8_next 128 = .ok (.getfield 70, 3) := by decide +kernel
theorem dX8_next_131 : decode cX8_next 131 = .ok (.aload_n 0, 1) := by decide +kernel
theorem dX8_next_132 : decode cX8_next 132 = .ok (.getfield 76, 3) := by decide +kernel
theorem dX8_next_135 : decode cX8_next 135 = .ok (.isub, 1) := by decide +kernel
theorem dX8_next_136 : decode cX8_next 136 = .ok (.iconst 1, 1) := by decide +kernel
theorem dX8_next_137 : decode cX8_next 137 = .ok (.if_icmp .le 8, 3) := by decide +kernel
theorem dX8_next_140 : decode cX8_next 140 = .ok (.bipush (-2), 2) := by decide +kernel
theorem dX8_next_142 : decode cX8_next 142 = .ok (.goto 4, 3) := by decide +kernel
theorem dX8_next_145 : decode cX8_next 145 = .ok (.iconst 0, 1) := by decide +kernel
theorem dX8_next_146 : decode cX8_next 146 = .ok (.putfield 79, 3) := by decide +kernel
theorem dX8_next_149 : decode cX8_next 149 = .ok (.goto 51, 3) := by decide +kernel
theorem dX8_next_152 : decode cX8_next 152 = .ok (.aload_n 0, 1) := by decide +kernel
theorem dX8_next_153 : decode cX8_next 153 = .ok (.getfield 29, 3) := by decide +kernel
theorem dX8_next_156 : decode cX8_next 156 = .ok (.aload_n 0, 1) := by decide +kernel
theorem dX8_next_157 : decode cX8_next 157 = .ok (.getfield 70, 3) := by decide +kernel
theorem dX8_next_160 : decode cX8_next 160 = .ok (.iaload, 1) := by decide +kernel
theorem dX8_next_161 : decode cX8_next 161 = .ok (.istore_n 1, 1) := by decide +kernel
theorem dX8_next_162 : decode cX8_next 162 = .ok (.aload_n 0, 1) := by decide +kernel
theorem dX8_next_163 : decode cX8_next 163 = .ok (.iload_n 1, 1) := by decide +kernel
theorem dX8_next_164 : decode cX8_next 164 = .ok (.bipush 99, 2) := by decide +kernel
theorem dX8_next_166 : decode cX8_next 166 = .ok (.if_icmp .eq 15, 3) := by decide +kernel
theorem dX8_next_169 : decode cX8_next 169 = .ok (.iload_n 1, 1) := by decide +kernel
theorem dX8_next_170 : decode cX8_next 170 = .ok (.bipush 116, 2) := by decide +kernel
theorem dX8_next_172 : decode cX8_next 172 = .ok (.if_icmp .eq 9, 3) := by decide +kernel
theorem dX8_next_175 : decode cX8_next 175 = .ok (.iload_n 1, 1) := by decide +kernel
theorem dX8_next_176 : decode cX8_next 176 = .ok (.bipush 59, 2) := by decide +kernel
theorem dX8_next_178 : decode cX8_next 178 = .ok (.if_icmp .ne 7, 3) := by decide +kernel
theorem dX8_next_181 : decode cX8_next 181 = .ok (.iload_n 1, 1) := by decide +kernel
theorem dX8_next_182 : decode cX8_next 182 = .ok (.goto 5, 3) := by decide +kernel
theorem dX8_next_185 : decode cX8_next 185 = .ok (.bipush (-2), 2) := by decide +kernel
theorem dX8_next_187 : decode cX8_next 187 = .ok (.putfield 79, 3) := by decide +kernel
theorem dX8_next_190 : decode cX8_next 190 = .ok (.aload_n 0, 1) := by decide +kernel
theorem dX8_next_191 : decode cX8_next 191 = .ok (.dup, 1) := by decide +kernel
theorem dX8_next_192 : decode cX8_next 192 = .ok (.getfield 70, 3) := by decide +kernel
theorem dX8_next_195 : decode cX8_next 195 = .ok (.iconst 1, 1) := by decide +kernel
theorem dX8_next_196 : decode cX8_next 196 = .ok (.iadd, 1) := by decide +kernel
theorem dX8_next_197 : decode cX8_next 197 = .ok (.putfield 70, 3) := by decide +kernel
theorem dX8_next_200 : decode cX8_next 200 = .ok (.return_, 1) := by decide +kernel
theorem dX8_fails_0 : decode cX8_fails 0 = .ok (.aload_n 0, 1) := by decide +kernel
theorem dX8_fails_1 : decode cX8_fails 1 = .ok (.aload_n 0, 1) := by decide +kernel
theorem dX8_fails_2 : decode cX8_fails 2 = .ok (.getfield 76, 3) := by decide +kernel
theorem dX8_fails_5 : decode cX8_fails 5 = .ok (.putfield 89, 3) := by decide +kernel
theorem dX8_fails_8 : decode cX8_fails 8 = .ok (.iconst 0, 1) := by decide +kernel
theorem dX8_fails_9 : decode cX8_fails 9 = .ok (.ireturn, 1) := by decide +kernel
theorem dX8_number_0 : decode cX8_number 0 = .ok (.aload_n 0, 1) := by decide +kernel
theorem dX8_number_1 : decode cX8_number 1 = .ok (.invokevirtual 92, 3) := by decide +kernel
theorem dX8_number_4 : decode cX8_number 4 = .ok (.aload_n 0, 1) := by decide +kernel
theorem dX8_number_5 : decode cX8_number 5 = .ok (.getfield 79, 3) := by decide +kernel
theorem dX8_number_8 : decode cX8_number 8 = .ok (.ifCond .ne 15, 3) := by decide +kernel
theorem dX8_number_11 : decode cX8_number 11 = .ok (.aload_n 0, 1) := by decide +kernel
theorem dX8_number_12 : decode cX8_number 12 = .ok (.getfield 86, 3) := by decide +kernel
theorem dX8_number_15 : decode cX8_number 15 = .ok (.iload_n 1, 1) := by decide +kernel
theorem dX8_number_16 : decode cX8_number 16 = .ok (.iload_n 2, 1) := by decide +kernel
theorem dX8_number_17 : decode cX8_number 17 = .ok (.invokestatic 63, 3) := by decide +kernel
theorem dX8_number_20 : decode cX8_number 20 = .ok (.ifCond .ne 10, 3) := by decide +kernel
theorem dX8_number_23 : decode cX8_number 23 = .ok (.aload_n 0, 1) := by decide +kernel
theorem dX8_number_24 : decode cX8_number 24 = .ok (.invokevirtual 95, 3) := by decide +kernel
theorem dX8_number_27 : decode cX8_number 27 = .ok (.ifCond .eq 7, 3) := by decide +kernel
theorem dX8_number_30 : decode cX8_number 30 = .ok (.iconst 1, 1) := by decide +kernel
theorem dX8_number_31 : decode cX8_number 31 = .ok (.goto 4, 3) := by decide +kernel
theorem dX8_number_34 : decode cX8_number 34 = .ok (.iconst 0, 1) := by decide +kernel
theorem dX8_number_35 : decode cX8_number 35 = .ok (.ireturn, 1) := by decide +kernel
theorem dX8_ends_0 : decode cX8_ends 0 = .ok (.aload_n 0, 1) := by decide +kernel
theorem dX8_ends_1 : decode cX8_ends 1 = .ok (.invokevirtual 92, 3) := by decide +kernel
theorem dX8_ends_4 : decode cX8_ends 4 = .ok (.aload_n 0, 1) := by decide +kernel
theorem dX8_ends_5 : decode cX8_ends 5 = .ok (.getfield 79, 3) := by decide +kernel
theorem dX8_ends_8 : decode cX8_ends 8 = .ok (.bipush 59, 2) := by decide +kernel
theorem dX8_ends_10 : decode cX8_ends 10 = .ok (.if_icmp .eq 10, 3) := by decide +kernel
theorem dX8_ends_13 : decode cX8_ends 13 = .ok (.aload_n 0, 1) := by decide +kernel
theorem dX8_ends_14 : decode cX8_ends 14 = .ok (.invokevirtual 95, 3) := by decide +kernel
theorem dX8_ends_17 : decode cX8_ends 17 = .ok (.ifCond .eq 7, 3) := by decide +kernel
theorem dX8_ends_20 : decode cX8_ends 20 = .ok (.iconst 1, 1) := by decide +kernel
theorem dX8_ends_21 : decode cX8_ends 21 = .ok (.goto 4, 3) := by decide +kernel
theorem dX8_ends_24 : decode cX8_ends 24 = .ok (.iconst 0, 1) := by decide +kernel
theorem dX8_ends_25 : decode cX8_ends 25 = .ok (.ireturn, 1) := by decide +kernel
theorem dX8_readsTask_0 : decode cX8_readsTask 0 = .ok (.iconst 4, 1) := by decide +kernel
theorem dX8_readsTask_1 : decode cX8_readsTask 1 = .ok (.aload_n 0, 1) := by decide +kernel
theorem dX8_readsTask_2 : decode cX8_readsTask 2 = .ok (.getfield 98, 3) := by decide +kernel
theorem dX8_readsTask_5 : decode cX8_readsTask 5 = .ok (.imul, 1) := by decide +kernel
theorem dX8_readsTask_6 : decode cX8_readsTask 6 = .ok (.istore_n 1, 1) := by decide +kernel
theorem dX8_readsTask_7 : decode cX8_readsTask 7 = .ok (.aload_n 0, 1) := by decide +kernel
theorem dX8_readsTask_8 : decode cX8_readsTask 8 = .ok (.getfield 98, 3) := by decide +kernel
theorem dX8_readsTask_11 : decode cX8_readsTask 11 = .ok (.iconst 5, 1) := by decide +kernel
theorem dX8_readsTask_12 : decode cX8_readsTask 12 = .ok (.if_icmp .ne 8, 3) := by decide +kernel
theorem dX8_readsTask_15 : decode cX8_readsTask 15 = .ok (.aload_n 0, 1) := by decide +kernel
theorem dX8_readsTask_16 : decode cX8_readsTask 16 = .ok (.invokevirtual 95, 3) := by decide +kernel
theorem dX8_readsTask_19 : decode cX8_readsTask 19 = .ok (.ireturn, 1) := by decide +kernel
theorem dX8_readsTask_20 : decode cX8_readsTask 20 = .ok (.aload_n 0, 1) := by decide +kernel
theorem dX8_readsTask_21 : decode cX8_readsTask 21 = .ok (.iconst 0, 1) := by decide +kernel
theorem dX8_readsTask_22 : decode cX8_readsTask 22 = .ok (.bipush 15, 2) := by decide +kernel
theorem dX8_readsTask_24 : decode cX8_readsTask 24 = .ok (.invokevirtual 101, 3) := by decide +kernel
theorem dX8_readsTask_27 : decode cX8_readsTask 27 = .ok (.ifCond .ne 5, 3) := by decide +kernel
theorem dX8_readsTask_30 : decode cX8_readsTask 30 = .ok (.iconst 0, 1) := by decide +kernel
theorem dX8_readsTask_31 : decode cX8_readsTask 31 = .ok (.ireturn, 1) := by decide +kernel
theorem dX8_readsTask_32 : decode cX8_readsTask 32 = .ok (.aload_n 0, 1) := by decide +kernel
theorem dX8_readsTask_33 : decode cX8_readsTask 33 = .ok (.getfield 32, 3) := by decide +kernel
theorem dX8_readsTask_36 : decode cX8_readsTask 36 = .ok (.iload_n 1, 1) := by decide +kernel
theorem dX8_readsTask_37 : decode cX8_readsTask 37 = .ok (.aload_n 0, 1) := by decide +kernel
theorem dX8_readsTask_38 : decode cX8_readsTask 38 = .ok (.getfield 86, 3) := by decide +kernel
theorem dX8_readsTask_41 : decode cX8_readsTask 41 = .ok (.iastore, 1) := by decide +kernel
theorem dX8_readsTask_42 : decode cX8_readsTask 42 = .ok (.aload_n 0, 1) := by decide +kernel
theorem dX8_readsTask_43 : decode cX8_readsTask 43 = .ok (.aload_n 0, 1) := by decide +kernel
theorem dX8_readsTask_44 : decode cX8_readsTask 44 = .ok (.getfield 32, 3) := by decide +kernel
theorem dX8_readsTask_47 : decode cX8_readsTask 47 = .ok (.iload_n 1, 1) := by decide +kernel
theorem dX8_readsTask_48 : decode cX8_readsTask 48 = .ok (.iaload, 1) := by decide +kernel
theorem dX8_readsTask_49 : decode cX8_readsTask 49 = .ok (.iconst 1, 1) := by decide +kernel
theorem dX8_readsTask_50 : decode cX8_readsTask 50 = .ok (.iadd, 1) := by decide +kernel
theorem dX8_readsTask_51 : decode cX8_readsTask 51 = .ok (.bipush 16, 2) := by decide +kernel
theorem dX8_readsTask_53 : decode cX8_readsTask 53 = .ok (.invokevirtual 101, 3) := by decide +kernel
theorem dX8_readsTask_56 : decode cX8_readsTask 56 = .ok (.ifCond .ne 5, 3) := by decide +kernel
theorem dX8_readsTask_59 : decode cX8_readsTask 59 = .ok (.iconst 0, 1) := by decide +kernel
theorem dX8_readsTask_60 : decode cX8_readsTask 60 = .ok (.ireturn, 1) := by decide +kernel
theorem dX8_readsTask_61 : decode cX8_readsTask 61 = .ok (.aload_n 0, 1) := by decide +kernel
theorem dX8_readsTask_62 : decode cX8_readsTask 62 = .ok (.getfield 32, 3) := by decide +kernel
theorem dX8_readsTask_65 : decode cX8_readsTask 65 = .ok (.iload_n 1, 1) := by decide +kernel
theorem dX8_readsTask_66 : decode cX8_readsTask 66 = .ok (.iconst 1, 1) := by decide +kernel
theorem dX8_readsTask_67 : decode cX8_readsTask 67 = .ok (.iadd, 1) := by decide +kernel
theorem dX8_readsTask_68 : decode cX8_readsTask 68 = .ok (.aload_n 0, 1) := by decide +kernel
theorem dX8_readsTask_69 : decode cX8_readsTask 69 = .ok (.getfield 86, 3) := by decide +kernel
theorem dX8_readsTask_72 : decode cX8_readsTask 72 = .ok (.iastore, 1) := by decide +kernel
theorem dX8_readsTask_73 : decode cX8_readsTask 73 = .ok (.aload_n 0, 1) := by decide +kernel
theorem dX8_readsTask_74 : decode cX8_readsTask 74 = .ok (.getfield 32, 3) := by decide +kernel
theorem dX8_readsTask_77 : decode cX8_readsTask 77 = .ok (.iload_n 1, 1) := by decide +kernel
theorem dX8_readsTask_78 : decode cX8_readsTask 78 = .ok (.iconst 1, 1) := by decide +kernel
theorem dX8_readsTask_79 : decode cX8_readsTask 79 = .ok (.iadd, 1) := by decide +kernel
theorem dX8_readsTask_80 : decode cX8_readsTask 80 = .ok (.iaload, 1) := by decide +kernel
theorem dX8_readsTask_81 : decode cX8_readsTask 81 = .ok (.aload_n 0, 1) := by decide +kernel
theorem dX8_readsTask_82 : decode cX8_readsTask 82 = .ok (.getfield 32, 3) := by decide +kernel
theorem dX8_readsTask_85 : decode cX8_readsTask 85 = .ok (.iload_n 1, 1) := by decide +kernel
theorem dX8_readsTask_86 : decode cX8_readsTask 86 = .ok (.iaload, 1) := by decide +kernel
theorem dX8_readsTask_87 : decode cX8_readsTask 87 = .ok (.isub, 1) := by decide +kernel
theorem dX8_readsTask_88 : decode cX8_readsTask 88 = .ok (.istore_n 2, 1) := by decide +kernel
theorem dX8_readsTask_89 : decode cX8_readsTask 89 = .ok (.aload_n 0, 1) := by decide +kernel
theorem dX8_readsTask_90 : decode cX8_readsTask 90 = .ok (.iconst 1, 1) := by decide +kernel
theorem dX8_readsTask_91 : decode cX8_readsTask 91 = .ok (.iload_n 2, 1) := by decide +kernel
theorem dX8_readsTask_92 : decode cX8_readsTask 92 = .ok (.bipush 9, 2) := by decide +kernel
theorem dX8_readsTask_94 : decode cX8_readsTask 94 = .ok (.if_icmp .ge 7, 3) := by decide +kernel
theorem dX8_readsTask_97 : decode cX8_readsTask 97 = .ok (.iload_n 2, 1) := by decide +kernel
theorem dX8_readsTask_98 : decode cX8_readsTask 98 = .ok (.goto 5, 3) := by decide +kernel
theorem dX8_readsTask_101 : decode cX8_readsTask 101 = .ok (.bipush 9, 2) := by decide +kernel
theorem dX8_readsTask_103 : decode cX8_readsTask 103 = .ok (.invokevirtual 101, 3) := by decide +kernel
theorem dX8_readsTask_106 : decode cX8_readsTask 106 = .ok (.ifCond .ne 5, 3) := by decide +kernel
theorem dX8_readsTask_109 : decode cX8_readsTask 109 = .ok (.iconst 0, 1) := by decide +kernel
theorem dX8_readsTask_110 : decode cX8_readsTask 110 = .ok (.ireturn, 1) := by decide +kernel
theorem dX8_readsTask_111 : decode cX8_readsTask 111 = .ok (.aload_n 0, 1) := by decide +kernel
theorem dX8_readsTask_112 : decode cX8_readsTask 112 = .ok (.getfield 32, 3) := by decide +kernel
theorem dX8_readsTask_115 : decode cX8_readsTask 115 = .ok (.iload_n 1, 1) := by decide +kernel
theorem dX8_readsTask_116 : decode cX8_readsTask 116 = .ok (.iconst 2, 1) := by decide +kernel
theorem dX8_readsTask_117 : decode cX8_readsTask 117 = .ok (.iadd, 1) := by decide +kernel
theorem dX8_readsTask_118 : decode cX8_readsTask 118 = .ok (.aload_n 0, 1) := by decide +kernel
theorem dX8_readsTask_119 : decode cX8_readsTask 119 = .ok (.getfield 86, 3) := by decide +kernel
theorem dX8_readsTask_122 : decode cX8_readsTask 122 = .ok (.iastore, 1) := by decide +kernel
theorem dX8_readsTask_123 : decode cX8_readsTask 123 = .ok (.aload_n 0, 1) := by decide +kernel
theorem dX8_readsTask_124 : decode cX8_readsTask 124 = .ok (.iconst 1, 1) := by decide +kernel
theorem dX8_readsTask_125 : decode cX8_readsTask 125 = .ok (.aload_n 0, 1) := by decide +kernel
theorem dX8_readsTask_126 : decode cX8_readsTask 126 = .ok (.getfield 105, 3) := by decide +kernel
theorem dX8_readsTask_129 : decode cX8_readsTask 129 = .ok (.bipush 9, 2) := by decide +kernel
theorem dX8_readsTask_131 : decode cX8_readsTask 131 = .ok (.if_icmp .ge 10, 3) := by decide +kernel
theorem dX8_readsTask_134 : decode cX8_readsTask 134 = .ok (.aload_n 0, 1) := by decide +kernel
theorem dX8_readsTask_135 : decode cX8_readsTask 135 = .ok (.getfield 105, 3) := by decide +kernel
theorem dX8_readsTask_138 : decode cX8_readsTask 138 = .ok (.goto 5, 3) := by decide +kernel
theorem dX8_readsTask_141 : decode cX8_readsTask 141 = .ok (.bipush 9, 2) := by decide +kernel
theorem dX8_readsTask_143 : decode cX8_readsTask 143 = .ok (.invokevirtual 101, 3) := by decide +kernel
theorem dX8_readsTask_146 : decode cX8_readsTask 146 = .ok (.ifCond .ne 5, 3) := by decide +kernel
theorem dX8_readsTask_149 : decode cX8_readsTask 149 = .ok (.iconst 0, 1) := by decide +kernel
theorem dX8_readsTask_150 : decode cX8_readsTask 150 = .ok (.ireturn, 1) := by decide +kernel
theorem dX8_readsTask_151 : decode cX8_readsTask 151 = .ok (.aload_n 0, 1) := by decide +kernel
theorem dX8_readsTask_152 : decode cX8_readsTask 152 = .ok (.getfield 32, 3) := by decide +kernel
theorem dX8_readsTask_155 : decode cX8_readsTask 155 = .ok (.iload_n 1, 1) := by decide +kernel
theorem dX8_readsTask_156 : decode cX8_readsTask 156 = .ok (.iconst 3, 1) := by decide +kernel
theorem dX8_readsTask_157 : decode cX8_readsTask 157 = .ok (.iadd, 1) := by decide +kernel
theorem dX8_readsTask_158 : decode cX8_readsTask 158 = .ok (.aload_n 0, 1) := by decide +kernel
theorem dX8_readsTask_159 : decode cX8_readsTask 159 = .ok (.getfield 86, 3) := by decide +kernel
theorem dX8_readsTask_162 : decode cX8_readsTask 162 = .ok (.iastore, 1) := by decide +kernel
theorem dX8_readsTask_163 : decode cX8_readsTask 163 = .ok (.aload_n 0, 1) := by decide +kernel
theorem dX8_readsTask_164 : decode cX8_readsTask 164 = .ok (.dup, 1) := by decide +kernel
theorem dX8_readsTask_165 : decode cX8_readsTask 165 = .ok (.getfield 98, 3) := by decide +kernel
theorem dX8_readsTask_168 : decode cX8_readsTask 168 = .ok (.iconst 1, 1) := by decide +kernel
theorem dX8_readsTask_169 : decode cX8_readsTask 169 = .ok (.iadd, 1) := by decide +kernel
theorem dX8_readsTask_170 : decode cX8_readsTask 170 = .ok (.putfield 98, 3) := by decide +kernel
theorem dX8_readsTask_173 : decode cX8_readsTask 173 = .ok (.aload_n 0, 1) := by decide +kernel
theorem dX8_readsTask_174 : decode cX8_readsTask 174 = .ok (.invokevirtual 108, 3) := by decide +kernel
theorem dX8_readsTask_177 : decode cX8_readsTask 177 = .ok (.ireturn, 1) := by decide +kernel
theorem dX8_readsItem_0 : decode cX8_readsItem 0 = .ok (.aload_n 0, 1) := by decide +kernel
theorem dX8_readsItem_1 : decode cX8_readsItem 1 = .ok (.invokevirtual 92, 3) := by decide +kernel
theorem dX8_readsItem_4 : decode cX8_readsItem 4 = .ok (.aload_n 0, 1) := by decide +kernel
theorem dX8_readsItem_5 : decode cX8_readsItem 5 = .ok (.getfield 79, 3) := by decide +kernel
theorem dX8_readsItem_8 : decode cX8_readsItem 8 = .ok (.bipush 116, 2) := by decide +kernel
theorem dX8_readsItem_10 : decode cX8_readsItem 10 = .ok (.if_icmp .ne 8, 3) := by decide +kernel
theorem dX8_readsItem_13 : decode cX8_readsItem 13 = .ok (.aload_n 0, 1) := by decide +kernel
theorem dX8_readsItem_14 : decode cX8_readsItem 14 = .ok (.invokevirtual 111, 3) := by decide +kernel
theorem dX8_readsItem_17 : decode cX8_readsItem 17 = .ok (.ireturn, 1) := by decide +kernel
theorem dX8_readsItem_18 : decode cX8_readsItem 18 = .ok (.aload_n 0, 1) := by decide +kernel
theorem dX8_readsItem_19 : decode cX8_readsItem 19 = .ok (.getfield 79, 3) := by decide +kernel
theorem dX8_readsItem_22 : decode cX8_readsItem 22 = .ok (.bipush 99, 2) := by decide +kernel
theorem dX8_readsItem_24 : decode cX8_readsItem 24 = .ok (.if_icmp .ne 7, 3) := by decide +kernel
theorem dX8_readsItem_27 : decode cX8_readsItem 27 = .ok (.iload_n 1, 1) := by decide +kernel
theorem dX8_readsItem_28 : decode cX8_readsItem 28 = .ok (.ifCond .ne 8, 3) := by decide +kernel
theorem dX8_readsItem_31 : decode cX8_readsItem 31 = .ok (.aload_n 0, 1) := by decide +kernel
theorem dX8_readsItem_32 : decode cX8_readsItem 32 = .ok (.invokevirtual 95, 3) := by decide +kernel
theorem dX8_readsItem_35 : decode cX8_readsItem 35 = .ok (.ireturn, 1) := by decide +kernel
theorem dX8_readsItem_36 : decode cX8_readsItem 36 = .ok (.aload_n 0, 1) := by decide +kernel
theorem dX8_readsItem_37 : decode cX8_readsItem 37 = .ok (.iconst 1, 1) := by decide +kernel
theorem dX8_readsItem_38 : decode cX8_readsItem 38 = .ok (.bipush 20, 2) := by decide +kernel
theorem dX8_readsItem_40 : decode cX8_readsItem 40 = .ok (.invokevirtual 101, 3) := by decide +kernel
theorem dX8_readsItem_43 : decode cX8_readsItem 43 = .ok (.ifCond .ne 5, 3) := by decide +kernel
theorem dX8_readsItem_46 : decode cX8_readsItem 46 = .ok (.iconst 0, 1) := by decide +kernel
theorem dX8_readsItem_47 : decode cX8_readsItem 47 = .ok (.ireturn, 1) := by decide +kernel
theorem dX8_readsItem_48 : decode cX8_readsItem 48 = .ok (.aload_n 0, 1) := by decide +kernel
theorem dX8_readsItem_49 : decode cX8_readsItem 49 = .ok (.aload_n 0, 1) := by decide +kernel
theorem dX8_readsItem_50 : decode cX8_readsItem 50 = .ok (.getfield 86, 3) := by decide +kernel
theorem dX8_readsItem_53 : decode cX8_readsItem 53 = .ok (.putfield 105, 3) := by decide +kernel
theorem dX8_readsItem_56 : decode cX8_readsItem 56 = .ok (.aload_n 0, 1) := by decide +kernel
theorem dX8_readsItem_57 : decode cX8_readsItem 57 = .ok (.invokevirtual 108, 3) := by decide +kernel
theorem dX8_readsItem_60 : decode cX8_readsItem 60 = .ok (.ireturn, 1) := by decide +kernel
theorem dX8_desk_0 : decode cX8_desk 0 = .ok (.aload_n 0, 1) := by decide +kernel
theorem dX8_desk_1 : decode cX8_desk 1 = .ok (.iconst 0, 1) := by decide +kernel
theorem dX8_desk_2 : decode cX8_desk 2 = .ok (.putfield 70, 3) := by decide +kernel
theorem dX8_desk_5 : decode cX8_desk 5 = .ok (.aload_n 0, 1) := by decide +kernel
theorem dX8_desk_6 : decode cX8_desk 6 = .ok (.iconst 0, 1) := by decide +kernel
theorem dX8_desk_7 : decode cX8_desk 7 = .ok (.putfield 98, 3) := by decide +kernel
theorem dX8_desk_10 : decode cX8_desk 10 = .ok (.aload_n 0, 1) := by decide +kernel
theorem dX8_desk_11 : decode cX8_desk 11 = .ok (.iconst 3, 1) := by decide +kernel
theorem dX8_desk_12 : decode cX8_desk 12 = .ok (.putfield 105, 3) := by decide +kernel
theorem dX8_desk_15 : decode cX8_desk 15 = .ok (.iconst 0, 1) := by decide +kernel
theorem dX8_desk_16 : decode cX8_desk 16 = .ok (.istore_n 1, 1) := by decide +kernel
theorem dX8_desk_17 : decode cX8_desk 17 = .ok (.aload_n 0, 1) := by decide +kernel
theorem dX8_desk_18 : decode cX8_desk 18 = .ok (.invokevirtual 73, 3) := by decide +kernel
theorem dX8_desk_21 : decode cX8_desk 21 = .ok (.aload_n 0, 1) := by decide +kernel
theorem dX8_desk_22 : decode cX8_desk 22 = .ok (.getfield 70, 3) := by decide +kernel
theorem dX8_desk_25 : decode cX8_desk 25 = .ok (.aload_n 0, 1) := by decide +kernel
theorem dX8_desk_26 : decode cX8_desk 26 = .ok (.getfield 67, 3) := by decide +kernel
theorem dX8_desk_29 : decode cX8_desk 29 = .ok (.if_icmp .ge 37, 3) := by decide +kernel
theorem dX8_desk_32 : decode cX8_desk 32 = .ok (.aload_n 0, 1) := by decide +kernel
theorem dX8_desk_33 : decode cX8_desk 33 = .ok (.iload_n 1, 1) := by decide +kernel
theorem dX8_desk_34 : decode cX8_desk 34 = .ok (.ifCond .ne 7, 3) := by decide +kernel
theorem dX8_desk_37 : decode cX8_desk 37 = .ok (.iconst 1, 1) := by decide +kernel
theorem dX8_desk_38 : decode cX8_desk 38 = .ok (.goto 4, 3) := by decide +kernel
theorem dX8_desk_41 : decode cX8_desk 41 = .ok (.iconst 0, 1) := by decide +kernel
theorem dX8_desk_42 : decode cX8_desk 42 = .ok (.invokevirtual 114, 3) := by decide +kernel
theorem dX8_desk_45 : decode cX8_desk 45 = .ok (.ifCond .ne 11, 3) := by decide +kernel
theorem dX8_desk_48 : decode cX8_desk 48 = .ok (.bipush (-10), 2) := by decide +kernel
theorem dX8_desk_50 : decode cX8_desk 50 = .ok (.aload_n 0, 1) := by decide +kernel
theorem dX8_desk_51 : decode cX8_desk 51 = .ok (.getfield 89, 3) := by decide +kernel
theorem dX8_desk_54 : decode cX8_desk 54 = .ok (.isub, 1) := by decide +kernel
theorem dX8_desk_55 : decode cX8_desk 55 = .ok (.ireturn, 1) := by decide +kernel
theorem dX8_desk_56 : decode cX8_desk 56 = .ok (.iinc 1 1, 3) := by decide +kernel
theorem dX8_desk_59 : decode cX8_desk 59 = .ok (.aload_n 0, 1) := by decide +kernel
theorem dX8_desk_60 : decode cX8_desk 60 = .ok (.invokevirtual 73, 3) := by decide +kernel
theorem dX8_desk_63 : decode cX8_desk 63 = .ok (.goto (-42), 3) := by decide +kernel
theorem dX8_desk_66 : decode cX8_desk 66 = .ok (.aload_n 0, 1) := by decide +kernel
theorem dX8_desk_67 : decode cX8_desk 67 = .ok (.iconst 0, 1) := by decide +kernel
theorem dX8_desk_68 : decode cX8_desk 68 = .ok (.putfield 67, 3) := by decide +kernel
theorem dX8_desk_71 : decode cX8_desk 71 = .ok (.aload_n 0, 1) := by decide +kernel
theorem dX8_desk_72 : decode cX8_desk 72 = .ok (.aload_n 0, 1) := by decide +kernel
theorem dX8_desk_73 : decode cX8_desk 73 = .ok (.getfield 98, 3) := by decide +kernel
theorem dX8_desk_76 : decode cX8_desk 76 = .ok (.putfield 118, 3) := by decide +kernel
theorem dX8_desk_79 : decode cX8_desk 79 = .ok (.aload_n 0, 1) := by decide +kernel
theorem dX8_desk_80 : decode cX8_desk 80 = .ok (.aload_n 0, 1) := by decide +kernel
theorem dX8_desk_81 : decode cX8_desk 81 = .ok (.getfield 105, 3) := by decide +kernel
theorem dX8_desk_84 : decode cX8_desk 84 = .ok (.putfield 59, 3) := by decide +kernel
theorem dX8_desk_87 : decode cX8_desk 87 = .ok (.iconst 0, 1) := by decide +kernel
theorem dX8_desk_88 : decode cX8_desk 88 = .ok (.istore_n 2, 1) := by decide +kernel
theorem dX8_desk_89 : decode cX8_desk 89 = .ok (.iload_n 2, 1) := by decide +kernel
theorem dX8_desk_90 : decode cX8_desk 90 = .ok (.iconst 5, 1) := by decide +kernel
theorem dX8_desk_91 : decode cX8_desk 91 = .ok (.if_icmp .ge 123, 3) := by decide +kernel
theorem dX8_desk_94 : decode cX8_desk 94 = .ok (.aload_n 0, 1) := by decide +kernel
theorem dX8_desk_95 : decode cX8_desk 95 = .ok (.getfield 16, 3) := by decide +kernel
theorem dX8_desk_98 : decode cX8_desk 98 = .ok (.iconst 0, 1) := by decide +kernel
theorem dX8_desk_99 : decode cX8_desk 99 = .ok (.iload_n 2, 1) := by decide +kernel
theorem dX8_desk_100 : decode cX8_desk 100 = .ok (.iadd, 1) := by decide +kernel
theorem dX8_desk_101 : decode cX8_desk 101 = .ok (.iload_n 2, 1) := by decide +kernel
theorem dX8_desk_102 : decode cX8_desk 102 = .ok (.aload_n 0, 1) := by decide +kernel
theorem dX8_desk_103 : decode cX8_desk 103 = .ok (.getfield 118, 3) := by decide +kernel
theorem dX8_desk_106 : decode cX8_desk 106 = .ok (.if_icmp .ge 14, 3) := by decide +kernel
theorem dX8_desk_109 : decode cX8_desk 109 = .ok (.aload_n 0, 1) := by decide +kernel
theorem dX8_desk_110 : decode cX8_desk 110 = .ok (.getfield 32, 3) := by decide +kernel
theorem dX8_desk_113 : decode cX8_desk 113 = .ok (.iconst 4, 1) := by decide +kernel
theorem dX8_desk_114 : decode cX8_desk 114 = .ok (.iload_n 2, 1) := by decide +kernel
theorem dX8_desk_115 : decode cX8_desk 115 = .ok (.imul, 1) := by decide +kernel
theorem dX8_desk_116 : decode cX8_desk 116 = .ok (.iaload, 1) := by decide +kernel
theorem dX8_desk_117 : decode cX8_desk 117 = .ok (.goto 4, 3) := by decide +kernel
theorem dX8_desk_120 : decode cX8_desk 120 = .ok (.iconst 0, 1) := by decide +kernel
theorem dX8_desk_121 : decode cX8_desk 121 = .ok (.iastore, 1) := by decide +kernel
theorem dX8_desk_122 : decode cX8_desk 122 = .ok (.aload_n 0, 1) := by decide +kernel
theorem dX8_desk_123 : decode cX8_desk 123 = .ok (.getfield 16, 3) := by decide +kernel
theorem dX8_desk_126 : decode cX8_desk 126 = .ok (.iconst 5, 1) := by decide +kernel
theorem dX8_desk_127 : decode cX8_desk 127 = .ok (.iload_n 2, 1) := by decide +kernel
theorem dX8_desk_128 : decode cX8_desk 128 = .ok (.iadd, 1) := by decide +kernel
theorem dX8_desk_129 : decode cX8_desk 129 = .ok (.iload_n 2, 1) := by decide +kernel
theorem dX8_desk_130 : decode cX8_desk 130 = .ok (.aload_n 0, 1) := by decide +kernel
theorem dX8_desk_131 : decode cX8_desk 131 = .ok (.getfield 118, 3) := by decide +kernel
theorem dX8_desk_134 : decode cX8_desk 134 = .ok (.if_icmp .ge 16, 3) := by decide +kernel
theorem dX8_desk_137 : decode cX8_desk 137 = .ok (.aload_n 0, 1) := by decide +kernel
theorem dX8_desk_138 : decode cX8_desk 138 = .ok (.getfield 32, 3) := by decide +kernel
theorem dX8_desk_141 : decode cX8_desk 141 = .ok (.iconst 4, 1) := by decide +kernel
theorem dX8_desk_142 : decode cX8_desk 142 = .ok (.iload_n 2, 1) := by decide +kernel
theorem dX8_desk_143 : decode cX8_desk 143 = .ok (.imul, 1) := by decide +kernel
theorem dX8_desk_144 : decode cX8_desk 144 = .ok (.iconst 1, 1) := by decide +kernel
theorem dX8_desk_145 : decode cX8_desk 145 = .ok (.iadd, 1) := by decide +kernel
theorem dX8_desk_146 : decode cX8_desk 146 = .ok (.iaload, 1) := by decide +kernel
theorem dX8_desk_147 : decode cX8_desk 147 = .ok (.goto 4, 3) := by decide +kernel
theorem dX8_desk_150 : decode cX8_desk 150 = .ok (.iconst 0, 1) := by decide +kernel
theorem dX8_desk_151 : decode cX8_desk 151 = .ok (.iastore, 1) := by decide +kernel
theorem dX8_desk_152 : decode cX8_desk 152 = .ok (.aload_n 0, 1) := by decide +kernel
theorem dX8_desk_153 : decode cX8_desk 153 = .ok (.getfield 7, 3) := by decide +kernel
theorem dX8_desk_156 : decode cX8_desk 156 = .ok (.iload_n 2, 1) := by decide +kernel
theorem dX8_desk_157 : decode cX8_desk 157 = .ok (.iload_n 2, 1) := by decide +kernel
theorem dX8_desk_158 : decode cX8_desk 158 = .ok (.aload_n 0, 1) := by decide +kernel
theorem dX8_desk_159 : decode cX8_desk 159 = .ok (.getfield 118, 3) := by decide +kernel
theorem dX8_desk_162 : decode cX8_desk 162 = .ok (.if_icmp .ge 16, 3) := by decide +kernel
theorem dX8_desk_165 : decode cX8_desk 165 = .ok (.aload_n 0, 1) := by decide +kernel
theorem dX8_desk_166 : decode cX8_desk 166 = .ok (.getfield 32, 3) := by decide +kernel
theorem dX8_desk_169 : decode cX8_desk 169 = .ok (.iconst 4, 1) := by decide +kernel
theorem dX8_desk_170 : decode cX8_desk 170 = .ok (.iload_n 2, 1) := by decide +kernel
theorem dX8_desk_171 : decode cX8_desk 171 = .ok (.imul, 1) := by decide +kernel
theorem dX8_desk_172 : decode cX8_desk 172 = .ok (.iconst 2, 1) := by decide +kernel
theorem dX8_desk_173 : decode cX8_desk 173 = .ok (.iadd, 1) := by decide +kernel
theorem dX8_desk_174 : decode cX8_desk 174 = .ok (.iaload, 1) := by decide +kernel
theorem dX8_desk_175 : decode cX8_desk 175 = .ok (.goto 4, 3) := by decide +kernel
theorem dX8_desk_178 : decode cX8_desk 178 = .ok (.iconst 0, 1) := by decide +kernel
theorem dX8_desk_179 : decode cX8_desk 179 = .ok (.iastore, 1) := by decide +kernel
theorem dX8_desk_180 : decode cX8_desk 180 = .ok (.aload_n 0, 1) := by decide +kernel
theorem dX8_desk_181 : decode cX8_desk 181 = .ok (.getfield 13, 3) := by decide +kernel
theorem dX8_desk_184 : decode cX8_desk 184 = .ok (.iload_n 2, 1) := by decide +kernel
theorem dX8_desk_185 : decode cX8_desk 185 = .ok (.iload_n 2, 1) := by decide +kernel
theorem dX8_desk_186 : decode cX8_desk 186 = .ok (.aload_n 0, 1) := by decide +kernel
theorem dX8_desk_187 : decode cX8_desk 187 = .ok (.getfield 118, 3) := by decide +kernel
theorem dX8_desk_190 : decode cX8_desk 190 = .ok (.if_icmp .ge 16, 3) := by decide +kernel
theorem dX8_desk_193 : decode cX8_desk 193 = .ok (.aload_n 0, 1) := by decide +kernel
theorem dX8_desk_194 : decode cX8_desk 194 = .ok (.getfield 32, 3) := by decide +kernel
theorem dX8_desk_197 : decode cX8_desk 197 = .ok (.iconst 4, 1) := by decide +kernel
theorem dX8_desk_198 : decode cX8_desk 198 = .ok (.iload_n 2, 1) := by decide +kernel
theorem dX8_desk_199 : decode cX8_desk 199 = .ok (.imul, 1) := by decide +kernel
theorem dX8_desk_200 : decode cX8_desk 200 = .ok (.iconst 3, 1) := by decide +kernel
theorem dX8_desk_201 : decode cX8_desk 201 = .ok (.iadd, 1) := by decide +kernel
theorem dX8_desk_202 : decode cX8_desk 202 = .ok (.iaload, 1) := by decide +kernel
theorem dX8_desk_203 : decode cX8_desk 203 = .ok (.goto 4, 3) := by decide +kernel
theorem dX8_desk_206 : decode cX8_desk 206 = .ok (.iconst 0, 1) := by decide +kernel
theorem dX8_desk_207 : decode cX8_desk 207 = .ok (.iastore, 1) := by decide +kernel
theorem dX8_desk_208 : decode cX8_desk 208 = .ok (.iinc 2 1, 3) := by decide +kernel
theorem dX8_desk_211 : decode cX8_desk 211 = .ok (.goto (-122), 3) := by decide +kernel
theorem dX8_desk_214 : decode cX8_desk 214 = .ok (.bipush 10, 2) := by decide +kernel
theorem dX8_desk_216 : decode cX8_desk 216 = .ok (.istore_n 2, 1) := by decide +kernel
theorem dX8_desk_217 : decode cX8_desk 217 = .ok (.iload_n 2, 1) := by decide +kernel
theorem dX8_desk_218 : decode cX8_desk 218 = .ok (.bipush 20, 2) := by decide +kernel
theorem dX8_desk_220 : decode cX8_desk 220 = .ok (.if_icmp .ge 28, 3) := by decide +kernel
theorem dX8_desk_223 : decode cX8_desk 223 = .ok (.aload_n 0, 1) := by decide +kernel
theorem dX8_desk_224 : decode cX8_desk 224 = .ok (.getfield 16, 3) := by decide +kernel
theorem dX8_desk_227 : decode cX8_desk 227 = .ok (.iload_n 2, 1) := by decide +kernel
theorem dX8_desk_228 : decode cX8_desk 228 = .ok (.bipush (-9), 2) := by decide +kernel
theorem dX8_desk_230 : decode cX8_desk 230 = .ok (.iastore, 1) := by decide +kernel
theorem dX8_desk_231 : decode cX8_desk 231 = .ok (.aload_n 0, 1) := by decide +kernel
theorem dX8_desk_232 : decode cX8_desk 232 = .ok (.getfield 16, 3) := by decide +kernel
theorem dX8_desk_235 : decode cX8_desk 235 = .ok (.iload_n 2, 1) := by decide +kernel
theorem dX8_desk_236 : decode cX8_desk 236 = .ok (.bipush 10, 2) := by decide +kernel
theorem dX8_desk_238 : decode cX8_desk 238 = .ok (.iadd, 1) := by decide +kernel
theorem dX8_desk_239 : decode cX8_desk 239 = .ok (.bipush (-9), 2) := by decide +kernel
theorem dX8_desk_241 : decode cX8_desk 241 = .ok (.iastore, 1) := by decide +kernel
theorem dX8_desk_242 : decode cX8_desk 242 = .ok (.iinc 2 1, 3) := by decide +kernel
theorem dX8_desk_245 : decode cX8_desk 245 = .ok (.goto (-28), 3) := by decide +kernel
theorem dX8_desk_248 : decode cX8_desk 248 = .ok (.aload_n 0, 1) := by decide +kernel
theorem dX8_desk_249 : decode cX8_desk 249 = .ok (.iconst 0, 1) := by decide +kernel
theorem dX8_desk_250 : decode cX8_desk 250 = .ok (.putfield 121, 3) := by decide +kernel
theorem dX8_desk_253 : decode cX8_desk 253 = .ok (.aload_n 0, 1) := by decide +kernel
theorem dX8_desk_254 : decode cX8_desk 254 = .ok (.getfield 22, 3) := by decide +kernel
theorem dX8_desk_257 : decode cX8_desk 257 = .ok (.iconst 0, 1) := by decide +kernel
theorem dX8_desk_258 : decode cX8_desk 258 = .ok (.iconst 0, 1) := by decide +kernel
theorem dX8_desk_259 : decode cX8_desk 259 = .ok (.bastore, 1) := by decide +kernel
theorem dX8_desk_260 : decode cX8_desk 260 = .ok (.aload_n 0, 1) := by decide +kernel
theorem dX8_desk_261 : decode cX8_desk 261 = .ok (.getfield 22, 3) := by decide +kernel
theorem dX8_desk_264 : decode cX8_desk 264 = .ok (.iconst 1, 1) := by decide +kernel
theorem dX8_desk_265 : decode cX8_desk 265 = .ok (.iconst 0, 1) := by decide +kernel
theorem dX8_desk_266 : decode cX8_desk 266 = .ok (.bastore, 1) := by decide +kernel
theorem dX8_desk_267 : decode cX8_desk 267 = .ok (.iload_n 1, 1) := by decide +kernel
theorem dX8_desk_268 : decode cX8_desk 268 = .ok (.ireturn, 1) := by decide +kernel
theorem dX8_isTask_0 : decode cX8_isTask 0 = .ok (.iload_n 1, 1) := by decide +kernel
theorem dX8_isTask_1 : decode cX8_isTask 1 = .ok (.iconst 0, 1) := by decide +kernel
theorem dX8_isTask_2 : decode cX8_isTask 2 = .ok (.aload_n 0, 1) := by decide +kernel
theorem dX8_isTask_3 : decode cX8_isTask 3 = .ok (.getfield 118, 3) := by decide +kernel
theorem dX8_isTask_6 : decode cX8_isTask 6 = .ok (.iconst 1, 1) := by decide +kernel
theorem dX8_isTask_7 : decode cX8_isTask 7 = .ok (.isub, 1) := by decide +kernel
theorem dX8_isTask_8 : decode cX8_isTask 8 = .ok (.invokestatic 63, 3) := by decide +kernel
theorem dX8_isTask_11 : decode cX8_isTask 11 = .ok (.ireturn, 1) := by decide +kernel
theorem dX8_all_0 : decode cX8_all 0 = .ok (.iconst 1, 1) := by decide +kernel
theorem dX8_all_1 : decode cX8_all 1 = .ok (.aload_n 0, 1) := by decide +kernel
theorem dX8_all_2 : decode cX8_all 2 = .ok (.getfield 118, 3) := by decide +kernel
theorem dX8_all_5 : decode cX8_all 5 = .ok (.ishl, 1) := by decide +kernel
theorem dX8_all_6 : decode cX8_all 6 = .ok (.iconst 1, 1) := by decide +kernel
theorem dX8_all_7 : decode cX8_all 7 = .ok (.isub, 1) := by decide +kernel
theorem dX8_all_8 : decode cX8_all 8 = .ok (.ireturn, 1) := by decide +kernel
theorem dX8_isBroken_0 : decode cX8_isBroken 0 = .ok (.iconst 0, 1) := by decide +kernel
theorem dX8_isBroken_1 : decode cX8_isBroken 1 = .ok (.istore_n 1, 1) := by decide +kernel
theorem dX8_isBroken_2 : decode cX8_isBroken 2 = .ok (.iconst 0, 1) := by decide +kernel
theorem dX8_isBroken_3 : decode cX8_isBroken 3 = .ok (.istore_n 2, 1) := by decide +kernel
theorem dX8_isBroken_4 : decode cX8_isBroken 4 = .ok (.iload_n 2, 1) := by decide +kernel
theorem dX8_isBroken_5 : decode cX8_isBroken 5 = .ok (.aload_n 0, 1) := by decide +kernel
theorem dX8_isBroken_6 : decode cX8_isBroken 6 = .ok (.getfield 118, 3) := by decide +kernel
theorem dX8_isBroken_9 : decode cX8_isBroken 9 = .ok (.if_icmp .ge 45, 3) := by decide +kernel
theorem dX8_isBroken_12 : decode cX8_isBroken 12 = .ok (.iload_n 1, 1) := by decide +kernel
theorem dX8_isBroken_13 : decode cX8_isBroken 13 = .ok (.ifCond .ne 29, 3) := by decide +kernel
theorem dX8_isBroken_16 : decode cX8_isBroken 16 = .ok (.aload_n 0, 1) := by decide +kernel
theorem dX8_isBroken_17 : decode cX8_isBroken 17 = .ok (.getfield 16, 3) := by decide +kernel
theorem dX8_isBroken_20 : decode cX8_isBroken 20 = .ok (.iconst 0, 1) := by decide +kernel
theorem dX8_isBroken_21 : decode cX8_isBroken 21 = .ok (.iload_n 2, 1) := by decide +kernel
theorem dX8_isBroken_22 : decode cX8_isBroken 22 = .ok (.iadd, 1) := by decide +kernel
theorem dX8_isBroken_23 : decode cX8_isBroken 23 = .ok (.iaload, 1) := by decide +kernel
theorem dX8_isBroken_24 : decode cX8_isBroken 24 = .ok (.aload_n 0, 1) := by decide +kernel
theorem dX8_isBroken_25 : decode cX8_isBroken 25 = .ok (.getfield 7, 3) := by decide +kernel
theorem dX8_isBroken_28 : decode cX8_isBroken 28 = .ok (.iload_n 2, 1) := by decide +kernel
theorem dX8_isBroken_29 : decode cX8_isBroken 29 = .ok (.iaload, 1) := by decide +kernel
theorem dX8_isBroken_30 : decode cX8_isBroken 30 = .ok (.iadd, 1) := by decide +kernel
theorem dX8_isBroken_31 : decode cX8_isBroken 31 = .ok (.aload_n 0, 1) := by decide +kernel
theorem dX8_isBroken_32 : decode cX8_isBroken 32 = .ok (.getfield 16, 3) := by decide +kernel
theorem dX8_isBroken_35 : decode cX8_isBroken 35 = .ok (.iconst 5, 1) := by decide +kernel
theorem dX8_isBroken_36 : decode cX8_isBroken 36 = .ok (.iload_n 2, 1) := by decide +kernel
theorem dX8_isBroken_37 : decode cX8_isBroken 37 = .ok (.iadd, 1) := by decide +kernel
theorem dX8_isBroken_38 : decode cX8_isBroken 38 = .ok (.iaload, 1) := by decide +kernel
theorem dX8_isBroken_39 : decode cX8_isBroken 39 = .ok (.if_icmp .le 7, 3) := by decide +kernel
theorem dX8_isBroken_42 : decode cX8_isBroken 42 = .ok (.iconst 1, 1) := by decide +kernel
theorem dX8_isBroken_43 : decode cX8_isBroken 43 = .ok (.goto 4, 3) := by decide +kernel
theorem dX8_isBroken_46 : decode cX8_isBroken 46 = .ok (.iconst 0, 1) := by decide +kernel
theorem dX8_isBroken_47 : decode cX8_isBroken 47 = .ok (.istore_n 1, 1) := by decide +kernel
theorem dX8_isBroken_48 : decode cX8_isBroken 48 = .ok (.iinc 2 1, 3) := by decide +kernel
theorem dX8_isBroken_51 : decode cX8_isBroken 51 = .ok (.goto (-47), 3) := by decide +kernel
theorem dX8_isBroken_54 : decode cX8_isBroken 54 = .ok (.iload_n 1, 1) := by decide +kernel
theorem dX8_isBroken_55 : decode cX8_isBroken 55 = .ok (.ireturn, 1) := by decide +kernel
theorem dX8_done_0 : decode cX8_done 0 = .ok (.aload_n 0, 1) := by decide +kernel
theorem dX8_done_1 : decode cX8_done 1 = .ok (.getfield 35, 3) := by decide +kernel
theorem dX8_done_4 : decode cX8_done 4 = .ok (.iload_n 1, 1) := by decide +kernel
theorem dX8_done_5 : decode cX8_done 5 = .ok (.iaload, 1) := by decide +kernel
theorem dX8_done_6 : decode cX8_done 6 = .ok (.aload_n 0, 1) := by decide +kernel
theorem dX8_done_7 : decode cX8_done 7 = .ok (.getfield 7, 3) := by decide +kernel
theorem dX8_done_10 : decode cX8_done 10 = .ok (.iload_n 1, 1) := by decide +kernel
theorem dX8_done_11 : decode cX8_done 11 = .ok (.iaload, 1) := by decide +kernel
theorem dX8_done_12 : decode cX8_done 12 = .ok (.iadd, 1) := by decide +kernel
theorem dX8_done_13 : decode cX8_done 13 = .ok (.ireturn, 1) := by decide +kernel
theorem dX8_start_0 : decode cX8_start 0 = .ok (.aload_n 0, 1) := by decide +kernel
theorem dX8_start_1 : decode cX8_start 1 = .ok (.getfield 38, 3) := by decide +kernel
theorem dX8_start_4 : decode cX8_start 4 = .ok (.iload_n 1, 1) := by decide +kernel
theorem dX8_start_5 : decode cX8_start 5 = .ok (.iaload, 1) := by decide +kernel
theorem dX8_start_6 : decode cX8_start 6 = .ok (.aload_n 0, 1) := by decide +kernel
theorem dX8_start_7 : decode cX8_start 7 = .ok (.getfield 7, 3) := by decide +kernel
theorem dX8_start_10 : decode cX8_start 10 = .ok (.iload_n 1, 1) := by decide +kernel
theorem dX8_start_11 : decode cX8_start 11 = .ok (.iaload, 1) := by decide +kernel
theorem dX8_start_12 : decode cX8_start 12 = .ok (.isub, 1) := by decide +kernel
theorem dX8_start_13 : decode cX8_start 13 = .ok (.ireturn, 1) := by decide +kernel
theorem dX8_setEarly_0 : decode cX8_setEarly 0 = .ok (.bipush 99, 2) := by decide +kernel
theorem dX8_setEarly_2 : decode cX8_setEarly 2 = .ok (.istore_n 2, 1) := by decide +kernel
theorem dX8_setEarly_3 : decode cX8_setEarly 3 = .ok (.iconst 0, 1) := by decide +kernel
theorem dX8_setEarly_4 : decode cX8_setEarly 4 = .ok (.istore_n 3, 1) := by decide +kernel
theorem dX8_setEarly_5 : decode cX8_setEarly 5 = .ok (.iload_n 3, 1) := by decide +kernel
theorem dX8_setEarly_6 : decode cX8_setEarly 6 = .ok (.aload_n 0, 1) := by decide +kernel
theorem dX8_setEarly_7 : decode cX8_setEarly 7 = .ok (.getfield 118, 3) := by decide +kernel
theorem dX8_setEarly_10 : decode cX8_setEarly 10 = .ok (.if_icmp .ge 38, 3) := by decide +kernel
theorem dX8_setEarly_13 : decode cX8_setEarly 13 = .ok (.iload_n 1, 1) := by decide +kernel
theorem dX8_setEarly_14 : decode cX8_setEarly 14 = .ok (.iload_n 3, 1) := by decide +kernel
theorem dX8_setEarly_15 : decode cX8_setEarly 15 = .ok (.invokestatic 124, 3) := by decide +kernel
theorem dX8_setEarly_18 : decode cX8_setEarly 18 = .ok (.ifCond .eq 22, 3) := by decide +kernel
theorem dX8_setEarly_21 : decode cX8_setEarly 21 = .ok (.aload_n 0, 1) := by decide +kernel
theorem dX8_setEarly_22 : decode cX8_setEarly 22 = .ok (.getfield 35, 3) := by decide +kernel
theorem dX8_setEarly_25 : decode cX8_setEarly 25 = .ok (.iload_n 3, 1) := by decide +kernel
theorem dX8_setEarly_26 : decode cX8_setEarly 26 = .ok (.iaload, 1) := by decide +kernel
theorem dX8_setEarly_27 : decode cX8_setEarly 27 = .ok (.iload_n 2, 1) := by decide +kernel
theorem dX8_setEarly_28 : decode cX8_setEarly 28 = .ok (.if_icmp .ge 12, 3) := by decide +kernel
theorem dX8_setEarly_31 : decode cX8_setEarly 31 = .ok (.aload_n 0, 1) := by decide +kernel
theorem dX8_setEarly_32 : decode cX8_setEarly 32 = .ok (.getfield 35, 3) := by decide +kernel
theorem dX8_setEarly_35 : decode cX8_setEarly 35 = .ok (.iload_n 3, 1) := by decide +kernel
theorem dX8_setEarly_36 : decode cX8_setEarly 36 = .ok (.iaload, 1) := by decide +kernel
theorem dX8_setEarly_37 : decode cX8_setEarly 37 = .ok (.goto 4, 3) := by decide +kernel
theorem dX8_setEarly_40 : decode cX8_setEarly 40 = .ok (.iload_n 2, 1) := by decide +kernel
theorem dX8_setEarly_41 : decode cX8_setEarly 41 = .ok (.istore_n 2, 1) := by decide +kernel
theorem dX8_setEarly_42 : decode cX8_setEarly 42 = .ok (.iinc 3 1, 3) := by decide +kernel
theorem dX8_setEarly_45 : decode cX8_setEarly 45 = .ok (.goto (-40), 3) := by decide +kernel
theorem dX8_setEarly_48 : decode cX8_setEarly 48 = .ok (.iload_n 2, 1) := by decide +kernel
theorem dX8_setEarly_49 : decode cX8_setEarly 49 = .ok (.ireturn, 1) := by decide +kernel
theorem dX8_setLate_0 : decode cX8_setLate 0 = .ok (.iconst 0, 1) := by decide +kernel
theorem dX8_setLate_1 : decode cX8_setLate 1 = .ok (.istore_n 2, 1) := by decide +kernel
theorem dX8_setLate_2 : decode cX8_setLate 2 = .ok (.iconst 0, 1) := by decide +kernel
theorem dX8_setLate_3 : decode cX8_setLate 3 = .ok (.istore_n 3, 1) := by decide +kernel
theorem dX8_setLate_4 : decode cX8_setLate 4 = .ok (.iload_n 3, 1) := by decide +kernel
theorem dX8_setLate_5 : decode cX8_setLate 5 = .ok (.aload_n 0, 1) := by decide +kernel
theorem dX8_setLate_6 : decode cX8_setLate 6 = .ok (.getfield 118, 3) := by decide +kernel
theorem dX8_setLate_9 : decode cX8_setLate 9 = .ok (.if_icmp .ge 38, 3) := by decide +kernel
theorem dX8_setLate_12 : decode cX8_setLate 12 = .ok (.iload_n 1, 1) := by decide +kernel
theorem dX8_setLate_13 : decode cX8_setLate 13 = .ok (.iload_n 3, 1) := by decide +kernel
theorem dX8_setLate_14 : decode cX8_setLate 14 = .ok (.invokestatic 124, 3) := by decide +kernel
theorem dX8_setLate_17 : decode cX8_setLate 17 = .ok (.ifCond .eq 22, 3) := by decide +kernel
theorem dX8_setLate_20 : decode cX8_setLate 20 = .ok (.aload_n 0, 1) := by decide +kernel
theorem dX8_setLate_21 : decode cX8_setLate 21 = .ok (.getfield 38, 3) := by decide +kernel
theorem dX8_setLate_24 : decode cX8_setLate 24 = .ok (.iload_n 3, 1) := by decide +kernel
theorem dX8_setLate_25 : decode cX8_setLate 25 = .ok (.iaload, 1) := by decide +kernel
theorem dX8_setLate_26 : decode cX8_setLate 26 = .ok (.iload_n 2, 1) := by decide +kernel
theorem dX8_setLate_27 : decode cX8_setLate 27 = .ok (.if_icmp .le 12, 3) := by decide +kernel
theorem dX8_setLate_30 : decode cX8_setLate 30 = .ok (.aload_n 0, 1) := by decide +kernel
theorem dX8_setLate_31 : decode cX8_setLate 31 = .ok (.getfield 38, 3) := by decide +kernel
theorem dX8_setLate_34 : decode cX8_setLate 34 = .ok (.iload_n 3, 1) := by decide +kernel
theorem dX8_setLate_35 : decode cX8_setLate 35 = .ok (.iaload, 1) := by decide +kernel
theorem dX8_setLate_36 : decode cX8_setLate 36 = .ok (.goto 4, 3) := by decide +kernel
theorem dX8_setLate_39 : decode cX8_setLate 39 = .ok (.iload_n 2, 1) := by decide +kernel
theorem dX8_setLate_40 : decode cX8_setLate 40 = .ok (.istore_n 2, 1) := by decide +kernel
theorem dX8_setLate_41 : decode cX8_setLate 41 = .ok (.iinc 3 1, 3) := by decide +kernel
theorem dX8_setLate_44 : decode cX8_setLate 44 = .ok (.goto (-40), 3) := by decide +kernel
theorem dX8_setLate_47 : decode cX8_setLate 47 = .ok (.iload_n 2, 1) := by decide +kernel
theorem dX8_setLate_48 : decode cX8_setLate 48 = .ok (.ireturn, 1) := by decide +kernel
theorem dX8_setDone_0 : decode cX8_setDone 0 = .ok (.bipush 99, 2) := by decide +kernel
theorem dX8_setDone_2 : decode cX8_setDone 2 = .ok (.istore_n 2, 1) := by decide +kernel
theorem dX8_setDone_3 : decode cX8_setDone 3 = .ok (.iconst 0, 1) := by decide +kernel
theorem dX8_setDone_4 : decode cX8_setDone 4 = .ok (.istore_n 3, 1) := by decide +kernel
theorem dX8_setDone_5 : decode cX8_setDone 5 = .ok (.iload_n 3, 1) := by decide +kernel
theorem dX8_setDone_6 : decode cX8_setDone 6 = .ok (.aload_n 0, 1) := by decide +kernel
theorem dX8_setDone_7 : decode cX8_setDone 7 = .ok (.getfield 118, 3) := by decide +kernel
theorem dX8_setDone_10 : decode cX8_setDone 10 = .ok (.if_icmp .ge 36, 3) := by decide +kernel
theorem dX8_setDone_13 : decode cX8_setDone 13 = .ok (.iload_n 1, 1) := by decide +kernel
theorem dX8_setDone_14 : decode cX8_setDone 14 = .ok (.iload_n 3, 1) := by decide +kernel
theorem dX8_setDone_15 : decode cX8_setDone 15 = .ok (.invokestatic 124, 3) := by decide +kernel
theorem dX8_setDone_18 : decode cX8_setDone 18 = .ok (.ifCond .eq 20, 3) := by decide +kernel
theorem dX8_setDone_21 : decode cX8_setDone 21 = .ok (.aload_n 0, 1) := by decide +kernel
theorem dX8_setDone_22 : decode cX8_setDone 22 = .ok (.iload_n 3, 1) := by decide +kernel
theorem dX8_setDone_23 : decode cX8_setDone 23 = .ok (.invokevirtual 127, 3) := by decide +kernel
theorem dX8_setDone_26 : decode cX8_setDone 26 = .ok (.iload_n 2, 1) := by decide +kernel
theorem dX8_setDone_27 : decode cX8_setDone 27 = .ok (.if_icmp .ge 11, 3) := by decide +kernel
theorem dX8_setDone_30 : decode cX8_setDone 30 = .ok (.aload_n 0, 1) := by decide +kernel
theorem dX8_setDone_31 : decode cX8_setDone 31 = .ok (.iload_n 3, 1) := by decide +kernel
theorem dX8_setDone_32 : decode cX8_setDone 32 = .ok (.invokevirtual 127, 3) := by decide +kernel
theorem dX8_setDone_35 : decode cX8_setDone 35 = .ok (.goto 4, 3) := by decide +kernel
theorem dX8_setDone_38 : decode cX8_setDone 38 = .ok (.iload_n 2, 1) := by decide +kernel
theorem dX8_setDone_39 : decode cX8_setDone 39 = .ok (.istore_n 2, 1) := by decide +kernel
theorem dX8_setDone_40 : decode cX8_setDone 40 = .ok (.iinc 3 1, 3) := by decide +kernel
theorem dX8_setDone_43 : decode cX8_setDone 43 = .ok (.goto (-38), 3) := by decide +kernel
theorem dX8_setDone_46 : decode cX8_setDone 46 = .ok (.iload_n 2, 1) := by decide +kernel
theorem dX8_setDone_47 : decode cX8_setDone 47 = .ok (.ireturn, 1) := by decide +kernel
theorem dX8_energy_0 : decode cX8_energy 0 = .ok (.iconst 0, 1) := by decide +kernel
theorem dX8_energy_1 : decode cX8_energy 1 = .ok (.istore_n 2, 1) := by decide +kernel
theorem dX8_energy_2 : decode cX8_energy 2 = .ok (.iconst 0, 1) := by decide +kernel
theorem dX8_energy_3 : decode cX8_energy 3 = .ok (.istore_n 3, 1) := by decide +kernel
theorem dX8_energy_4 : decode cX8_energy 4 = .ok (.iload_n 3, 1) := by decide +kernel
theorem dX8_energy_5 : decode cX8_energy 5 = .ok (.aload_n 0, 1) := by decide +kernel
theorem dX8_energy_6 : decode cX8_energy 6 = .ok (.getfield 118, 3) := by decide +kernel
theorem dX8_energy_9 : decode cX8_energy 9 = .ok (.if_icmp .ge 37, 3) := by decide +kernel
theorem dX8_energy_12 : decode cX8_energy 12 = .ok (.iload_n 2, 1) := by decide +kernel
theorem dX8_energy_13 : decode cX8_energy 13 = .ok (.iload_n 1, 1) := by decide +kernel
theorem dX8_energy_14 : decode cX8_energy 14 = .ok (.iload_n 3, 1) := by decide +kernel
theorem dX8_energy_15 : decode cX8_energy 15 = .ok (.invokestatic 124, 3) := by decide +kernel
theorem dX8_energy_18 : decode cX8_energy 18 = .ok (.ifCond .eq 19, 3) := by decide +kernel
theorem dX8_energy_21 : decode cX8_energy 21 = .ok (.aload_n 0, 1) := by decide +kernel
theorem dX8_energy_22 : decode cX8_energy 22 = .ok (.getfield 7, 3) := by decide +kernel
theorem dX8_energy_25 : decode cX8_energy 25 = .ok (.iload_n 3, 1) := by decide +kernel
theorem dX8_energy_26 : decode cX8_energy 26 = .ok (.iaload, 1) := by decide +kernel
theorem dX8_energy_27 : decode cX8_energy 27 = .ok (.aload_n 0, 1) := by decide +kernel
theorem dX8_energy_28 : decode cX8_energy 28 = .ok (.getfield 13, 3) := by decide +kernel
theorem dX8_energy_31 : decode cX8_energy 31 = .ok (.iload_n 3, 1) := by decide +kernel
theorem dX8_energy_32 : decode cX8_energy 32 = .ok (.iaload, 1) := by decide +kernel
theorem dX8_energy_33 : decode cX8_energy 33 = .ok (.imul, 1) := by decide +kernel
theorem dX8_energy_34 : decode cX8_energy 34 = .ok (.goto 4, 3) := by decide +kernel
theorem dX8_energy_37 : decode cX8_energy 37 = .ok (.iconst 0, 1) := by decide +kernel
theorem dX8_energy_38 : decode cX8_energy 38 = .ok (.iadd, 1) := by decide +kernel
theorem dX8_energy_39 : decode cX8_energy 39 = .ok (.istore_n 2, 1) := by decide +kernel
theorem dX8_energy_40 : decode cX8_energy 40 = .ok (.iinc 3 1, 3) := by decide +kernel
theorem dX8_energy_43 : decode cX8_energy 43 = .ok (.goto (-39), 3) := by decide +kernel
theorem dX8_energy_46 : decode cX8_energy 46 = .ok (.iload_n 2, 1) := by decide +kernel
theorem dX8_energy_47 : decode cX8_energy 47 = .ok (.ireturn, 1) := by decide +kernel
theorem dX8_tells_0 : decode cX8_tells 0 = .ok (.iload_n 2, 1) := by decide +kernel
theorem dX8_tells_1 : decode cX8_tells 1 = .ok (.aload_n 0, 1) := by decide +kernel
theorem dX8_tells_2 : decode cX8_tells 2 = .ok (.getfield 41, 3) := by decide +kernel
theorem dX8_tells_5 : decode cX8_tells 5 = .ok (.iload_n 1, 1) := by decide +kernel
theorem dX8_tells_6 : decode cX8_tells 6 = .ok (.iaload, 1) := by decide +kernel
theorem dX8_tells_7 : decode cX8_tells 7 = .ok (.if_icmp .le 17, 3) := by decide +kernel
theorem dX8_tells_10 : decode cX8_tells 10 = .ok (.aload_n 0, 1) := by decide +kernel
theorem dX8_tells_11 : decode cX8_tells 11 = .ok (.getfield 41, 3) := by decide +kernel
theorem dX8_tells_14 : decode cX8_tells 14 = .ok (.iload_n 1, 1) := by decide +kernel
theorem dX8_tells_15 : decode cX8_tells 15 = .ok (.iload_n 2, 1) := by decide +kernel
theorem dX8_tells_16 : decode cX8_tells 16 = .ok (.iastore, 1) := by decide +kernel
theorem dX8_tells_17 : decode cX8_tells 17 = .ok (.aload_n 0, 1) := by decide +kernel
theorem dX8_tells_18 : decode cX8_tells 18 = .ok (.getfield 44, 3) := by decide +kernel
theorem dX8_tells_21 : decode cX8_tells 21 = .ok (.iload_n 1, 1) := by decide +kernel
theorem dX8_tells_22 : decode cX8_tells 22 = .ok (.iload_n 3, 1) := by decide +kernel
theorem dX8_tells_23 : decode cX8_tells 23 = .ok (.iastore, 1) := by decide +kernel
theorem dX8_tells_24 : decode cX8_tells 24 = .ok (.return_, 1) := by decide +kernel
theorem dX8_isShut_0 : decode cX8_isShut 0 = .ok (.aload_n 0, 1) := by decide +kernel
theorem dX8_isShut_1 : decode cX8_isShut 1 = .ok (.getfield 13, 3) := by decide +kernel
theorem dX8_isShut_4 : decode cX8_isShut 4 = .ok (.iload_n 1, 1) := by decide +kernel
theorem dX8_isShut_5 : decode cX8_isShut 5 = .ok (.iaload, 1) := by decide +kernel
theorem dX8_isShut_6 : decode cX8_isShut 6 = .ok (.istore_n 3, 1) := by decide +kernel
theorem dX8_isShut_7 : decode cX8_isShut 7 = .ok (.iconst 0, 1) := by decide +kernel
theorem dX8_isShut_8 : decode cX8_isShut 8 = .ok (.istore 4, 2) := by decide +kernel
theorem dX8_isShut_10 : decode cX8_isShut 10 = .ok (.iload 4, 2) := by decide +kernel
theorem dX8_isShut_12 : decode cX8_isShut 12 = .ok (.aload_n 0, 1) := by decide +kernel
theorem dX8_isShut_13 : decode cX8_isShut 13 = .ok (.getfield 118, 3) := by decide +kernel
theorem dX8_isShut_16 : decode cX8_isShut 16 = .ok (.if_icmp .ge 49, 3) := by decide +kernel
theorem dX8_isShut_19 : decode cX8_isShut 19 = .ok (.iload_n 3, 1) := by decide +kernel
theorem dX8_isShut_20 : decode cX8_isShut 20 = .ok (.iload 4, 2) := by decide +kernel
theorem dX8_isShut_22 : decode cX8_isShut 22 = .ok (.iload_n 1, 1) := by decide +kernel
theorem dX8_isShut_23 : decode cX8_isShut 23 = .ok (.if_icmp .eq 33, 3) := by decide +kernel
theorem dX8_isShut_26 : decode cX8_isShut 26 = .ok (.aload_n 0, 1) := by decide +kernel
theorem dX8_isShut_27 : decode cX8_isShut 27 = .ok (.iload 4, 2) := by decide +kernel
theorem dX8_isShut_29 : decode cX8_isShut 29 = .ok (.invokevirtual 131, 3) := by decide +kernel
theorem dX8_isShut_32 : decode cX8_isShut 32 = .ok (.iload_n 2, 1) := by decide +kernel
theorem dX8_isShut_33 : decode cX8_isShut 33 = .ok (.if_icmp .gt 23, 3) := by decide +kernel
theorem dX8_isShut_36 : decode cX8_isShut 36 = .ok (.iload_n 2, 1) := by decide +kernel
theorem dX8_isShut_37 : decode cX8_isShut 37 = .ok (.aload_n 0, 1) := by decide +kernel
theorem dX8_isShut_38 : decode cX8_isShut 38 = .ok (.iload 4, 2) := by decide +kernel
theorem dX8_isShut_40 : decode cX8_isShut 40 = .ok (.invokevirtual 127, 3) := by decide +kernel
theorem dX8_isShut_43 : decode cX8_isShut 43 = .ok (.if_icmp .ge 13, 3) := by decide +kernel
theorem dX8_isShut_46 : decode cX8_isShut 46 = .ok (.aload_n 0, 1) := by decide +kernel
theorem dX8_isShut_47 : decode cX8_isShut 47 = .ok (.getfield 13, 3) := by decide +kernel
theorem dX8_isShut_50 : decode cX8_isShut 50 = .ok (.iload 4, 2) := by decide +kernel
theorem dX8_isShut_52 : decode cX8_isShut 52 = .ok (.iaload, 1) := by decide +kernel
theorem dX8_isShut_53 : decode cX8_isShut 53 = .ok (.goto 4, 3) := by decide +kernel
theorem dX8_isShut_56 : decode cX8_isShut 56 = .ok (.iconst 0, 1) := by decide +kernel
theorem dX8_isShut_57 : decode cX8_isShut 57 = .ok (.iadd, 1) := by decide +kernel
theorem dX8_isShut_58 : decode cX8_isShut 58 = .ok (.istore_n 3, 1) := by decide +kernel
theorem dX8_isShut_59 : decode cX8_isShut 59 = .ok (.iinc 4 1, 3) := by decide +kernel
theorem dX8_isShut_62 : decode cX8_isShut 62 = .ok (.goto (-52), 3) := by decide +kernel
theorem dX8_isShut_65 : decode cX8_isShut 65 = .ok (.iload_n 3, 1) := by decide +kernel
theorem dX8_isShut_66 : decode cX8_isShut 66 = .ok (.aload_n 0, 1) := by decide +kernel
theorem dX8_isShut_67 : decode cX8_isShut 67 = .ok (.getfield 59, 3) := by decide +kernel
theorem dX8_isShut_70 : decode cX8_isShut 70 = .ok (.if_icmp .le 7, 3) := by decide +kernel
theorem dX8_isShut_73 : decode cX8_isShut 73 = .ok (.iconst 1, 1) := by decide +kernel
theorem dX8_isShut_74 : decode cX8_isShut 74 = .ok (.goto 4, 3) := by decide +kernel
theorem dX8_isShut_77 : decode cX8_isShut 77 = .ok (.iconst 0, 1) := by decide +kernel
theorem dX8_isShut_78 : decode cX8_isShut 78 = .ok (.ireturn, 1) := by decide +kernel
theorem dX8_musts_0 : decode cX8_musts 0 = .ok (.aload_n 0, 1) := by decide +kernel
theorem dX8_musts_1 : decode cX8_musts 1 = .ok (.getfield 35, 3) := by decide +kernel
theorem dX8_musts_4 : decode cX8_musts 4 = .ok (.iload_n 1, 1) := by decide +kernel
theorem dX8_musts_5 : decode cX8_musts 5 = .ok (.iaload, 1) := by decide +kernel
theorem dX8_musts_6 : decode cX8_musts 6 = .ok (.istore_n 2, 1) := by decide +kernel
theorem dX8_musts_7 : decode cX8_musts 7 = .ok (.iload_n 2, 1) := by decide +kernel
theorem dX8_musts_8 : decode cX8_musts 8 = .ok (.aload_n 0, 1) := by decide +kernel
theorem dX8_musts_9 : decode cX8_musts 9 = .ok (.getfield 7, 3) := by decide +kernel
theorem dX8_musts_12 : decode cX8_musts 12 = .ok (.iload_n 1, 1) := by decide +kernel
theorem dX8_musts_13 : decode cX8_musts 13 = .ok (.iaload, 1) := by decide +kernel
theorem dX8_musts_14 : decode cX8_musts 14 = .ok (.iadd, 1) := by decide +kernel
theorem dX8_musts_15 : decode cX8_musts 15 = .ok (.aload_n 0, 1) := by decide +kernel
theorem dX8_musts_16 : decode cX8_musts 16 = .ok (.getfield 38, 3) := by decide +kernel
theorem dX8_musts_19 : decode cX8_musts 19 = .ok (.iload_n 1, 1) := by decide +kernel
theorem dX8_musts_20 : decode cX8_musts 20 = .ok (.iaload, 1) := by decide +kernel
theorem dX8_musts_21 : decode cX8_musts 21 = .ok (.if_icmp .gt 65, 3) := by decide +kernel
theorem dX8_musts_24 : decode cX8_musts 24 = .ok (.iconst 1, 1) := by decide +kernel
theorem dX8_musts_25 : decode cX8_musts 25 = .ok (.istore_n 3, 1) := by decide +kernel
theorem dX8_musts_26 : decode cX8_musts 26 = .ok (.iload_n 2, 1) := by decide +kernel
theorem dX8_musts_27 : decode cX8_musts 27 = .ok (.istore 4, 2) := by decide +kernel
theorem dX8_musts_29 : decode cX8_musts 29 = .ok (.iload 4, 2) := by decide +kernel
theorem dX8_musts_31 : decode cX8_musts 31 = .ok (.iload_n 2, 1) := by decide +kernel
theorem dX8_musts_32 : decode cX8_musts 32 = .ok (.aload_n 0, 1) := by decide +kernel
theorem dX8_musts_33 : decode cX8_musts 33 = .ok (.getfield 7, 3) := by decide +kernel
theorem dX8_musts_36 : decode cX8_musts 36 = .ok (.iload_n 1, 1) := by decide +kernel
theorem dX8_musts_37 : decode cX8_musts 37 = .ok (.iaload, 1) := by decide +kernel
theorem dX8_musts_38 : decode cX8_musts 38 = .ok (.iadd, 1) := by decide +kernel
theorem dX8_musts_39 : decode cX8_musts 39 = .ok (.if_icmp .ge 29, 3) := by decide +kernel
theorem dX8_musts_42 : decode cX8_musts 42 = .ok (.iload_n 3, 1) := by decide +kernel
theorem dX8_musts_43 : decode cX8_musts 43 = .ok (.ifCond .eq 17, 3) := by decide +kernel
theorem dX8_musts_46 : decode cX8_musts 46 = .ok (.aload_n 0, 1) := by decide +kernel
theorem dX8_musts_47 : decode cX8_musts 47 = .ok (.iload_n 1, 1) := by decide +kernel
theorem dX8_musts_48 : decode cX8_musts 48 = .ok (.iload 4, 2) := by decide +kernel
theorem dX8_musts_50 : decode cX8_musts 50 = .ok (.invokevirtual 134, 3) := by decide +kernel
theorem dX8_musts_53 : decode cX8_musts 53 = .ok (.ifCond .ne 7, 3) := by decide +kernel
theorem dX8_musts_56 : decode cX8_musts 56 = .ok (.iconst 1, 1) := by decide +kernel
theorem dX8_musts_57 : decode cX8_musts 57 = .ok (.goto 4, 3) := by decide +kernel
theorem dX8_musts_60 : decode cX8_musts 60 = .ok (.iconst 0, 1) := by decide +kernel
theorem dX8_musts_61 : decode cX8_musts 61 = .ok (.istore_n 3, 1) := by decide +kernel
theorem dX8_musts_62 : decode cX8_musts 62 = .ok (.iinc 4 1, 3) := by decide +kernel
theorem dX8_musts_65 : decode cX8_musts 65 = .ok (.goto (-36), 3) := by decide +kernel
theorem dX8_musts_68 : decode cX8_musts 68 = .ok (.iload_n 3, 1) := by decide +kernel
theorem dX8_musts_69 : decode cX8_musts 69 = .ok (.ifCond .eq 11, 3) := by decide +kernel
theorem dX8_musts_72 : decode cX8_musts 72 = .ok (.aload_n 0, 1) := by decide +kernel
theorem dX8_musts_73 : decode cX8_musts 73 = .ok (.iload_n 1, 1) := by decide +kernel
theorem dX8_musts_74 : decode cX8_musts 74 = .ok (.iload_n 2, 1) := by decide +kernel
theorem dX8_musts_75 : decode cX8_musts 75 = .ok (.iconst 0, 1) := by decide +kernel
theorem dX8_musts_76 : decode cX8_musts 76 = .ok (.invokevirtual 137, 3) := by decide +kernel
theorem dX8_musts_79 : decode cX8_musts 79 = .ok (.return_, 1) := by decide +kernel
theorem dX8_musts_80 : decode cX8_musts 80 = .ok (.iinc 2 1, 3) := by decide +kernel
theorem dX8_musts_83 : decode cX8_musts 83 = .ok (.goto (-76), 3) := by decide +kernel
theorem dX8_musts_86 : decode cX8_musts 86 = .ok (.aload_n 0, 1) := by decide +kernel
theorem dX8_musts_87 : decode cX8_musts 87 = .ok (.iload_n 1, 1) := by decide +kernel
theorem dX8_musts_88 : decode cX8_musts 88 = .ok (.bipush 99, 2) := by decide +kernel
theorem dX8_musts_90 : decode cX8_musts 90 = .ok (.iconst 0, 1) := by decide +kernel
theorem dX8_musts_91 : decode cX8_musts 91 = .ok (.invokevirtual 137, 3) := by decide +kernel
theorem dX8_musts_94 : decode cX8_musts 94 = .ok (.return_, 1) := by decide +kernel
theorem dX8_edges_0 : decode cX8_edges 0 = .ok (.iconst 1, 1) := by decide +kernel
theorem dX8_edges_1 : decode cX8_edges 1 = .ok (.iload_n 1, 1) := by decide +kernel
theorem dX8_edges_2 : decode cX8_edges 2 = .ok (.ishl, 1) := by decide +kernel
theorem dX8_edges_3 : decode cX8_edges 3 = .ok (.istore_n 2, 1) := by decide +kernel
theorem dX8_edges_4 : decode cX8_edges 4 = .ok (.iconst 1, 1) := by decide +kernel
theorem dX8_edges_5 : decode cX8_edges 5 = .ok (.istore_n 3, 1) := by decide +kernel
theorem dX8_edges_6 : decode cX8_edges 6 = .ok (.iload_n 3, 1) := by decide +kernel
theorem dX8_edges_7 : decode cX8_edges 7 = .ok (.aload_n 0, 1) := by decide +kernel
theorem dX8_edges_8 : decode cX8_edges 8 = .ok (.invokevirtual 141, 3) := by decide +kernel
theorem dX8_edges_11 : decode cX8_edges 11 = .ok (.if_icmp .gt 138, 3) := by decide +kernel
theorem dX8_edges_14 : decode cX8_edges 14 = .ok (.aload_n 0, 1) := by decide +kernel
theorem dX8_edges_15 : decode cX8_edges 15 = .ok (.iload_n 3, 1) := by decide +kernel
theorem dX8_edges_16 : decode cX8_edges 16 = .ok (.iload_n 2, 1) := by decide +kernel
theorem dX8_edges_17 : decode cX8_edges 17 = .ok (.ior, 1) := by decide +kernel
theorem dX8_edges_18 : decode cX8_edges 18 = .ok (.invokevirtual 145, 3) := by decide +kernel
theorem dX8_edges_21 : decode cX8_edges 21 = .ok (.istore 4, 2) := by decide +kernel
theorem dX8_edges_23 : decode cX8_edges 23 = .ok (.iload_n 3, 1) := by decide +kernel
theorem dX8_edges_24 : decode cX8_edges 24 = .ok (.iload_n 1, 1) := by decide +kernel
theorem dX8_edges_25 : decode cX8_edges 25 = .ok (.invokestatic 124, 3) := by decide +kernel
theorem dX8_edges_28 : decode cX8_edges 28 = .ok (.ifCond .ne 115, 3) := by decide +kernel
theorem dX8_edges_31 : decode cX8_edges 31 = .ok (.aload_n 0, 1) := by decide +kernel
theorem dX8_edges_32 : decode cX8_edges 32 = .ok (.iload_n 3, 1) := by decide +kernel
theorem dX8_edges_33 : decode cX8_edges 33 = .ok (.iload_n 2, 1) := by decide +kernel
theorem dX8_edges_34 : decode cX8_edges 34 = .ok (.ior, 1) := by decide +kernel
theorem dX8_edges_35 : decode cX8_edges 35 = .ok (.invokevirtual 148, 3) := by decide +kernel
theorem dX8_edges_38 : decode cX8_edges 38 = .ok (.aload_n 0, 1) := by decide +kernel
theorem dX8_edges_39 : decode cX8_edges 39 = .ok (.getfield 59, 3) := by decide +kernel
theorem dX8_edges_42 : decode cX8_edges 42 = .ok (.aload_n 0, 1) := by decide +kernel
theorem dX8_edges_43 : decode cX8_edges 43 = .ok (.iload_n 3, 1) := by decide +kernel
theorem dX8_edges_44 : decode cX8_edges 44 = .ok (.invokevirtual 151, 3) := by decide +kernel
theorem dX8_edges_47 : decode cX8_edges 47 = .ok (.iload 4, 2) := by decide +kernel
theorem dX8_edges_49 : decode cX8_edges 49 = .ok (.isub, 1) := by decide +kernel
theorem dX8_edges_50 : decode cX8_edges 50 = .ok (.imul, 1) := by decide +kernel
theorem dX8_edges_51 : decode cX8_edges 51 = .ok (.if_icmp .le 92, 3) := by decide +kernel
theorem dX8_edges_54 : decode cX8_edges 54 = .ok (.iload_n 3, 1) := by decide +kernel
theorem dX8_edges_55 : decode cX8_edges 55 = .ok (.istore 5, 2) := by decide +kernel
theorem dX8_edges_57 : decode cX8_edges 57 = .ok (.iload 5, 2) := by decide +kernel
theorem dX8_edges_59 : decode cX8_edges 59 = .ok (.ifCond .le 84, 3) := by decide +kernel
theorem dX8_edges_62 : decode cX8_edges 62 = .ok (.aload_n 0, 1) := by decide +kernel
theorem dX8_edges_63 : decode cX8_edges 63 = .ok (.iload 5, 2) := by decide +kernel
theorem dX8_edges_65 : decode cX8_edges 65 = .ok (.invokevirtual 148, 3) := by decide +kernel
theorem dX8_edges_68 : decode cX8_edges 68 = .ok (.aload_n 0, 1) := by decide +kernel
theorem dX8_edges_69 : decode cX8_edges 69 = .ok (.getfield 59, 3) := by decide +kernel
theorem dX8_edges_72 : decode cX8_edges 72 = .ok (.aload_n 0, 1) := by decide +kernel
theorem dX8_edges_73 : decode cX8_edges 73 = .ok (.getfield 13, 3) := by decide +kernel
theorem dX8_edges_76 : decode cX8_edges 76 = .ok (.iload_n 1, 1) := by decide +kernel
theorem dX8_edges_77 : decode cX8_edges 77 = .ok (.iaload, 1) := by decide +kernel
theorem dX8_edges_78 : decode cX8_edges 78 = .ok (.isub, 1) := by decide +kernel
theorem dX8_edges_79 : decode cX8_edges 79 = .ok (.aload_n 0, 1) := by decide +kernel
theorem dX8_edges_80 : decode cX8_edges 80 = .ok (.iload 5, 2) := by decide +kernel
theorem dX8_edges_82 : decode cX8_edges 82 = .ok (.invokevirtual 151, 3) := by decide +kernel
theorem dX8_edges_85 : decode cX8_edges 85 = .ok (.aload_n 0, 1) := by decide +kernel
theorem dX8_edges_86 : decode cX8_edges 86 = .ok (.iload 5, 2) := by decide +kernel
theorem dX8_edges_88 : decode cX8_edges 88 = .ok (.invokevirtual 145, 3) := by decide +kernel
theorem dX8_edges_91 : decode cX8_edges 91 = .ok (.isub, 1) := by decide +kernel
theorem dX8_edges_92 : decode cX8_edges 92 = .ok (.imul, 1) := by decide +kernel
theorem dX8_edges_93 : decode cX8_edges 93 = .ok (.isub, 1) := by decide +kernel
theorem dX8_edges_94 : decode cX8_edges 94 = .ok (.istore 6, 2) := by decide +kernel
theorem dX8_edges_96 : decode cX8_edges 96 = .ok (.iload 6, 2) := by decide +kernel
theorem dX8_edges_98 : decode cX8_edges 98 = .ok (.ifCond .le 34, 3) := by decide +kernel
theorem dX8_edges_101 : decode cX8_edges 101 = .ok (.aload_n 0, 1) := by decide +kernel
theorem dX8_edges_102 : decode cX8_edges 102 = .ok (.iload_n 1, 1) := by decide +kernel
theorem dX8_edges_103 : decode cX8_edges 103 = .ok (.aload_n 0, 1) := by decide +kernel
theorem dX8_edges_104 : decode cX8_edges 104 = .ok (.iload 5, 2) := by decide +kernel
theorem dX8_edges_106 : decode cX8_edges 106 = .ok (.invokevirtual 145, 3) := by decide +kernel
theorem dX8_edges_109 : decode cX8_edges 109 = .ok (.iload 6, 2) := by decide +kernel
theorem dX8_edges_111 : decode cX8_edges 111 = .ok (.aload_n 0, 1) := by decide +kernel
theorem dX8_edges_112 : decode cX8_edges 112 = .ok (.getfield 13, 3) := by decide +kernel
theorem dX8_edges_115 : decode cX8_edges 115 = .ok (.iload_n 1, 1) := by decide +kernel
theorem dX8_edges_116 : decode cX8_edges 116 = .ok (.iaload, 1) := by decide +kernel
theorem dX8_edges_117 : decode cX8_edges 117 = .ok (.iadd, 1) := by decide +kernel
theorem dX8_edges_118 : decode cX8_edges 118 = .ok (.iconst 1, 1) := by decide +kernel
theorem dX8_edges_119 : decode cX8_edges 119 = .ok (.isub, 1) := by decide +kernel
theorem dX8_edges_120 : decode cX8_edges 120 = .ok (.aload_n 0, 1) := by decide +kernel
theorem dX8_edges_121 : decode cX8_edges 121 = .ok (.getfield 13, 3) := by decide +kernel
theorem dX8_edges_124 : decode cX8_edges 124 = .ok (.iload_n 1, 1) := by decide +kernel
theorem dX8_edges_125 : decode cX8_edges 125 = .ok (.iaload, 1) := by decide +kernel
theorem dX8_edges_126 : decode cX8_edges 126 = .ok (.idiv, 1) := by decide +kernel
theorem dX8_edges_127 : decode cX8_edges 127 = .ok (.iadd, 1) := by decide +kernel
theorem dX8_edges_128 : decode cX8_edges 128 = .ok (.iload_n 3, 1) := by decide +kernel
theorem dX8_edges_129 : decode cX8_edges 129 = .ok (.invokevirtual 137, 3) := by decide +kernel
theorem dX8_edges_132 : decode cX8_edges 132 = .ok (.iload 5, 2) := by decide +kernel
theorem dX8_edges_134 : decode cX8_edges 134 = .ok (.iconst 1, 1) := by decide +kernel
theorem dX8_edges_135 : decode cX8_edges 135 = .ok (.isub, 1) := by decide +kernel
theorem dX8_edges_136 : decode cX8_edges 136 = .ok (.iload_n 3, 1) := by decide +kernel
theorem dX8_edges_137 : decode cX8_edges 137 = .ok (.iand, 1) := by decide +kernel
theorem dX8_edges_138 : decode cX8_edges 138 = .ok (.istore 5, 2) := by decide +kernel
theorem dX8_edges_140 : decode cX8_edges 140 = .ok (.goto (-83), 3) := by decide +kernel
theorem dX8_edges_143 : decode cX8_edges 143 = .ok (.iinc 3 1, 3) := by decide +kernel
theorem dX8_edges_146 : decode cX8_edges 146 = .ok (.goto (-140), 3) := by decide +kernel
theorem dX8_edges_149 : decode cX8_edges 149 = .ok (.return_, 1) := by decide +kernel
theorem dX8_firsts_0 : decode cX8_firsts 0 = .ok (.iconst 1, 1) := by decide +kernel
theorem dX8_firsts_1 : decode cX8_firsts 1 = .ok (.istore_n 2, 1) := by decide +kernel
theorem dX8_firsts_2 : decode cX8_firsts 2 = .ok (.iload_n 2, 1) := by decide +kernel
theorem dX8_firsts_3 : decode cX8_firsts 3 = .ok (.aload_n 0, 1) := by decide +kernel
theorem dX8_firsts_4 : decode cX8_firsts 4 = .ok (.invokevirtual 141, 3) := by decide +kernel
theorem dX8_firsts_7 : decode cX8_firsts 7 = .ok (.if_icmp .gt 122, 3) := by decide +kernel
theorem dX8_firsts_10 : decode cX8_firsts 10 = .ok (.iload_n 2, 1) := by decide +kernel
theorem dX8_firsts_11 : decode cX8_firsts 11 = .ok (.iload_n 1, 1) := by decide +kernel
theorem dX8_firsts_12 : decode cX8_firsts 12 = .ok (.invokestatic 124, 3) := by decide +kernel
theorem dX8_firsts_15 : decode cX8_firsts 15 = .ok (.ifCond .ne 108, 3) := by decide +kernel
theorem dX8_firsts_18 : decode cX8_firsts 18 = .ok (.aload_n 0, 1) := by decide +kernel
theorem dX8_firsts_19 : decode cX8_firsts 19 = .ok (.iload_n 2, 1) := by decide +kernel
theorem dX8_firsts_20 : decode cX8_firsts 20 = .ok (.invokevirtual 145, 3) := by decide +kernel
theorem dX8_firsts_23 : decode cX8_firsts 23 = .ok (.aload_n 0, 1) := by decide +kernel
theorem dX8_firsts_24 : decode cX8_firsts 24 = .ok (.getfield 35, 3) := by decide +kernel
theorem dX8_firsts_27 : decode cX8_firsts 27 = .ok (.iload_n 1, 1) := by decide +kernel
theorem dX8_firsts_28 : decode cX8_firsts 28 = .ok (.iaload, 1) := by decide +kernel
theorem dX8_firsts_29 : decode cX8_firsts 29 = .ok (.if_icmp .gt 94, 3) := by decide +kernel
theorem dX8_firsts_32 : decode cX8_firsts 32 = .ok (.aload_n 0, 1) := by decide +kernel
theorem dX8_firsts_33 : decode cX8_firsts 33 = .ok (.getfield 35, 3) := by decide +kernel
theorem dX8_firsts_36 : decode cX8_firsts 36 = .ok (.iload_n 1, 1) := by decide +kernel
theorem dX8_firsts_37 : decode cX8_firsts 37 = .ok (.iaload, 1) := by decide +kernel
theorem dX8_firsts_38 : decode cX8_firsts 38 = .ok (.aload_n 0, 1) := by decide +kernel
theorem dX8_firsts_39 : decode cX8_firsts 39 = .ok (.iload_n 2, 1) := by decide +kernel
theorem dX8_firsts_40 : decode cX8_firsts 40 = .ok (.invokevirtual 154, 3) := by decide +kernel
theorem dX8_firsts_43 : decode cX8_firsts 43 = .ok (.if_icmp .ge 80, 3) := by decide +kernel
theorem dX8_firsts_46 : decode cX8_firsts 46 = .ok (.aload_n 0, 1) := by decide +kernel
theorem dX8_firsts_47 : decode cX8_firsts 47 = .ok (.iload_n 1, 1) := by decide +kernel
theorem dX8_firsts_48 : decode cX8_firsts 48 = .ok (.invokevirtual 127, 3) := by decide +kernel
theorem dX8_firsts_51 : decode cX8_firsts 51 = .ok (.aload_n 0, 1) := by decide +kernel
theorem dX8_firsts_52 : decode cX8_firsts 52 = .ok (.iload_n 2, 1) := by decide +kernel
theorem dX8_firsts_53 : decode cX8_firsts 53 = .ok (.invokevirtual 151, 3) := by decide +kernel
theorem dX8_firsts_56 : decode cX8_firsts 56 = .ok (.if_icmp .ge 11, 3) := by decide +kernel
theorem dX8_firsts_59 : decode cX8_firsts 59 = .ok (.aload_n 0, 1) := by decide +kernel
theorem dX8_firsts_60 : decode cX8_firsts 60 = .ok (.iload_n 1, 1) := by decide +kernel
theorem dX8_firsts_61 : decode cX8_firsts 61 = .ok (.invokevirtual 127, 3) := by decide +kernel
theorem dX8_firsts_64 : decode cX8_firsts 64 = .ok (.goto 8, 3) := by decide +kernel
theorem dX8_firsts_67 : decode cX8_firsts 67 = .ok (.aload_n 0, 1) := by decide +kernel
theorem dX8_firsts_68 : decode cX8_firsts 68 = .ok (.iload_n 2, 1) := by decide +kernel
theorem dX8_firsts_69 : decode cX8_firsts 69 = .ok (.invokevirtual 151, 3) := by decide +kernel
theorem dX8_firsts_72 : decode cX8_firsts 72 = .ok (.istore_n 3, 1) := by decide +kernel
theorem dX8_firsts_73 : decode cX8_firsts 73 = .ok (.aload_n 0, 1) := by decide +kernel
theorem dX8_firsts_74 : decode cX8_firsts 74 = .ok (.iload_n 2, 1) := by decide +kernel
theorem dX8_firsts_75 : decode cX8_firsts 75 = .ok (.invokevirtual 148, 3) := by decide +kernel
theorem dX8_firsts_78 : decode cX8_firsts 78 = .ok (.aload_n 0, 1) := by decide +kernel
theorem dX8_firsts_79 : decode cX8_firsts 79 = .ok (.getfield 13, 3) := by decide +kernel
theorem dX8_firsts_82 : decode cX8_firsts 82 = .ok (.iload_n 1, 1) := by decide +kernel
theorem dX8_firsts_83 : decode cX8_firsts 83 = .ok (.iaload, 1) := by decide +kernel
theorem dX8_firsts_84 : decode cX8_firsts 84 = .ok (.iload_n 3, 1) := by decide +kernel
theorem dX8_firsts_85 : decode cX8_firsts 85 = .ok (.aload_n 0, 1) := by decide +kernel
theorem dX8_firsts_86 : decode cX8_firsts 86 = .ok (.iload_n 2, 1) := by decide +kernel
theorem dX8_firsts_87 : decode cX8_firsts 87 = .ok (.invokevirtual 145, 3) := by decide +kernel
theorem dX8_firsts_90 : decode cX8_firsts 90 = .ok (.isub, 1) := by decide +kernel
theorem dX8_firsts_91 : decode cX8_firsts 91 = .ok (.imul, 1) := by decide +kernel
theorem dX8_firsts_92 : decode cX8_firsts 92 = .ok (.iadd, 1) := by decide +kernel
theorem dX8_firsts_93 : decode cX8_firsts 93 = .ok (.aload_n 0, 1) := by decide +kernel
theorem dX8_firsts_94 : decode cX8_firsts 94 = .ok (.getfield 59, 3) := by decide +kernel
theorem dX8_firsts_97 : decode cX8_firsts 97 = .ok (.aload_n 0, 1) := by decide +kernel
theorem dX8_firsts_98 : decode cX8_firsts 98 = .ok (.iload_n 2, 1) := by decide +kernel
theorem dX8_firsts_99 : decode cX8_firsts 99 = .ok (.invokevirtual 151, 3) := by decide +kernel
theorem dX8_firsts_102 : decode cX8_firsts 102 = .ok (.aload_n 0, 1) := by decide +kernel
theorem dX8_firsts_103 : decode cX8_firsts 103 = .ok (.iload_n 2, 1) := by decide +kernel
theorem dX8_firsts_104 : decode cX8_firsts 104 = .ok (.invokevirtual 145, 3) := by decide +kernel
theorem dX8_firsts_107 : decode cX8_firsts 107 = .ok (.isub, 1) := by decide +kernel
theorem dX8_firsts_108 : decode cX8_firsts 108 = .ok (.imul, 1) := by decide +kernel
theorem dX8_firsts_109 : decode cX8_firsts 109 = .ok (.if_icmp .le 14, 3) := by decide +kernel
theorem dX8_firsts_112 : decode cX8_firsts 112 = .ok (.aload_n 0, 1) := by decide +kernel
theorem dX8_firsts_113 : decode cX8_firsts 113 = .ok (.iload_n 1, 1) := by decide +kernel
theorem dX8_firsts_114 : decode cX8_firsts 114 = .ok (.aload_n 0, 1) := by decide +kernel
theorem dX8_firsts_115 : decode cX8_firsts 115 = .ok (.iload_n 2, 1) := by decide +kernel
theorem dX8_firsts_116 : decode cX8_firsts 116 = .ok (.invokevirtual 154, 3) := by decide +kernel
theorem dX8_firsts_119 : decode cX8_firsts 119 = .ok (.iload_n 2, 1) := by decide +kernel
theorem dX8_firsts_120 : decode cX8_firsts 120 = .ok (.invokevirtual 137, 3) := by decide +kernel
theorem dX8_firsts_123 : decode cX8_firsts 123 = .ok (.iinc 2 1, 3) := by decide +kernel
theorem dX8_firsts_126 : decode cX8_firsts 126 = .ok (.goto (-124), 3) := by decide +kernel
theorem dX8_firsts_129 : decode cX8_firsts 129 = .ok (.return_, 1) := by decide +kernel
theorem dX8_lesser_0 : decode cX8_lesser 0 = .ok (.iload_n 0, 1) := by decide +kernel
theorem dX8_lesser_1 : decode cX8_lesser 1 = .ok (.iload_n 1, 1) := by decide +kernel
theorem dX8_lesser_2 : decode cX8_lesser 2 = .ok (.if_icmp .ge 7, 3) := by decide +kernel
theorem dX8_lesser_5 : decode cX8_lesser 5 = .ok (.iload_n 0, 1) := by decide +kernel
theorem dX8_lesser_6 : decode cX8_lesser 6 = .ok (.goto 4, 3) := by decide +kernel
theorem dX8_lesser_9 : decode cX8_lesser 9 = .ok (.iload_n 1, 1) := by decide +kernel
theorem dX8_lesser_10 : decode cX8_lesser 10 = .ok (.ireturn, 1) := by decide +kernel
theorem dX8_leastOf_0 : decode cX8_leastOf 0 = .ok (.aload_n 0, 1) := by decide +kernel
theorem dX8_leastOf_1 : decode cX8_leastOf 1 = .ok (.getfield 7, 3) := by decide +kernel
theorem dX8_leastOf_4 : decode cX8_leastOf 4 = .ok (.iload_n 1, 1) := by decide +kernel
theorem dX8_leastOf_5 : decode cX8_leastOf 5 = .ok (.iaload, 1) := by decide +kernel
theorem dX8_leastOf_6 : decode cX8_leastOf 6 = .ok (.iload_n 3, 1) := by decide +kernel
theorem dX8_leastOf_7 : decode cX8_leastOf 7 = .ok (.iload_n 2, 1) := by decide +kernel
theorem dX8_leastOf_8 : decode cX8_leastOf 8 = .ok (.isub, 1) := by decide +kernel
theorem dX8_leastOf_9 : decode cX8_leastOf 9 = .ok (.invokestatic 157, 3) := by decide +kernel
theorem dX8_leastOf_12 : decode cX8_leastOf 12 = .ok (.aload_n 0, 1) := by decide +kernel
theorem dX8_leastOf_13 : decode cX8_leastOf 13 = .ok (.iload_n 1, 1) := by decide +kernel
theorem dX8_leastOf_14 : decode cX8_leastOf 14 = .ok (.invokevirtual 127, 3) := by decide +kernel
theorem dX8_leastOf_17 : decode cX8_leastOf 17 = .ok (.iload_n 2, 1) := by decide +kernel
theorem dX8_leastOf_18 : decode cX8_leastOf 18 = .ok (.isub, 1) := by decide +kernel
theorem dX8_leastOf_19 : decode cX8_leastOf 19 = .ok (.iload_n 3, 1) := by decide +kernel
theorem dX8_leastOf_20 : decode cX8_leastOf 20 = .ok (.aload_n 0, 1) := by decide +kernel
theorem dX8_leastOf_21 : decode cX8_leastOf 21 = .ok (.iload_n 1, 1) := by decide +kernel
theorem dX8_leastOf_22 : decode cX8_leastOf 22 = .ok (.invokevirtual 131, 3) := by decide +kernel
theorem dX8_leastOf_25 : decode cX8_leastOf 25 = .ok (.isub, 1) := by decide +kernel
theorem dX8_leastOf_26 : decode cX8_leastOf 26 = .ok (.invokestatic 157, 3) := by decide +kernel
theorem dX8_leastOf_29 : decode cX8_leastOf 29 = .ok (.invokestatic 157, 3) := by decide +kernel
theorem dX8_leastOf_32 : decode cX8_leastOf 32 = .ok (.istore 4, 2) := by decide +kernel
theorem dX8_leastOf_34 : decode cX8_leastOf 34 = .ok (.iload 4, 2) := by decide +kernel
theorem dX8_leastOf_36 : decode cX8_leastOf 36 = .ok (.ifCond .ge 7, 3) := by decide +kernel
theorem dX8_leastOf_39 : decode cX8_leastOf 39 = .ok (.iconst 0, 1) := by decide +kernel
theorem dX8_leastOf_40 : decode cX8_leastOf 40 = .ok (.goto 12, 3) := by decide +kernel
theorem dX8_leastOf_43 : decode cX8_leastOf 43 = .ok (.iload 4, 2) := by decide +kernel
theorem dX8_leastOf_45 : decode cX8_leastOf 45 = .ok (.aload_n 0, 1) := by decide +kernel
theorem dX8_leastOf_46 : decode cX8_leastOf 46 = .ok (.getfield 13, 3) := by decide +kernel
theorem dX8_leastOf_49 : decode cX8_leastOf 49 = .ok (.iload_n 1, 1) := by decide +kernel
theorem dX8_leastOf_50 : decode cX8_leastOf 50 = .ok (.iaload, 1) := by decide +kernel
theorem dX8_leastOf_51 : decode cX8_leastOf 51 = .ok (.imul, 1) := by decide +kernel
theorem dX8_leastOf_52 : decode cX8_leastOf 52 = .ok (.ireturn, 1) := by decide +kernel
theorem dX8_spans_0 : decode cX8_spans 0 = .ok (.iconst 0, 1) := by decide +kernel
theorem dX8_spans_1 : decode cX8_spans 1 = .ok (.istore_n 2, 1) := by decide +kernel
theorem dX8_spans_2 : decode cX8_spans 2 = .ok (.iload_n 2, 1) := by decide +kernel
theorem dX8_spans_3 : decode cX8_spans 3 = .ok (.bipush 16, 2) := by decide +kernel
theorem dX8_spans_5 : decode cX8_spans 5 = .ok (.if_icmp .ge 154, 3) := by decide +kernel
theorem dX8_spans_8 : decode cX8_spans 8 = .ok (.iload_n 2, 1) := by decide +kernel
theorem dX8_spans_9 : decode cX8_spans 9 = .ok (.iconst 1, 1) := by decide +kernel
theorem dX8_spans_10 : decode cX8_spans 10 = .ok (.iadd, 1) := by decide +kernel
theorem dX8_spans_11 : decode cX8_spans 11 = .ok (.istore_n 3, 1) := by decide +kernel
theorem dX8_spans_12 : decode cX8_spans 12 = .ok (.iload_n 3, 1) := by decide +kernel
theorem dX8_spans_13 : decode cX8_spans 13 = .ok (.bipush 16, 2) := by decide +kernel
theorem dX8_spans_15 : decode cX8_spans 15 = .ok (.if_icmp .gt 138, 3) := by decide +kernel
theorem dX8_spans_18 : decode cX8_spans 18 = .ok (.aload_n 0, 1) := by decide +kernel
theorem dX8_spans_19 : decode cX8_spans 19 = .ok (.getfield 59, 3) := by decide +kernel
theorem dX8_spans_22 : decode cX8_spans 22 = .ok (.iload_n 3, 1) := by decide +kernel
theorem dX8_spans_23 : decode cX8_spans 23 = .ok (.iload_n 2, 1) := by decide +kernel
theorem dX8_spans_24 : decode cX8_spans 24 = .ok (.isub, 1) := by decide +kernel
theorem dX8_spans_25 : decode cX8_spans 25 = .ok (.imul, 1) := by decide +kernel
theorem dX8_spans_26 : decode cX8_spans 26 = .ok (.istore 4, 2) := by decide +kernel
theorem dX8_spans_28 : decode cX8_spans 28 = .ok (.iconst 0, 1) := by decide +kernel
theorem dX8_spans_29 : decode cX8_spans 29 = .ok (.istore 5, 2) := by decide +kernel
theorem dX8_spans_31 : decode cX8_spans 31 = .ok (.iload 5, 2) := by decide +kernel
theorem dX8_spans_33 : decode cX8_spans 33 = .ok (.aload_n 0, 1) := by decide +kernel
theorem dX8_spans_34 : decode cX8_spans 34 = .ok (.getfield 118, 3) := by decide +kernel
theorem dX8_spans_37 : decode cX8_spans 37 = .ok (.if_icmp .ge 32, 3) := by decide +kernel
theorem dX8_spans_40 : decode cX8_spans 40 = .ok (.iload 4, 2) := by decide +kernel
theorem dX8_spans_42 : decode cX8_spans 42 = .ok (.iload 5, 2) := by decide +kernel
theorem dX8_spans_44 : decode cX8_spans 44 = .ok (.iload_n 1, 1) := by decide +kernel
theorem dX8_spans_45 : decode cX8_spans 45 = .ok (.if_icmp .ne 7, 3) := by decide +kernel
theorem dX8_spans_48 : decode cX8_spans 48 = .ok (.iconst 0, 1) := by decide +kernel
theorem dX8_spans_49 : decode cX8_spans 49 = .ok (.goto 11, 3) := by decide +kernel
theorem dX8_spans_52 : decode cX8_spans 52 = .ok (.aload_n 0, 1) := by decide +kernel
theorem dX8_spans_53 : decode cX8_spans 53 = .ok (.iload 5, 2) := by decide +kernel
theorem dX8_spans_55 : decode cX8_spans 55 = .ok (.iload_n 2, 1) := by decide +kernel
theorem dX8_spans_56 : decode cX8_spans 56 = .ok (.iload_n 3, 1) := by decide +kernel
theorem dX8_spans_57 : decode cX8_spans 57 = .ok (.invokevirtual 161, 3) := by decide +kernel
theorem dX8_spans_60 : decode cX8_spans 60 = .ok (.isub, 1) := by decide +kernel
theorem dX8_spans_61 : decode cX8_spans 61 = .ok (.istore 4, 2) := by decide +kernel
theorem dX8_spans_63 : decode cX8_spans 63 = .ok (.iinc 5 1, 3) := by decide +kernel
theorem dX8_spans_66 : decode cX8_spans 66 = .ok (.goto (-35), 3) := by decide +kernel
theorem dX8_spans_69 : decode cX8_spans 69 = .ok (.aload_n 0, 1) := by decide +kernel
theorem dX8_spans_70 : decode cX8_spans 70 = .ok (.iload_n 1, 1) := by decide +kernel
theorem dX8_spans_71 : decode cX8_spans 71 = .ok (.invokevirtual 127, 3) := by decide +kernel
theorem dX8_spans_74 : decode cX8_spans 74 = .ok (.iload_n 2, 1) := by decide +kernel
theorem dX8_spans_75 : decode cX8_spans 75 = .ok (.if_icmp .le 35, 3) := by decide +kernel
theorem dX8_spans_78 : decode cX8_spans 78 = .ok (.aload_n 0, 1) := by decide +kernel
theorem dX8_spans_79 : decode cX8_spans 79 = .ok (.getfield 13, 3) := by decide +kernel
theorem dX8_spans_82 : decode cX8_spans 82 = .ok (.iload_n 1, 1) := by decide +kernel
theorem dX8_spans_83 : decode cX8_spans 83 = .ok (.iaload, 1) := by decide +kernel
theorem dX8_spans_84 : decode cX8_spans 84 = .ok (.aload_n 0, 1) := by decide +kernel
theorem dX8_spans_85 : decode cX8_spans 85 = .ok (.getfield 7, 3) := by decide +kernel
theorem dX8_spans_88 : decode cX8_spans 88 = .ok (.iload_n 1, 1) := by decide +kernel
theorem dX8_spans_89 : decode cX8_spans 89 = .ok (.iaload, 1) := by decide +kernel
theorem dX8_spans_90 : decode cX8_spans 90 = .ok (.iload_n 3, 1) := by decide +kernel
theorem dX8_spans_91 : decode cX8_spans 91 = .ok (.iload_n 2, 1) := by decide +kernel
theorem dX8_spans_92 : decode cX8_spans 92 = .ok (.isub, 1) := by decide +kernel
theorem dX8_spans_93 : decode cX8_spans 93 = .ok (.invokestatic 157, 3) := by decide +kernel
theorem dX8_spans_96 : decode cX8_spans 96 = .ok (.aload_n 0, 1) := by decide +kernel
theorem dX8_spans_97 : decode cX8_spans 97 = .ok (.iload_n 1, 1) := by decide +kernel
theorem dX8_spans_98 : decode cX8_spans 98 = .ok (.invokevirtual 127, 3) := by decide +kernel
theorem dX8_spans_101 : decode cX8_spans 101 = .ok (.iload_n 2, 1) := by decide +kernel
theorem dX8_spans_102 : decode cX8_spans 102 = .ok (.isub, 1) := by decide +kernel
theorem dX8_spans_103 : decode cX8_spans 103 = .ok (.invokestatic 157, 3) := by decide +kernel
theorem dX8_spans_106 : decode cX8_spans 106 = .ok (.imul, 1) := by decide +kernel
theorem dX8_spans_107 : decode cX8_spans 107 = .ok (.goto 4, 3) := by decide +kernel
theorem dX8_spans_110 : decode cX8_spans 110 = .ok (.iconst 0, 1) := by decide +kernel
theorem dX8_spans_111 : decode cX8_spans 111 = .ok (.istore 5, 2) := by decide +kernel
theorem dX8_spans_113 : decode cX8_spans 113 = .ok (.iload 4, 2) := by decide +kernel
theorem dX8_spans_115 : decode cX8_spans 115 = .ok (.ifCond .lt 32, 3) := by decide +kernel
theorem dX8_spans_118 : decode cX8_spans 118 = .ok (.iload 5, 2) := by decide +kernel
theorem dX8_spans_120 : decode cX8_spans 120 = .ok (.iload 4, 2) := by decide +kernel
theorem dX8_spans_122 : decode cX8_spans 122 = .ok (.if_icmp .le 25, 3) := by decide +kernel
theorem dX8_spans_125 : decode cX8_spans 125 = .ok (.aload_n 0, 1) := by decide +kernel
theorem dX8_spans_126 : decode cX8_spans 126 = .ok (.iload_n 1, 1) := by decide +kernel
theorem dX8_spans_127 : decode cX8_spans 127 = .ok (.iload_n 3, 1) := by decide +kernel
theorem dX8_spans_128 : decode cX8_spans 128 = .ok (.iload 4, 2) := by decide +kernel
theorem dX8_spans_130 : decode cX8_spans 130 = .ok (.aload_n 0, 1) := by decide +kernel
theorem dX8_spans_131 : decode cX8_spans 131 = .ok (.getfield 13, 3) := by decide +kernel
theorem dX8_spans_134 : decode cX8_spans 134 = .ok (.iload_n 1, 1) := by decide +kernel
theorem dX8_spans_135 : decode cX8_spans 135 = .ok (.iaload, 1) := by decide +kernel
theorem dX8_spans_136 : decode cX8_spans 136 = .ok (.idiv, 1) := by decide +kernel
theorem dX8_spans_137 : decode cX8_spans 137 = .ok (.isub, 1) := by decide +kernel
theorem dX8_spans_138 : decode cX8_spans 138 = .ok (.bipush 100, 2) := by decide +kernel
theorem dX8_spans_140 : decode cX8_spans 140 = .ok (.iload_n 2, 1) := by decide +kernel
theorem dX8_spans_141 : decode cX8_spans 141 = .ok (.imul, 1) := by decide +kernel
theorem dX8_spans_142 : decode cX8_spans 142 = .ok (.iload_n 3, 1) := by decide +kernel
theorem dX8_spans_143 : decode cX8_spans 143 = .ok (.iadd, 1) := by decide +kernel
theorem dX8_spans_144 : decode cX8_spans 144 = .ok (.invokevirtual 137, 3) := by decide +kernel
theorem dX8_spans_147 : decode cX8_spans 147 = .ok (.iinc 3 1, 3) := by decide +kernel
theorem dX8_spans_150 : decode cX8_spans 150 = .ok (.goto (-138), 3) := by decide +kernel
theorem dX8_spans_153 : decode cX8_spans 153 = .ok (.iinc 2 1, 3) := by decide +kernel
theorem dX8_spans_156 : decode cX8_spans 156 = .ok (.goto (-154), 3) := by decide +kernel
theorem dX8_spans_159 : decode cX8_spans 159 = .ok (.return_, 1) := by decide +kernel
theorem dX8_passes_0 : decode cX8_passes 0 = .ok (.iconst 0, 1) := by decide +kernel
theorem dX8_passes_1 : decode cX8_passes 1 = .ok (.istore_n 3, 1) := by decide +kernel
theorem dX8_passes_2 : decode cX8_passes 2 = .ok (.iload_n 3, 1) := by decide +kernel
theorem dX8_passes_3 : decode cX8_passes 3 = .ok (.aload_n 0, 1) := by decide +kernel
theorem dX8_passes_4 : decode cX8_passes 4 = .ok (.getfield 118, 3) := by decide +kernel
theorem dX8_passes_7 : decode cX8_passes 7 = .ok (.if_icmp .ge 73, 3) := by decide +kernel
theorem dX8_passes_10 : decode cX8_passes 10 = .ok (.aload_n 0, 1) := by decide +kernel
theorem dX8_passes_11 : decode cX8_passes 11 = .ok (.getfield 35, 3) := by decide +kernel
theorem dX8_passes_14 : decode cX8_passes 14 = .ok (.iload_n 3, 1) := by decide +kernel
theorem dX8_passes_15 : decode cX8_passes 15 = .ok (.iload_n 2, 1) := by decide +kernel
theorem dX8_passes_16 : decode cX8_passes 16 = .ok (.ifCond .ne 14, 3) := by decide +kernel
theorem dX8_passes_19 : decode cX8_passes 19 = .ok (.aload_n 0, 1) := by decide +kernel
theorem dX8_passes_20 : decode cX8_passes 20 = .ok (.getfield 16, 3) := by decide +kernel
theorem dX8_passes_23 : decode cX8_passes 23 = .ok (.iconst 0, 1) := by decide +kernel
theorem dX8_passes_24 : decode cX8_passes 24 = .ok (.iload_n 3, 1) := by decide +kernel
theorem dX8_passes_25 : decode cX8_passes 25 = .ok (.iadd, 1) := by decide +kernel
theorem dX8_passes_26 : decode cX8_passes 26 = .ok (.iaload, 1) := by decide +kernel
theorem dX8_passes_27 : decode cX8_passes 27 = .ok (.goto 14, 3) := by decide +kernel
theorem dX8_passes_30 : decode cX8_passes 30 = .ok (.bipush 16, 2) := by decide +kernel
theorem dX8_passes_32 : decode cX8_passes 32 = .ok (.aload_n 0, 1) := by decide +kernel
theorem dX8_passes_33 : decode cX8_passes 33 = .ok (.getfield 16, 3) := by decide +kernel
theorem dX8_passes_36 : decode cX8_passes 36 = .ok (.iconst 5, 1) := by decide +kernel
theorem dX8_passes_37 : decode cX8_passes 37 = .ok (.iload_n 3, 1) := by decide +kernel
theorem dX8_passes_38 : decode cX8_passes 38 = .ok (.iadd, 1) := by decide +kernel
theorem dX8_passes_39 : decode cX8_passes 39 = .ok (.iaload, 1) := by decide +kernel
theorem dX8_passes_40 : decode cX8_passes 40 = .ok (.isub, 1) := by decide +kernel
theorem dX8_passes_41 : decode cX8_passes 41 = .ok (.iastore, 1) := by decide +kernel
theorem dX8_passes_42 : decode cX8_passes 42 = .ok (.aload_n 0, 1) := by decide +kernel
theorem dX8_passes_43 : decode cX8_passes 43 = .ok (.getfield 38, 3) := by decide +kernel
theorem dX8_passes_46 : decode cX8_passes 46 = .ok (.iload_n 3, 1) := by decide +kernel
theorem dX8_passes_47 : decode cX8_passes 47 = .ok (.iload_n 2, 1) := by decide +kernel
theorem dX8_passes_48 : decode cX8_passes 48 = .ok (.ifCond .ne 14, 3) := by decide +kernel
theorem dX8_passes_51 : decode cX8_passes 51 = .ok (.aload_n 0, 1) := by decide +kernel
theorem dX8_passes_52 : decode cX8_passes 52 = .ok (.getfield 16, 3) := by decide +kernel
theorem dX8_passes_55 : decode cX8_passes 55 = .ok (.iconst 5, 1) := by decide +kernel
theorem dX8_passes_56 : decode cX8_passes 56 = .ok (.iload_n 3, 1) := by decide +kernel
theorem dX8_passes_57 : decode cX8_passes 57 = .ok (.iadd, 1) := by decide +kernel
theorem dX8_passes_58 : decode cX8_passes 58 = .ok (.iaload, 1) := by decide +kernel
theorem dX8_passes_59 : decode cX8_passes 59 = .ok (.goto 14, 3) := by decide +kernel
theorem dX8_passes_62 : decode cX8_passes 62 = .ok (.bipush 16, 2) := by decide +kernel
theorem dX8_passes_64 : decode cX8_passes 64 = .ok (.aload_n 0, 1) := by decide +kernel
theorem dX8_passes_65 : decode cX8_passes 65 = .ok (.getfield 16, 3) := by decide +kernel
theorem dX8_passes_68 : decode cX8_passes 68 = .ok (.iconst 0, 1) := by decide +kernel
theorem dX8_passes_69 : decode cX8_passes 69 = .ok (.iload_n 3, 1) := by decide +kernel
theorem dX8_passes_70 : decode cX8_passes 70 = .ok (.iadd, 1) := by decide +kernel
theorem dX8_passes_71 : decode cX8_passes 71 = .ok (.iaload, 1) := by decide +kernel
theorem dX8_passes_72 : decode cX8_passes 72 = .ok (.isub, 1) := by decide +kernel
theorem dX8_passes_73 : decode cX8_passes 73 = .ok (.iastore, 1) := by decide +kernel
theorem dX8_passes_74 : decode cX8_passes 74 = .ok (.iinc 3 1, 3) := by decide +kernel
theorem dX8_passes_77 : decode cX8_passes 77 = .ok (.goto (-75), 3) := by decide +kernel
theorem dX8_passes_80 : decode cX8_passes 80 = .ok (.iconst 0, 1) := by decide +kernel
theorem dX8_passes_81 : decode cX8_passes 81 = .ok (.istore_n 3, 1) := by decide +kernel
theorem dX8_passes_82 : decode cX8_passes 82 = .ok (.iload_n 3, 1) := by decide +kernel
theorem dX8_passes_83 : decode cX8_passes 83 = .ok (.aload_n 0, 1) := by decide +kernel
theorem dX8_passes_84 : decode cX8_passes 84 = .ok (.getfield 118, 3) := by decide +kernel
theorem dX8_passes_87 : decode cX8_passes 87 = .ok (.if_icmp .ge 76, 3) := by decide +kernel
theorem dX8_passes_90 : decode cX8_passes 90 = .ok (.aload_n 0, 1) := by decide +kernel
theorem dX8_passes_91 : decode cX8_passes 91 = .ok (.getfield 41, 3) := by decide +kernel
theorem dX8_passes_94 : decode cX8_passes 94 = .ok (.iload_n 3, 1) := by decide +kernel
theorem dX8_passes_95 : decode cX8_passes 95 = .ok (.aload_n 0, 1) := by decide +kernel
theorem dX8_passes_96 : decode cX8_passes 96 = .ok (.getfield 35, 3) := by decide +kernel
theorem dX8_passes_99 : decode cX8_passes 99 = .ok (.iload_n 3, 1) := by decide +kernel
theorem dX8_passes_100 : decode cX8_passes 100 = .ok (.iaload, 1) := by decide +kernel
theorem dX8_passes_101 : decode cX8_passes 101 = .ok (.iastore, 1) := by decide +kernel
theorem dX8_passes_102 : decode cX8_passes 102 = .ok (.iload_n 1, 1) := by decide +kernel
theorem dX8_passes_103 : decode cX8_passes 103 = .ok (.tableswitch 49 0 2 #[25, 33, 41], 25) := by decide +kernel
theorem dX8_passes_128 : decode cX8_passes 128 = .ok (.aload_n 0, 1) := by decide +kernel
theorem dX8_passes_129 : decode cX8_passes 129 = .ok (.iload_n 3, 1) := by decide +kernel
theorem dX8_passes_130 : decode cX8_passes 130 = .ok (.invokevirtual 165, 3) := by decide +kernel
theorem dX8_passes_133 : decode cX8_passes 133 = .ok (.goto 24, 3) := by decide +kernel
theorem dX8_passes_136 : decode cX8_passes 136 = .ok (.aload_n 0, 1) := by decide +kernel
theorem dX8_passes_137 : decode cX8_passes 137 = .ok (.iload_n 3, 1) := by decide +kernel
theorem dX8_passes_138 : decode cX8_passes 138 = .ok (.invokevirtual 169, 3) := by decide +kernel
theorem dX8_passes_141 : decode cX8_passes 141 = .ok (.goto 16, 3) := by decide +kernel
theorem dX8_passes_144 : decode cX8_passes 144 = .ok (.aload_n 0, 1) := by decide +kernel
theorem dX8_passes_145 : decode cX8_passes 145 = .ok (.iload_n 3, 1) := by decide +kernel
theorem dX8_passes_146 : decode cX8_passes 146 = .ok (.invokevirtual 172, 3) := by decide +kernel
theorem dX8_passes_149 : decode cX8_passes 149 = .ok (.goto 8, 3) := by decide +kernel
theorem dX8_passes_152 : decode cX8_passes 152 = .ok (.aload_n 0, 1) := by decide +kernel
theorem dX8_passes_153 : decode cX8_passes 153 = .ok (.iload_n 3, 1) := by decide +kernel
theorem dX8_passes_154 : decode cX8_passes 154 = .ok (.invokevirtual 175, 3) := by decide +kernel
theorem dX8_passes_157 : decode cX8_passes 157 = .ok (.iinc 3 1, 3) := by decide +kernel
theorem dX8_passes_160 : decode cX8_passes 160 = .ok (.goto (-78), 3) := by decide +kernel
theorem dX8_passes_163 : decode cX8_passes 163 = .ok (.iconst 0, 1) := by decide +kernel
theorem dX8_passes_164 : decode cX8_passes 164 = .ok (.istore_n 3, 1) := by decide +kernel
theorem dX8_passes_165 : decode cX8_passes 165 = .ok (.iload_n 3, 1) := by decide +kernel
theorem dX8_passes_166 : decode cX8_passes 166 = .ok (.aload_n 0, 1) := by decide +kernel
theorem dX8_passes_167 : decode cX8_passes 167 = .ok (.getfield 118, 3) := by decide +kernel
theorem dX8_passes_170 : decode cX8_passes 170 = .ok (.if_icmp .ge 121, 3) := by decide +kernel
theorem dX8_passes_173 : decode cX8_passes 173 = .ok (.aload_n 0, 1) := by decide +kernel
theorem dX8_passes_174 : decode cX8_passes 174 = .ok (.getfield 41, 3) := by decide +kernel
theorem dX8_passes_177 : decode cX8_passes 177 = .ok (.iload_n 3, 1) := by decide +kernel
theorem dX8_passes_178 : decode cX8_passes 178 = .ok (.iaload, 1) := by decide +kernel
theorem dX8_passes_179 : decode cX8_passes 179 = .ok (.aload_n 0, 1) := by decide +kernel
theorem dX8_passes_180 : decode cX8_passes 180 = .ok (.getfield 35, 3) := by decide +kernel
theorem dX8_passes_183 : decode cX8_passes 183 = .ok (.iload_n 3, 1) := by decide +kernel
theorem dX8_passes_184 : decode cX8_passes 184 = .ok (.iaload, 1) := by decide +kernel
theorem dX8_passes_185 : decode cX8_passes 185 = .ok (.if_icmp .le 100, 3) := by decide +kernel
theorem dX8_passes_188 : decode cX8_passes 188 = .ok (.aload_n 0, 1) := by decide +kernel
theorem dX8_passes_189 : decode cX8_passes 189 = .ok (.getfield 41, 3) := by decide +kernel
theorem dX8_passes_192 : decode cX8_passes 192 = .ok (.iload_n 3, 1) := by decide +kernel
theorem dX8_passes_193 : decode cX8_passes 193 = .ok (.iaload, 1) := by decide +kernel
theorem dX8_passes_194 : decode cX8_passes 194 = .ok (.aload_n 0, 1) := by decide +kernel
theorem dX8_passes_195 : decode cX8_passes 195 = .ok (.iload_n 3, 1) := by decide +kernel
theorem dX8_passes_196 : decode cX8_passes 196 = .ok (.invokevirtual 131, 3) := by decide +kernel
theorem dX8_passes_199 : decode cX8_passes 199 = .ok (.if_icmp .le 13, 3) := by decide +kernel
theorem dX8_passes_202 : decode cX8_passes 202 = .ok (.aload_n 0, 1) := by decide +kernel
theorem dX8_passes_203 : decode cX8_passes 203 = .ok (.iload_n 3, 1) := by decide +kernel
theorem dX8_passes_204 : decode cX8_passes 204 = .ok (.invokevirtual 131, 3) := by decide +kernel
theorem dX8_passes_207 : decode cX8_passes 207 = .ok (.iconst 1, 1) := by decide +kernel
theorem dX8_passes_208 : decode cX8_passes 208 = .ok (.iadd, 1) := by decide +kernel
theorem dX8_passes_209 : decode cX8_passes 209 = .ok (.goto 9, 3) := by decide +kernel
theorem dX8_passes_212 : decode cX8_passes 212 = .ok (.aload_n 0, 1) := by decide +kernel
theorem dX8_passes_213 : decode cX8_passes 213 = .ok (.getfield 41, 3) := by decide +kernel
theorem dX8_passes_216 : decode cX8_passes 216 = .ok (.iload_n 3, 1) := by decide +kernel
theorem dX8_passes_217 : decode cX8_passes 217 = .ok (.iaload, 1) := by decide +kernel
theorem dX8_passes_218 : decode cX8_passes 218 = .ok (.istore 4, 2) := by decide +kernel
theorem dX8_passes_220 : decode cX8_passes 220 = .ok (.aload_n 0, 1) := by decide +kernel
theorem dX8_passes_221 : decode cX8_passes 221 = .ok (.getfield 16, 3) := by decide +kernel
theorem dX8_passes_224 : decode cX8_passes 224 = .ok (.iload_n 2, 1) := by decide +kernel
theorem dX8_passes_225 : decode cX8_passes 225 = .ok (.ifCond .ne 9, 3) := by decide +kernel
theorem dX8_passes_228 : decode cX8_passes 228 = .ok (.iconst 0, 1) := by decide +kernel
theorem dX8_passes_229 : decode cX8_passes 229 = .ok (.iload_n 3, 1) := by decide +kernel
theorem dX8_passes_230 : decode cX8_passes 230 = .ok (.iadd, 1) := by decide +kernel
theorem dX8_passes_231 : decode cX8_passes 231 = .ok (.goto 6, 3) := by decide +kernel
theorem dX8_passes_234 : decode cX8_passes 234 = .ok (.iconst 5, 1) := by decide +kernel
theorem dX8_passes_235 : decode cX8_passes 235 = .ok (.iload_n 3, 1) := by decide +kernel
theorem dX8_passes_236 : decode cX8_passes 236 = .ok (.iadd, 1) := by decide +kernel
theorem dX8_passes_237 : decode cX8_passes 237 = .ok (.iload_n 2, 1) := by decide +kernel
theorem dX8_passes_238 : decode cX8_passes 238 = .ok (.ifCond .ne 8, 3) := by decide +kernel
theorem dX8_passes_241 : decode cX8_passes 241 = .ok (.iload 4, 2) := by decide +kernel
theorem dX8_passes_243 : decode cX8_passes 243 = .ok (.goto 8, 3) := by decide +kernel
theorem dX8_passes_246 : decode cX8_passes 246 = .ok (.bipush 16, 2) := by decide +kernel
theorem dX8_passes_248 : decode cX8_passes 248 = .ok (.iload 4, 2) := by decide +kernel
theorem dX8_passes_250 : decode cX8_passes 250 = .ok (.isub, 1) := by decide +kernel
theorem dX8_passes_251 : decode cX8_passes 251 = .ok (.iastore, 1) := by decide +kernel
theorem dX8_passes_252 : decode cX8_passes 252 = .ok (.aload_n 0, 1) := by decide +kernel
theorem dX8_passes_253 : decode cX8_passes 253 = .ok (.getfield 16, 3) := by decide +kernel
theorem dX8_passes_256 : decode cX8_passes 256 = .ok (.bipush 10, 2) := by decide +kernel
theorem dX8_passes_258 : decode cX8_passes 258 = .ok (.iconst 5, 1) := by decide +kernel
theorem dX8_passes_259 : decode cX8_passes 259 = .ok (.iload_n 2, 1) := by decide +kernel
theorem dX8_passes_260 : decode cX8_passes 260 = .ok (.imul, 1) := by decide +kernel
theorem dX8_passes_261 : decode cX8_passes 261 = .ok (.iadd, 1) := by decide +kernel
theorem dX8_passes_262 : decode cX8_passes 262 = .ok (.iload_n 3, 1) := by decide +kernel
theorem dX8_passes_263 : decode cX8_passes 263 = .ok (.iadd, 1) := by decide +kernel
theorem dX8_passes_264 : decode cX8_passes 264 = .ok (.iload_n 1, 1) := by decide +kernel
theorem dX8_passes_265 : decode cX8_passes 265 = .ok (.iastore, 1) := by decide +kernel
theorem dX8_passes_266 : decode cX8_passes 266 = .ok (.aload_n 0, 1) := by decide +kernel
theorem dX8_passes_267 : decode cX8_passes 267 = .ok (.getfield 16, 3) := by decide +kernel
theorem dX8_passes_270 : decode cX8_passes 270 = .ok (.bipush 20, 2) := by decide +kernel
theorem dX8_passes_272 : decode cX8_passes 272 = .ok (.iconst 5, 1) := by decide +kernel
theorem dX8_passes_273 : decode cX8_passes 273 = .ok (.iload_n 2, 1) := by decide +kernel
theorem dX8_passes_274 : decode cX8_passes 274 = .ok (.imul, 1) := by decide +kernel
theorem dX8_passes_275 : decode cX8_passes 275 = .ok (.iadd, 1) := by decide +kernel
theorem dX8_passes_276 : decode cX8_passes 276 = .ok (.iload_n 3, 1) := by decide +kernel
theorem dX8_passes_277 : decode cX8_passes 277 = .ok (.iadd, 1) := by decide +kernel
theorem dX8_passes_278 : decode cX8_passes 278 = .ok (.aload_n 0, 1) := by decide +kernel
theorem dX8_passes_279 : decode cX8_passes 279 = .ok (.getfield 44, 3) := by decide +kernel
theorem dX8_passes_282 : decode cX8_passes 282 = .ok (.iload_n 3, 1) := by decide +kernel
theorem dX8_passes_283 : decode cX8_passes 283 = .ok (.iaload, 1) := by decide +kernel
theorem dX8_passes_284 : decode cX8_passes 284 = .ok (.iastore, 1) := by decide +kernel
theorem dX8_passes_285 : decode cX8_passes 285 = .ok (.iinc 3 1, 3) := by decide +kernel
theorem dX8_passes_288 : decode cX8_passes 288 = .ok (.goto (-123), 3) := by decide +kernel
theorem dX8_passes_291 : decode cX8_passes 291 = .ok (.return_, 1) := by decide +kernel
theorem dX8_rules_0 : decode cX8_rules 0 = .ok (.aload_n 0, 1) := by decide +kernel
theorem dX8_rules_1 : decode cX8_rules 1 = .ok (.iload_n 1, 1) := by decide +kernel
theorem dX8_rules_2 : decode cX8_rules 2 = .ok (.iconst 0, 1) := by decide +kernel
theorem dX8_rules_3 : decode cX8_rules 3 = .ok (.invokevirtual 178, 3) := by decide +kernel
theorem dX8_rules_6 : decode cX8_rules 6 = .ok (.aload_n 0, 1) := by decide +kernel
theorem dX8_rules_7 : decode cX8_rules 7 = .ok (.invokevirtual 182, 3) := by decide +kernel
theorem dX8_rules_10 : decode cX8_rules 10 = .ok (.ifCond .ne 9, 3) := by decide +kernel
theorem dX8_rules_13 : decode cX8_rules 13 = .ok (.aload_n 0, 1) := by decide +kernel
theorem dX8_rules_14 : decode cX8_rules 14 = .ok (.iload_n 1, 1) := by decide +kernel
theorem dX8_rules_15 : decode cX8_rules 15 = .ok (.iconst 1, 1) := by decide +kernel
theorem dX8_rules_16 : decode cX8_rules 16 = .ok (.invokevirtual 178, 3) := by decide +kernel
theorem dX8_rules_19 : decode cX8_rules 19 = .ok (.return_, 1) := by decide +kernel
theorem dX8_unlike_0 : decode cX8_unlike 0 = .ok (.iconst 0, 1) := by decide +kernel
theorem dX8_unlike_1 : decode cX8_unlike 1 = .ok (.istore_n 1, 1) := by decide +kernel
theorem dX8_unlike_2 : decode cX8_unlike 2 = .ok (.iconst 0, 1) := by decide +kernel
theorem dX8_unlike_3 : decode cX8_unlike 3 = .ok (.istore_n 2, 1) := by decide +kernel
theorem dX8_unlike_4 : decode cX8_unlike 4 = .ok (.iload_n 2, 1) := by decide +kernel
theorem dX8_unlike_5 : decode cX8_unlike 5 = .ok (.bipush 10, 2) := by decide +kernel
theorem dX8_unlike_7 : decode cX8_unlike 7 = .ok (.if_icmp .ge 32, 3) := by decide +kernel
theorem dX8_unlike_10 : decode cX8_unlike 10 = .ok (.iload_n 1, 1) := by decide +kernel
theorem dX8_unlike_11 : decode cX8_unlike 11 = .ok (.aload_n 0, 1) := by decide +kernel
theorem dX8_unlike_12 : decode cX8_unlike 12 = .ok (.getfield 16, 3) := by decide +kernel
theorem dX8_unlike_15 : decode cX8_unlike 15 = .ok (.iload_n 2, 1) := by decide +kernel
theorem dX8_unlike_16 : decode cX8_unlike 16 = .ok (.iaload, 1) := by decide +kernel
theorem dX8_unlike_17 : decode cX8_unlike 17 = .ok (.aload_n 0, 1) := by decide +kernel
theorem dX8_unlike_18 : decode cX8_unlike 18 = .ok (.getfield 47, 3) := by decide +kernel
theorem dX8_unlike_21 : decode cX8_unlike 21 = .ok (.iload_n 2, 1) := by decide +kernel
theorem dX8_unlike_22 : decode cX8_unlike 22 = .ok (.iaload, 1) := by decide +kernel
theorem dX8_unlike_23 : decode cX8_unlike 23 = .ok (.if_icmp .eq 7, 3) := by decide +kernel
theorem dX8_unlike_26 : decode cX8_unlike 26 = .ok (.iconst 1, 1) := by decide +kernel
theorem dX8_unlike_27 : decode cX8_unlike 27 = .ok (.goto 4, 3) := by decide +kernel
theorem dX8_unlike_30 : decode cX8_unlike 30 = .ok (.iconst 0, 1) := by decide +kernel
theorem dX8_unlike_31 : decode cX8_unlike 31 = .ok (.iadd, 1) := by decide +kernel
theorem dX8_unlike_32 : decode cX8_unlike 32 = .ok (.istore_n 1, 1) := by decide +kernel
theorem dX8_unlike_33 : decode cX8_unlike 33 = .ok (.iinc 2 1, 3) := by decide +kernel
theorem dX8_unlike_36 : decode cX8_unlike 36 = .ok (.goto (-32), 3) := by decide +kernel
theorem dX8_unlike_39 : decode cX8_unlike 39 = .ok (.iload_n 1, 1) := by decide +kernel
theorem dX8_unlike_40 : decode cX8_unlike 40 = .ok (.ireturn, 1) := by decide +kernel
theorem dX8_remember_0 : decode cX8_remember 0 = .ok (.iconst 0, 1) := by decide +kernel
theorem dX8_remember_1 : decode cX8_remember 1 = .ok (.istore_n 1, 1) := by decide +kernel
theorem dX8_remember_2 : decode cX8_remember 2 = .ok (.iload_n 1, 1) := by decide +kernel
theorem dX8_remember_3 : decode cX8_remember 3 = .ok (.bipush 30, 2) := by decide +kernel
theorem dX8_remember_5 : decode cX8_remember 5 = .ok (.if_icmp .ge 29, 3) := by decide +kernel
theorem dX8_remember_8 : decode cX8_remember 8 = .ok (.aload_n 0, 1) := by decide +kernel
theorem dX8_remember_9 : decode cX8_remember 9 = .ok (.getfield 19, 3) := by decide +kernel
theorem dX8_remember_12 : decode cX8_remember 12 = .ok (.bipush 30, 2) := by decide +kernel
theorem dX8_remember_14 : decode cX8_remember 14 = .ok (.aload_n 0, 1) := by decide +kernel
theorem dX8_remember_15 : decode cX8_remember 15 = .ok (.getfield 185, 3) := by decide +kernel
theorem dX8_remember_18 : decode cX8_remember 18 = .ok (.imul, 1) := by decide +kernel
theorem dX8_remember_19 : decode cX8_remember 19 = .ok (.iload_n 1, 1) := by decide +kernel
theorem dX8_remember_20 : decode cX8_remember 20 = .ok (.iadd, 1) := by decide +kernel
theorem dX8_remember_21 : decode cX8_remember 21 = .ok (.aload_n 0, 1) := by decide +kernel
theorem dX8_remember_22 : decode cX8_remember 22 = .ok (.getfield 16, 3) := by decide +kernel
theorem dX8_remember_25 : decode cX8_remember 25 = .ok (.iload_n 1, 1) := by decide +kernel
theorem dX8_remember_26 : decode cX8_remember 26 = .ok (.iaload, 1) := by decide +kernel
theorem dX8_remember_27 : decode cX8_remember 27 = .ok (.iastore, 1) := by decide +kernel
theorem dX8_remember_28 : decode cX8_remember 28 = .ok (.iinc 1 1, 3) := by decide +kernel
theorem dX8_remember_31 : decode cX8_remember 31 = .ok (.goto (-29), 3) := by decide +kernel
theorem dX8_remember_34 : decode cX8_remember 34 = .ok (.aload_n 0, 1) := by decide +kernel
theorem dX8_remember_35 : decode cX8_remember 35 = .ok (.aload_n 0, 1) := by decide +kernel
theorem dX8_remember_36 : decode cX8_remember 36 = .ok (.getfield 185, 3) := by decide +kernel
theorem dX8_remember_39 : decode cX8_remember 39 = .ok (.iconst 1, 1) := by decide +kernel
theorem dX8_remember_40 : decode cX8_remember 40 = .ok (.iadd, 1) := by decide +kernel
theorem dX8_remember_41 : decode cX8_remember 41 = .ok (.bipush 10, 2) := by decide +kernel
theorem dX8_remember_43 : decode cX8_remember 43 = .ok (.irem, 1) := by decide +kernel
theorem dX8_remember_44 : decode cX8_remember 44 = .ok (.putfield 185, 3) := by decide +kernel
theorem dX8_remember_47 : decode cX8_remember 47 = .ok (.aload_n 0, 1) := by decide +kernel
theorem dX8_remember_48 : decode cX8_remember 48 = .ok (.dup, 1) := by decide +kernel
theorem dX8_remember_49 : decode cX8_remember 49 = .ok (.getfield 121, 3) := by decide +kernel
theorem dX8_remember_52 : decode cX8_remember 52 = .ok (.aload_n 0, 1) := by decide +kernel
theorem dX8_remember_53 : decode cX8_remember 53 = .ok (.getfield 121, 3) := by decide +kernel
theorem dX8_remember_56 : decode cX8_remember 56 = .ok (.bipush 10, 2) := by decide +kernel
theorem dX8_remember_58 : decode cX8_remember 58 = .ok (.if_icmp .ge 7, 3) := by decide +kernel
theorem dX8_remember_61 : decode cX8_remember 61 = .ok (.iconst 1, 1) := by decide +kernel
theorem dX8_remember_62 : decode cX8_remember 62 = .ok (.goto 4, 3) := by decide +kernel
theorem dX8_remember_65 : decode cX8_remember 65 = .ok (.iconst 0, 1) := by decide +kernel
theorem dX8_remember_66 : decode cX8_remember 66 = .ok (.iadd, 1) := by decide +kernel
theorem dX8_remember_67 : decode cX8_remember 67 = .ok (.putfield 121, 3) := by decide +kernel
theorem dX8_remember_70 : decode cX8_remember 70 = .ok (.return_, 1) := by decide +kernel
theorem dX8_windows_0 : decode cX8_windows 0 = .ok (.iconst 0, 1) := by decide +kernel
theorem dX8_windows_1 : decode cX8_windows 1 = .ok (.istore_n 1, 1) := by decide +kernel
theorem dX8_windows_2 : decode cX8_windows 2 = .ok (.iconst 0, 1) := by decide +kernel
theorem dX8_windows_3 : decode cX8_windows 3 = .ok (.istore_n 2, 1) := by decide +kernel
theorem dX8_windows_4 : decode cX8_windows 4 = .ok (.iload_n 2, 1) := by decide +kernel
theorem dX8_windows_5 : decode cX8_windows 5 = .ok (.aload_n 0, 1) := by decide +kernel
theorem dX8_windows_6 : decode cX8_windows 6 = .ok (.getfield 118, 3) := by decide +kernel
theorem dX8_windows_9 : decode cX8_windows 9 = .ok (.if_icmp .ge 29, 3) := by decide +kernel
theorem dX8_windows_12 : decode cX8_windows 12 = .ok (.iload_n 1, 1) := by decide +kernel
theorem dX8_windows_13 : decode cX8_windows 13 = .ok (.aload_n 0, 1) := by decide +kernel
theorem dX8_windows_14 : decode cX8_windows 14 = .ok (.getfield 16, 3) := by decide +kernel
theorem dX8_windows_17 : decode cX8_windows 17 = .ok (.iconst 5, 1) := by decide +kernel
theorem dX8_windows_18 : decode cX8_windows 18 = .ok (.iload_n 2, 1) := by decide +kernel
theorem dX8_windows_19 : decode cX8_windows 19 = .ok (.iadd, 1) := by decide +kernel
theorem dX8_windows_20 : decode cX8_windows 20 = .ok (.iaload, 1) := by decide +kernel
theorem dX8_windows_21 : decode cX8_windows 21 = .ok (.aload_n 0, 1) := by decide +kernel
theorem dX8_windows_22 : decode cX8_windows 22 = .ok (.getfield 16, 3) := by decide +kernel
theorem dX8_windows_25 : decode cX8_windows 25 = .ok (.iconst 0, 1) := by decide +kernel
theorem dX8_windows_26 : decode cX8_windows 26 = .ok (.iload_n 2, 1) := by decide +kernel
theorem dX8_windows_27 : decode cX8_windows 27 = .ok (.iadd, 1) := by decide +kernel
theorem dX8_windows_28 : decode cX8_windows 28 = .ok (.iaload, 1) := by decide +kernel
theorem dX8_windows_29 : decode cX8_windows 29 = .ok (.isub, 1) := by decide +kernel
theorem dX8_windows_30 : decode cX8_windows 30 = .ok (.iadd, 1) := by decide +kernel
theorem dX8_windows_31 : decode cX8_windows 31 = .ok (.istore_n 1, 1) := by decide +kernel
theorem dX8_windows_32 : decode cX8_windows 32 = .ok (.iinc 2 1, 3) := by decide +kernel
theorem dX8_windows_35 : decode cX8_windows 35 = .ok (.goto (-31), 3) := by decide +kernel
theorem dX8_windows_38 : decode cX8_windows 38 = .ok (.iload_n 1, 1) := by decide +kernel
theorem dX8_windows_39 : decode cX8_windows 39 = .ok (.ireturn, 1) := by decide +kernel
theorem dX8_tightens_0 : decode cX8_tightens 0 = .ok (.iload_n 1, 1) := by decide +kernel
theorem dX8_tightens_1 : decode cX8_tightens 1 = .ok (.iconst 0, 1) := by decide +kernel
theorem dX8_tightens_2 : decode cX8_tightens 2 = .ok (.iconst 4, 1) := by decide +kernel
theorem dX8_tightens_3 : decode cX8_tightens 3 = .ok (.invokestatic 63, 3) := by decide +kernel
theorem dX8_tightens_6 : decode cX8_tightens 6 = .ok (.ifCond .ne 5, 3) := by decide +kernel
theorem dX8_tightens_9 : decode cX8_tightens 9 = .ok (.iconst (-1), 1) := by decide +kernel
theorem dX8_tightens_10 : decode cX8_tightens 10 = .ok (.ireturn, 1) := by decide +kernel
theorem dX8_tightens_11 : decode cX8_tightens 11 = .ok (.aload_n 0, 1) := by decide +kernel
theorem dX8_tightens_12 : decode cX8_tightens 12 = .ok (.invokevirtual 182, 3) := by decide +kernel
theorem dX8_tightens_15 : decode cX8_tightens 15 = .ok (.ifCond .eq 6, 3) := by decide +kernel
theorem dX8_tightens_18 : decode cX8_tightens 18 = .ok (.bipush (-2), 2) := by decide +kernel
theorem dX8_tightens_20 : decode cX8_tightens 20 = .ok (.ireturn, 1) := by decide +kernel
theorem dX8_tightens_21 : decode cX8_tightens 21 = .ok (.aload_n 0, 1) := by decide +kernel
theorem dX8_tightens_22 : decode cX8_tightens 22 = .ok (.invokevirtual 188, 3) := by decide +kernel
theorem dX8_tightens_25 : decode cX8_tightens 25 = .ok (.iconst 0, 1) := by decide +kernel
theorem dX8_tightens_26 : decode cX8_tightens 26 = .ok (.istore_n 2, 1) := by decide +kernel
theorem dX8_tightens_27 : decode cX8_tightens 27 = .ok (.iload_n 2, 1) := by decide +kernel
theorem dX8_tightens_28 : decode cX8_tightens 28 = .ok (.bipush 30, 2) := by decide +kernel
theorem dX8_tightens_30 : decode cX8_tightens 30 = .ok (.if_icmp .ge 21, 3) := by decide +kernel
theorem dX8_tightens_33 : decode cX8_tightens 33 = .ok (.aload_n 0, 1) := by decide +kernel
theorem dX8_tightens_34 : decode cX8_tightens 34 = .ok (.getfield 47, 3) := by decide +kernel
theorem dX8_tightens_37 : decode cX8_tightens 37 = .ok (.iload_n 2, 1) := by decide +kernel
theorem dX8_tightens_38 : decode cX8_tightens 38 = .ok (.aload_n 0, 1) := by decide +kernel
theorem dX8_tightens_39 : decode cX8_tightens 39 = .ok (.getfield 16, 3) := by decide +kernel
theorem dX8_tightens_42 : decode cX8_tightens 42 = .ok (.iload_n 2, 1) := by decide +kernel
theorem dX8_tightens_43 : decode cX8_tightens 43 = .ok (.iaload, 1) := by decide +kernel
theorem dX8_tightens_44 : decode cX8_tightens 44 = .ok (.iastore, 1) := by decide +kernel
theorem dX8_tightens_45 : decode cX8_tightens 45 = .ok (.iinc 2 1, 3) := by decide +kernel
theorem dX8_tightens_48 : decode cX8_tightens 48 = .ok (.goto (-21), 3) := by decide +kernel
theorem dX8_tightens_51 : decode cX8_tightens 51 = .ok (.iload_n 1, 1) := by decide +kernel
theorem dX8_tightens_52 : decode cX8_tightens 52 = .ok (.iconst 4, 1) := by decide +kernel
theorem dX8_tightens_53 : decode cX8_tightens 53 = .ok (.if_icmp .ge 13, 3) := by decide +kernel
theorem dX8_tightens_56 : decode cX8_tightens 56 = .ok (.aload_n 0, 1) := by decide +kernel
theorem dX8_tightens_57 : decode cX8_tightens 57 = .ok (.iload_n 1, 1) := by decide +kernel
theorem dX8_tightens_58 : decode cX8_tightens 58 = .ok (.invokevirtual 191, 3) := by decide +kernel
theorem dX8_tightens_61 : decode cX8_tightens 61 = .ok (.aload_n 0, 1) := by decide +kernel
theorem dX8_tightens_62 : decode cX8_tightens 62 = .ok (.invokevirtual 194, 3) := by decide +kernel
theorem dX8_tightens_65 : decode cX8_tightens 65 = .ok (.ireturn, 1) := by decide +kernel
theorem dX8_tightens_66 : decode cX8_tightens 66 = .ok (.bipush (-99), 2) := by decide +kernel
theorem dX8_tightens_68 : decode cX8_tightens 68 = .ok (.istore_n 2, 1) := by decide +kernel
theorem dX8_tightens_69 : decode cX8_tightens 69 = .ok (.aload_n 0, 1) := by decide +kernel
theorem dX8_tightens_70 : decode cX8_tightens 70 = .ok (.invokevirtual 197, 3) := by decide +kernel
theorem dX8_tightens_73 : decode cX8_tightens 73 = .ok (.iload_n 2, 1) := by decide +kernel
theorem dX8_tightens_74 : decode cX8_tightens 74 = .ok (.if_icmp .eq 43, 3) := by decide +kernel
theorem dX8_tightens_77 : decode cX8_tightens 77 = .ok (.aload_n 0, 1) := by decide +kernel
theorem dX8_tightens_78 : decode cX8_tightens 78 = .ok (.invokevirtual 182, 3) := by decide +kernel
theorem dX8_tightens_81 : decode cX8_tightens 81 = .ok (.ifCond .ne 36, 3) := by decide +kernel
theorem dX8_tightens_84 : decode cX8_tightens 84 = .ok (.aload_n 0, 1) := by decide +kernel
theorem dX8_tightens_85 : decode cX8_tightens 85 = .ok (.invokevirtual 197, 3) := by decide +kernel
theorem dX8_tightens_88 : decode cX8_tightens 88 = .ok (.istore_n 2, 1) := by decide +kernel
theorem dX8_tightens_89 : decode cX8_tightens 89 = .ok (.iconst 0, 1) := by decide +kernel
theorem dX8_tightens_90 : decode cX8_tightens 90 = .ok (.istore_n 3, 1) := by decide +kernel
theorem dX8_tightens_91 : decode cX8_tightens 91 = .ok (.iload_n 3, 1) := by decide +kernel
theorem dX8_tightens_92 : decode cX8_tightens 92 = .ok (.iconst 4, 1) := by decide +kernel
theorem dX8_tightens_93 : decode cX8_tightens 93 = .ok (.if_icmp .ge 21, 3) := by decide +kernel
theorem dX8_tightens_96 : decode cX8_tightens 96 = .ok (.aload_n 0, 1) := by decide +kernel
theorem dX8_tightens_97 : decode cX8_tightens 97 = .ok (.invokevirtual 182, 3) := by decide +kernel
theorem dX8_tightens_100 : decode cX8_tightens 100 = .ok (.ifCond .ne 14, 3) := by decide +kernel
theorem dX8_tightens_103 : decode cX8_tightens 103 = .ok (.aload_n 0, 1) := by decide +kernel
theorem dX8_tightens_104 : decode cX8_tightens 104 = .ok (.iload_n 3, 1) := by decide +kernel
theorem dX8_tightens_105 : decode cX8_tightens 105 = .ok (.invokevirtual 191, 3) := by decide +kernel
theorem dX8_tightens_108 : decode cX8_tightens 108 = .ok (.iinc 3 1, 3) := by decide +kernel
theorem dX8_tightens_111 : decode cX8_tightens 111 = .ok (.goto (-20), 3) := by decide +kernel
theorem dX8_tightens_114 : decode cX8_tightens 114 = .ok (.goto (-45), 3) := by decide +kernel
theorem dX8_tightens_117 : decode cX8_tightens 117 = .ok (.aload_n 0, 1) := by decide +kernel
theorem dX8_tightens_118 : decode cX8_tightens 118 = .ok (.invokevirtual 194, 3) := by decide +kernel
theorem dX8_tightens_121 : decode cX8_tightens 121 = .ok (.ireturn, 1) := by decide +kernel
theorem dX8_puts_0 : decode cX8_puts 0 = .ok (.aload_n 0, 1) := by decide +kernel
theorem dX8_puts_1 : decode cX8_puts 1 = .ok (.iload_n 1, 1) := by decide +kernel
theorem dX8_puts_2 : decode cX8_puts 2 = .ok (.invokevirtual 200, 3) := by decide +kernel
theorem dX8_puts_5 : decode cX8_puts 5 = .ok (.ifCond .eq 22, 3) := by decide +kernel
theorem dX8_puts_8 : decode cX8_puts 8 = .ok (.iload_n 2, 1) := by decide +kernel
theorem dX8_puts_9 : decode cX8_puts 9 = .ok (.iconst 0, 1) := by decide +kernel
theorem dX8_puts_10 : decode cX8_puts 10 = .ok (.iconst 1, 1) := by decide +kernel
theorem dX8_puts_11 : decode cX8_puts 11 = .ok (.invokestatic 63, 3) := by decide +kernel
theorem dX8_puts_14 : decode cX8_puts 14 = .ok (.ifCond .eq 13, 3) := by decide +kernel
theorem dX8_puts_17 : decode cX8_puts 17 = .ok (.iload_n 3, 1) := by decide +kernel
theorem dX8_puts_18 : decode cX8_puts 18 = .ok (.iconst 0, 1) := by decide +kernel
theorem dX8_puts_19 : decode cX8_puts 19 = .ok (.bipush 16, 2) := by decide +kernel
theorem dX8_puts_21 : decode cX8_puts 21 = .ok (.invokestatic 63, 3) := by decide +kernel
theorem dX8_puts_24 : decode cX8_puts 24 = .ok (.ifCond .ne 5, 3) := by decide +kernel
theorem dX8_puts_27 : decode cX8_puts 27 = .ok (.iconst (-1), 1) := by decide +kernel
theorem dX8_puts_28 : decode cX8_puts 28 = .ok (.ireturn, 1) := by decide +kernel
theorem dX8_puts_29 : decode cX8_puts 29 = .ok (.iload_n 2, 1) := by decide +kernel
theorem dX8_puts_30 : decode cX8_puts 30 = .ok (.ifCond .ne 9, 3) := by decide +kernel
theorem dX8_puts_33 : decode cX8_puts 33 = .ok (.iconst 0, 1) := by decide +kernel
theorem dX8_puts_34 : decode cX8_puts 34 = .ok (.iload_n 1, 1) := by decide +kernel
theorem dX8_puts_35 : decode cX8_puts 35 = .ok (.iadd, 1) := by decide +kernel
theorem dX8_puts_36 : decode cX8_puts 36 = .ok (.goto 6, 3) := by decide +kernel
theorem dX8_puts_39 : decode cX8_puts 39 = .ok (.iconst 5, 1) := by decide +kernel
theorem dX8_puts_40 : decode cX8_puts 40 = .ok (.iload_n 1, 1) := by decide +kernel
theorem dX8_puts_41 : decode cX8_puts 41 = .ok (.iadd, 1) := by decide +kernel
theorem dX8_puts_42 : decode cX8_puts 42 = .ok (.istore 4, 2) := by decide +kernel
theorem dX8_puts_44 : decode cX8_puts 44 = .ok (.aload_n 0, 1) := by decide +kernel
theorem dX8_puts_45 : decode cX8_puts 45 = .ok (.getfield 16, 3) := by decide +kernel
theorem dX8_puts_48 : decode cX8_puts 48 = .ok (.iload 4, 2) := by decide +kernel
theorem dX8_puts_50 : decode cX8_puts 50 = .ok (.iaload, 1) := by decide +kernel
theorem dX8_puts_51 : decode cX8_puts 51 = .ok (.istore 5, 2) := by decide +kernel
theorem dX8_puts_53 : decode cX8_puts 53 = .ok (.iload_n 2, 1) := by decide +kernel
theorem dX8_puts_54 : decode cX8_puts 54 = .ok (.ifCond .ne 36, 3) := by decide +kernel
theorem dX8_puts_57 : decode cX8_puts 57 = .ok (.iload_n 3, 1) := by decide +kernel
theorem dX8_puts_58 : decode cX8_puts 58 = .ok (.iload 5, 2) := by decide +kernel
theorem dX8_puts_60 : decode cX8_puts 60 = .ok (.if_icmp .le 26, 3) := by decide +kernel
theorem dX8_puts_63 : decode cX8_puts 63 = .ok (.iload_n 3, 1) := by decide +kernel
theorem dX8_puts_64 : decode cX8_puts 64 = .ok (.aload_n 0, 1) := by decide +kernel
theorem dX8_puts_65 : decode cX8_puts 65 = .ok (.getfield 7, 3) := by decide +kernel
theorem dX8_puts_68 : decode cX8_puts 68 = .ok (.iload_n 1, 1) := by decide +kernel
theorem dX8_puts_69 : decode cX8_puts 69 = .ok (.iaload, 1) := by decide +kernel
theorem dX8_puts_70 : decode cX8_puts 70 = .ok (.iadd, 1) := by decide +kernel
theorem dX8_puts_71 : decode cX8_puts 71 = .ok (.aload_n 0, 1) := by decide +kernel
theorem dX8_puts_72 : decode cX8_puts 72 = .ok (.getfield 16, 3) := by decide +kernel
theorem dX8_puts_75 : decode cX8_puts 75 = .ok (.iconst 5, 1) := by decide +kernel
theorem dX8_puts_76 : decode cX8_puts 76 = .ok (.iload_n 1, 1) := by decide +kernel
theorem dX8_puts_77 : decode cX8_puts 77 = .ok (.iadd, 1) := by decide +kernel
theorem dX8_puts_78 : decode cX8_puts 78 = .ok (.iaload, 1) := by decide +kernel
theorem dX8_puts_79 : decode cX8_puts 79 = .ok (.if_icmp .gt 7, 3) := by decide +kernel
theorem dX8_puts_82 : decode cX8_puts 82 = .ok (.iconst 1, 1) := by decide +kernel
theorem dX8_puts_83 : decode cX8_puts 83 = .ok (.goto 37, 3) := by decide +kernel
theorem dX8_puts_86 : decode cX8_puts 86 = .ok (.iconst 0, 1) := by decide +kernel
theorem dX8_puts_87 : decode cX8_puts 87 = .ok (.goto 33, 3) := by decide +kernel
theorem dX8_puts_90 : decode cX8_puts 90 = .ok (.iload_n 3, 1) := by decide +kernel
theorem dX8_puts_91 : decode cX8_puts 91 = .ok (.iload 5, 2) := by decide +kernel
theorem dX8_puts_93 : decode cX8_puts 93 = .ok (.if_icmp .ge 26, 3) := by decide +kernel
theorem dX8_puts_96 : decode cX8_puts 96 = .ok (.aload_n 0, 1) := by decide +kernel
theorem dX8_puts_97 : decode cX8_puts 97 = .ok (.getfield 16, 3) := by decide +kernel
theorem dX8_puts_100 : decode cX8_puts 100 = .ok (.iconst 0, 1) := by decide +kernel
theorem dX8_puts_101 : decode cX8_puts 101 = .ok (.iload_n 1, 1) := by decide +kernel
theorem dX8_puts_102 : decode cX8_puts 102 = .ok (.iadd, 1) := by decide +kernel
theorem dX8_puts_103 : decode cX8_puts 103 = .ok (.iaload, 1) := by decide +kernel
theorem dX8_puts_104 : decode cX8_puts 104 = .ok (.aload_n 0, 1) := by decide +kernel
theorem dX8_puts_105 : decode cX8_puts 105 = .ok (.getfield 7, 3) := by decide +kernel
theorem dX8_puts_108 : decode cX8_puts 108 = .ok (.iload_n 1, 1) := by decide +kernel
theorem dX8_puts_109 : decode cX8_puts 109 = .ok (.iaload, 1) := by decide +kernel
theorem dX8_puts_110 : decode cX8_puts 110 = .ok (.iadd, 1) := by decide +kernel
theorem dX8_puts_111 : decode cX8_puts 111 = .ok (.iload_n 3, 1) := by decide +kernel
theorem dX8_puts_112 : decode cX8_puts 112 = .ok (.if_icmp .gt 7, 3) := by decide +kernel
theorem dX8_puts_115 : decode cX8_puts 115 = .ok (.iconst 1, 1) := by decide +kernel
theorem dX8_puts_116 : decode cX8_puts 116 = .ok (.goto 4, 3) := by decide +kernel
theorem dX8_puts_119 : decode cX8_puts 119 = .ok (.iconst 0, 1) := by decide +kernel
theorem dX8_puts_120 : decode cX8_puts 120 = .ok (.istore 6, 2) := by decide +kernel
theorem dX8_puts_122 : decode cX8_puts 122 = .ok (.aload_n 0, 1) := by decide +kernel
theorem dX8_puts_123 : decode cX8_puts 123 = .ok (.invokevirtual 182, 3) := by decide +kernel
theorem dX8_puts_126 : decode cX8_puts 126 = .ok (.ifCond .ne 8, 3) := by decide +kernel
theorem dX8_puts_129 : decode cX8_puts 129 = .ok (.iload 6, 2) := by decide +kernel
theorem dX8_puts_131 : decode cX8_puts 131 = .ok (.ifCond .ne 6, 3) := by decide +kernel
theorem dX8_puts_134 : decode cX8_puts 134 = .ok (.bipush (-2), 2) := by decide +kernel
theorem dX8_puts_136 : decode cX8_puts 136 = .ok (.ireturn, 1) := by decide +kernel
theorem dX8_puts_137 : decode cX8_puts 137 = .ok (.aload_n 0, 1) := by decide +kernel
theorem dX8_puts_138 : decode cX8_puts 138 = .ok (.invokevirtual 188, 3) := by decide +kernel
theorem dX8_puts_141 : decode cX8_puts 141 = .ok (.aload_n 0, 1) := by decide +kernel
theorem dX8_puts_142 : decode cX8_puts 142 = .ok (.getfield 16, 3) := by decide +kernel
theorem dX8_puts_145 : decode cX8_puts 145 = .ok (.iload 4, 2) := by decide +kernel
theorem dX8_puts_147 : decode cX8_puts 147 = .ok (.iload_n 3, 1) := by decide +kernel
theorem dX8_puts_148 : decode cX8_puts 148 = .ok (.iastore, 1) := by decide +kernel
theorem dX8_puts_149 : decode cX8_puts 149 = .ok (.aload_n 0, 1) := by decide +kernel
theorem dX8_puts_150 : decode cX8_puts 150 = .ok (.getfield 16, 3) := by decide +kernel
theorem dX8_puts_153 : decode cX8_puts 153 = .ok (.bipush 10, 2) := by decide +kernel
theorem dX8_puts_155 : decode cX8_puts 155 = .ok (.iconst 5, 1) := by decide +kernel
theorem dX8_puts_156 : decode cX8_puts 156 = .ok (.iload_n 2, 1) := by decide +kernel
theorem dX8_puts_157 : decode cX8_puts 157 = .ok (.imul, 1) := by decide +kernel
theorem dX8_puts_158 : decode cX8_puts 158 = .ok (.iadd, 1) := by decide +kernel
theorem dX8_puts_159 : decode cX8_puts 159 = .ok (.iload_n 1, 1) := by decide +kernel
theorem dX8_puts_160 : decode cX8_puts 160 = .ok (.iadd, 1) := by decide +kernel
theorem dX8_puts_161 : decode cX8_puts 161 = .ok (.bipush (-9), 2) := by decide +kernel
theorem dX8_puts_163 : decode cX8_puts 163 = .ok (.iastore, 1) := by decide +kernel
theorem dX8_puts_164 : decode cX8_puts 164 = .ok (.aload_n 0, 1) := by decide +kernel
theorem dX8_puts_165 : decode cX8_puts 165 = .ok (.getfield 16, 3) := by decide +kernel
theorem dX8_puts_168 : decode cX8_puts 168 = .ok (.bipush 20, 2) := by decide +kernel
theorem dX8_puts_170 : decode cX8_puts 170 = .ok (.iconst 5, 1) := by decide +kernel
theorem dX8_puts_171 : decode cX8_puts 171 = .ok (.iload_n 2, 1) := by decide +kernel
theorem dX8_puts_172 : decode cX8_puts 172 = .ok (.imul, 1) := by decide +kernel
theorem dX8_puts_173 : decode cX8_puts 173 = .ok (.iadd, 1) := by decide +kernel
theorem dX8_puts_174 : decode cX8_puts 174 = .ok (.iload_n 1, 1) := by decide +kernel
theorem dX8_puts_175 : decode cX8_puts 175 = .ok (.iadd, 1) := by decide +kernel
theorem dX8_puts_176 : decode cX8_puts 176 = .ok (.bipush (-9), 2) := by decide +kernel
theorem dX8_puts_178 : decode cX8_puts 178 = .ok (.iastore, 1) := by decide +kernel
theorem dX8_puts_179 : decode cX8_puts 179 = .ok (.iload 5, 2) := by decide +kernel
theorem dX8_puts_181 : decode cX8_puts 181 = .ok (.ireturn, 1) := by decide +kernel
theorem dX8_undo_0 : decode cX8_undo 0 = .ok (.aload_n 0, 1) := by decide +kernel
theorem dX8_undo_1 : decode cX8_undo 1 = .ok (.getfield 121, 3) := by decide +kernel
theorem dX8_undo_4 : decode cX8_undo 4 = .ok (.ifCond .ne 6, 3) := by decide +kernel
theorem dX8_undo_7 : decode cX8_undo 7 = .ok (.bipush (-2), 2) := by decide +kernel
theorem dX8_undo_9 : decode cX8_undo 9 = .ok (.ireturn, 1) := by decide +kernel
theorem dX8_undo_10 : decode cX8_undo 10 = .ok (.aload_n 0, 1) := by decide +kernel
theorem dX8_undo_11 : decode cX8_undo 11 = .ok (.aload_n 0, 1) := by decide +kernel
theorem dX8_undo_12 : decode cX8_undo 12 = .ok (.getfield 185, 3) := by decide +kernel
theorem dX8_undo_15 : decode cX8_undo 15 = .ok (.bipush 10, 2) := by decide +kernel
theorem dX8_undo_17 : decode cX8_undo 17 = .ok (.iadd, 1) := by decide +kernel
theorem dX8_undo_18 : decode cX8_undo 18 = .ok (.iconst 1, 1) := by decide +kernel
theorem dX8_undo_19 : decode cX8_undo 19 = .ok (.isub, 1) := by decide +kernel
theorem dX8_undo_20 : decode cX8_undo 20 = .ok (.bipush 10, 2) := by decide +kernel
theorem dX8_undo_22 : decode cX8_undo 22 = .ok (.irem, 1) := by decide +kernel
theorem dX8_undo_23 : decode cX8_undo 23 = .ok (.putfield 185, 3) := by decide +kernel
theorem dX8_undo_26 : decode cX8_undo 26 = .ok (.aload_n 0, 1) := by decide +kernel
theorem dX8_undo_27 : decode cX8_undo 27 = .ok (.dup, 1) := by decide +kernel
theorem dX8_undo_28 : decode cX8_undo 28 = .ok (.getfield 121, 3) := by decide +kernel
theorem dX8_undo_31 : decode cX8_undo 31 = .ok (.iconst 1, 1) := by decide +kernel
theorem dX8_undo_32 : decode cX8_undo 32 = .ok (.isub, 1) := by decide +kernel
theorem dX8_undo_33 : decode cX8_undo 33 = .ok (.putfield 121, 3) := by decide +kernel
theorem dX8_undo_36 : decode cX8_undo 36 = .ok (.iconst 0, 1) := by decide +kernel
theorem dX8_undo_37 : decode cX8_undo 37 = .ok (.istore_n 1, 1) := by decide +kernel
theorem dX8_undo_38 : decode cX8_undo 38 = .ok (.iload_n 1, 1) := by decide +kernel
theorem dX8_undo_39 : decode cX8_undo 39 = .ok (.bipush 30, 2) := by decide +kernel
theorem dX8_undo_41 : decode cX8_undo 41 = .ok (.if_icmp .ge 29, 3) := by decide +kernel
theorem dX8_undo_44 : decode cX8_undo 44 = .ok (.aload_n 0, 1) := by decide +kernel
theorem dX8_undo_45 : decode cX8_undo 45 = .ok (.getfield 16, 3) := by decide +kernel
theorem dX8_undo_48 : decode cX8_undo 48 = .ok (.iload_n 1, 1) := by decide +kernel
theorem dX8_undo_49 : decode cX8_undo 49 = .ok (.aload_n 0, 1) := by decide +kernel
theorem dX8_undo_50 : decode cX8_undo 50 = .ok (.getfield 19, 3) := by decide +kernel
theorem dX8_undo_53 : decode cX8_undo 53 = .ok (.bipush 30, 2) := by decide +kernel
theorem dX8_undo_55 : decode cX8_undo 55 = .ok (.aload_n 0, 1) := by decide +kernel
theorem dX8_undo_56 : decode cX8_undo 56 = .ok (.getfield 185, 3) := by decide +kernel
theorem dX8_undo_59 : decode cX8_undo 59 = .ok (.imul, 1) := by decide +kernel
theorem dX8_undo_60 : decode cX8_undo 60 = .ok (.iload_n 1, 1) := by decide +kernel
theorem dX8_undo_61 : decode cX8_undo 61 = .ok (.iadd, 1) := by decide +kernel
theorem dX8_undo_62 : decode cX8_undo 62 = .ok (.iaload, 1) := by decide +kernel
theorem dX8_undo_63 : decode cX8_undo 63 = .ok (.iastore, 1) := by decide +kernel
theorem dX8_undo_64 : decode cX8_undo 64 = .ok (.iinc 1 1, 3) := by decide +kernel
theorem dX8_undo_67 : decode cX8_undo 67 = .ok (.goto (-29), 3) := by decide +kernel
theorem dX8_undo_70 : decode cX8_undo 70 = .ok (.aload_n 0, 1) := by decide +kernel
theorem dX8_undo_71 : decode cX8_undo 71 = .ok (.getfield 121, 3) := by decide +kernel
theorem dX8_undo_74 : decode cX8_undo 74 = .ok (.ireturn, 1) := by decide +kernel
theorem dX8_runs_0 : decode cX8_runs 0 = .ok (.aload_n 0, 1) := by decide +kernel
theorem dX8_runs_1 : decode cX8_runs 1 = .ok (.getfield 50, 3) := by decide +kernel
theorem dX8_runs_4 : decode cX8_runs 4 = .ok (.iload_n 1, 1) := by decide +kernel
theorem dX8_runs_5 : decode cX8_runs 5 = .ok (.iaload, 1) := by decide +kernel
theorem dX8_runs_6 : decode cX8_runs 6 = .ok (.istore_n 3, 1) := by decide +kernel
theorem dX8_runs_7 : decode cX8_runs 7 = .ok (.iload_n 3, 1) := by decide +kernel
theorem dX8_runs_8 : decode cX8_runs 8 = .ok (.aload_n 0, 1) := by decide +kernel
theorem dX8_runs_9 : decode cX8_runs 9 = .ok (.getfield 50, 3) := by decide +kernel
theorem dX8_runs_12 : decode cX8_runs 12 = .ok (.iload_n 1, 1) := by decide +kernel
theorem dX8_runs_13 : decode cX8_runs 13 = .ok (.iaload, 1) := by decide +kernel
theorem dX8_runs_14 : decode cX8_runs 14 = .ok (.aload_n 0, 1) := by decide +kernel
theorem dX8_runs_15 : decode cX8_runs 15 = .ok (.getfield 7, 3) := by decide +kernel
theorem dX8_runs_18 : decode cX8_runs 18 = .ok (.iload_n 1, 1) := by decide +kernel
theorem dX8_runs_19 : decode cX8_runs 19 = .ok (.iaload, 1) := by decide +kernel
theorem dX8_runs_20 : decode cX8_runs 20 = .ok (.iadd, 1) := by decide +kernel
theorem dX8_runs_21 : decode cX8_runs 21 = .ok (.if_icmp .ge 26, 3) := by decide +kernel
theorem dX8_runs_24 : decode cX8_runs 24 = .ok (.aload_n 0, 1) := by decide +kernel
theorem dX8_runs_25 : decode cX8_runs 25 = .ok (.getfield 53, 3) := by decide +kernel
theorem dX8_runs_28 : decode cX8_runs 28 = .ok (.iload_n 3, 1) := by decide +kernel
theorem dX8_runs_29 : decode cX8_runs 29 = .ok (.dup2, 1) := by decide +kernel
theorem dX8_runs_30 : decode cX8_runs 30 = .ok (.iaload, 1) := by decide +kernel
theorem dX8_runs_31 : decode cX8_runs 31 = .ok (.iload_n 2, 1) := by decide +kernel
theorem dX8_runs_32 : decode cX8_runs 32 = .ok (.aload_n 0, 1) := by decide +kernel
theorem dX8_runs_33 : decode cX8_runs 33 = .ok (.getfield 56, 3) := by decide +kernel
theorem dX8_runs_36 : decode cX8_runs 36 = .ok (.iload_n 1, 1) := by decide +kernel
theorem dX8_runs_37 : decode cX8_runs 37 = .ok (.iaload, 1) := by decide +kernel
theorem dX8_runs_38 : decode cX8_runs 38 = .ok (.imul, 1) := by decide +kernel
theorem dX8_runs_39 : decode cX8_runs 39 = .ok (.iadd, 1) := by decide +kernel
theorem dX8_runs_40 : decode cX8_runs 40 = .ok (.iastore, 1) := by decide +kernel
theorem dX8_runs_41 : decode cX8_runs 41 = .ok (.iinc 3 1, 3) := by decide +kernel
theorem dX8_runs_44 : decode cX8_runs 44 = .ok (.goto (-37), 3) := by decide +kernel
theorem dX8_runs_47 : decode cX8_runs 47 = .ok (.return_, 1) := by decide +kernel
theorem dX8_isRoom_0 : decode cX8_isRoom 0 = .ok (.iconst 1, 1) := by decide +kernel
theorem dX8_isRoom_1 : decode cX8_isRoom 1 = .ok (.istore_n 2, 1) := by decide +kernel
theorem dX8_isRoom_2 : decode cX8_isRoom 2 = .ok (.aload_n 0, 1) := by decide +kernel
theorem dX8_isRoom_3 : decode cX8_isRoom 3 = .ok (.getfield 50, 3) := by decide +kernel
theorem dX8_isRoom_6 : decode cX8_isRoom 6 = .ok (.iload_n 1, 1) := by decide +kernel
theorem dX8_isRoom_7 : decode cX8_isRoom 7 = .ok (.iaload, 1) := by decide +kernel
theorem dX8_isRoom_8 : decode cX8_isRoom 8 = .ok (.istore_n 3, 1) := by decide +kernel
theorem dX8_isRoom_9 : decode cX8_isRoom 9 = .ok (.iload_n 3, 1) := by decide +kernel
theorem dX8_isRoom_10 : decode cX8_isRoom 10 = .ok (.aload_n 0, 1) := by decide +kernel
theorem dX8_isRoom_11 : decode cX8_isRoom 11 = .ok (.getfield 50, 3) := by decide +kernel
theorem dX8_isRoom_14 : decode cX8_isRoom 14 = .ok (.iload_n 1, 1) := by decide +kernel
theorem dX8_isRoom_15 : decode cX8_isRoom 15 = .ok (.iaload, 1) := by decide +kernel
theorem dX8_isRoom_16 : decode cX8_isRoom 16 = .ok (.aload_n 0, 1) := by decide +kernel
theorem dX8_isRoom_17 : decode cX8_isRoom 17 = .ok (.getfield 7, 3) := by decide +kernel
theorem dX8_isRoom_20 : decode cX8_isRoom 20 = .ok (.iload_n 1, 1) := by decide +kernel
theorem dX8_isRoom_21 : decode cX8_isRoom 21 = .ok (.iaload, 1) := by decide +kernel
theorem dX8_isRoom_22 : decode cX8_isRoom 22 = .ok (.iadd, 1) := by decide +kernel
theorem dX8_isRoom_23 : decode cX8_isRoom 23 = .ok (.if_icmp .ge 39, 3) := by decide +kernel
theorem dX8_isRoom_26 : decode cX8_isRoom 26 = .ok (.iload_n 2, 1) := by decide +kernel
theorem dX8_isRoom_27 : decode cX8_isRoom 27 = .ok (.ifCond .eq 27, 3) := by decide +kernel
theorem dX8_isRoom_30 : decode cX8_isRoom 30 = .ok (.aload_n 0, 1) := by decide +kernel
theorem dX8_isRoom_31 : decode cX8_isRoom 31 = .ok (.getfield 53, 3) := by decide +kernel
theorem dX8_isRoom_34 : decode cX8_isRoom 34 = .ok (.iload_n 3, 1) := by decide +kernel
theorem dX8_isRoom_35 : decode cX8_isRoom 35 = .ok (.iaload, 1) := by decide +kernel
theorem dX8_isRoom_36 : decode cX8_isRoom 36 = .ok (.aload_n 0, 1) := by decide +kernel
theorem dX8_isRoom_37 : decode cX8_isRoom 37 = .ok (.getfield 56, 3) := by decide +kernel
theorem dX8_isRoom_40 : decode cX8_isRoom 40 = .ok (.iload_n 1, 1) := by decide +kernel
theorem dX8_isRoom_41 : decode cX8_isRoom 41 = .ok (.iaload, 1) := by decide +kernel
theorem dX8_isRoom_42 : decode cX8_isRoom 42 = .ok (.iadd, 1) := by decide +kernel
theorem dX8_isRoom_43 : decode cX8_isRoom 43 = .ok (.aload_n 0, 1) := by decide +kernel
theorem dX8_isRoom_44 : decode cX8_isRoom 44 = .ok (.getfield 59, 3) := by decide +kernel
theorem dX8_isRoom_47 : decode cX8_isRoom 47 = .ok (.if_icmp .gt 7, 3) := by decide +kernel
theorem dX8_isRoom_50 : decode cX8_isRoom 50 = .ok (.iconst 1, 1) := by decide +kernel
theorem dX8_isRoom_51 : decode cX8_isRoom 51 = .ok (.goto 4, 3) := by decide +kernel
theorem dX8_isRoom_54 : decode cX8_isRoom 54 = .ok (.iconst 0, 1) := by decide +kernel
theorem dX8_isRoom_55 : decode cX8_isRoom 55 = .ok (.istore_n 2, 1) := by decide +kernel
theorem dX8_isRoom_56 : decode cX8_isRoom 56 = .ok (.iinc 3 1, 3) := by decide +kernel
theorem dX8_isRoom_59 : decode cX8_isRoom 59 = .ok (.goto (-50), 3) := by decide +kernel
theorem dX8_isRoom_62 : decode cX8_isRoom 62 = .ok (.iload_n 2, 1) := by decide +kernel
theorem dX8_isRoom_63 : decode cX8_isRoom 63 = .ok (.ireturn, 1) := by decide +kernel
theorem dX8_plain_0 : decode cX8_plain 0 = .ok (.iconst 0, 1) := by decide +kernel
theorem dX8_plain_1 : decode cX8_plain 1 = .ok (.istore_n 1, 1) := by decide +kernel
theorem dX8_plain_2 : decode cX8_plain 2 = .ok (.iload_n 1, 1) := by decide +kernel
theorem dX8_plain_3 : decode cX8_plain 3 = .ok (.aload_n 0, 1) := by decide +kernel
theorem dX8_plain_4 : decode cX8_plain 4 = .ok (.getfield 118, 3) := by decide +kernel
theorem dX8_plain_7 : decode cX8_plain 7 = .ok (.if_icmp .ge 21, 3) := by decide +kernel
theorem dX8_plain_10 : decode cX8_plain 10 = .ok (.aload_n 0, 1) := by decide +kernel
theorem dX8_plain_11 : decode cX8_plain 11 = .ok (.getfield 56, 3) := by decide +kernel
theorem dX8_plain_14 : decode cX8_plain 14 = .ok (.iload_n 1, 1) := by decide +kernel
theorem dX8_plain_15 : decode cX8_plain 15 = .ok (.aload_n 0, 1) := by decide +kernel
theorem dX8_plain_16 : decode cX8_plain 16 = .ok (.getfield 13, 3) := by decide +kernel
theorem dX8_plain_19 : decode cX8_plain 19 = .ok (.iload_n 1, 1) := by decide +kernel
theorem dX8_plain_20 : decode cX8_plain 20 = .ok (.iaload, 1) := by decide +kernel
theorem dX8_plain_21 : decode cX8_plain 21 = .ok (.iastore, 1) := by decide +kernel
theorem dX8_plain_22 : decode cX8_plain 22 = .ok (.iinc 1 1, 3) := by decide +kernel
theorem dX8_plain_25 : decode cX8_plain 25 = .ok (.goto (-23), 3) := by decide +kernel
theorem dX8_plain_28 : decode cX8_plain 28 = .ok (.return_, 1) := by decide +kernel
theorem dX8_schedules_0 : decode cX8_schedules 0 = .ok (.iconst 0, 1) := by decide +kernel
theorem dX8_schedules_1 : decode cX8_schedules 1 = .ok (.istore 5, 2) := by decide +kernel
theorem dX8_schedules_3 : decode cX8_schedules 3 = .ok (.iload 5, 2) := by decide +kernel
theorem dX8_schedules_5 : decode cX8_schedules 5 = .ok (.bipush 16, 2) := by decide +kernel
theorem dX8_schedules_7 : decode cX8_schedules 7 = .ok (.if_icmp .ge 17, 3) := by decide +kernel
theorem dX8_schedules_10 : decode cX8_schedules 10 = .ok (.aload_n 0, 1) := by decide +kernel
theorem dX8_schedules_11 : decode cX8_schedules 11 = .ok (.getfield 53, 3) := by decide +kernel
theorem dX8_schedules_14 : decode cX8_schedules 14 = .ok (.iload 5, 2) := by decide +kernel
theorem dX8_schedules_16 : decode cX8_schedules 16 = .ok (.iconst 0, 1) := by decide +kernel
theorem dX8_schedules_17 : decode cX8_schedules 17 = .ok (.iastore, 1) := by decide +kernel
theorem dX8_schedules_18 : decode cX8_schedules 18 = .ok (.iinc 5 1, 3) := by decide +kernel
theorem dX8_schedules_21 : decode cX8_schedules 21 = .ok (.goto (-18), 3) := by decide +kernel
theorem dX8_schedules_24 : decode cX8_schedules 24 = .ok (.aload_n 0, 1) := by decide +kernel
theorem dX8_schedules_25 : decode cX8_schedules 25 = .ok (.getfield 118, 3) := by decide +kernel
theorem dX8_schedules_28 : decode cX8_schedules 28 = .ok (.ifCond .ne 5, 3) := by decide +kernel
theorem dX8_schedules_31 : decode cX8_schedules 31 = .ok (.iconst 1, 1) := by decide +kernel
theorem dX8_schedules_32 : decode cX8_schedules 32 = .ok (.ireturn, 1) := by decide +kernel
theorem dX8_schedules_33 : decode cX8_schedules 33 = .ok (.iconst 0, 1) := by decide +kernel
theorem dX8_schedules_34 : decode cX8_schedules 34 = .ok (.istore 5, 2) := by decide +kernel
theorem dX8_schedules_36 : decode cX8_schedules 36 = .ok (.iconst 0, 1) := by decide +kernel
theorem dX8_schedules_37 : decode cX8_schedules 37 = .ok (.istore 6, 2) := by decide +kernel
theorem dX8_schedules_39 : decode cX8_schedules 39 = .ok (.aload_n 0, 1) := by decide +kernel
theorem dX8_schedules_40 : decode cX8_schedules 40 = .ok (.getfield 50, 3) := by decide +kernel
theorem dX8_schedules_43 : decode cX8_schedules 43 = .ok (.iconst 0, 1) := by decide +kernel
theorem dX8_schedules_44 : decode cX8_schedules 44 = .ok (.aload_n 0, 1) := by decide +kernel
theorem dX8_schedules_45 : decode cX8_schedules 45 = .ok (.getfield 16, 3) := by decide +kernel
theorem dX8_schedules_48 : decode cX8_schedules 48 = .ok (.iconst 0, 1) := by decide +kernel
theorem dX8_schedules_49 : decode cX8_schedules 49 = .ok (.iaload, 1) := by decide +kernel
theorem dX8_schedules_50 : decode cX8_schedules 50 = .ok (.iconst 1, 1) := by decide +kernel
theorem dX8_schedules_51 : decode cX8_schedules 51 = .ok (.isub, 1) := by decide +kernel
theorem dX8_schedules_52 : decode cX8_schedules 52 = .ok (.iastore, 1) := by decide +kernel
theorem dX8_schedules_53 : decode cX8_schedules 53 = .ok (.iload 6, 2) := by decide +kernel
theorem dX8_schedules_55 : decode cX8_schedules 55 = .ok (.ifCond .lt 161, 3) := by decide +kernel
theorem dX8_schedules_58 : decode cX8_schedules 58 = .ok (.aload_n 0, 1) := by decide +kernel
theorem dX8_schedules_59 : decode cX8_schedules 59 = .ok (.getfield 50, 3) := by decide +kernel
theorem dX8_schedules_62 : decode cX8_schedules 62 = .ok (.iload 6, 2) := by decide +kernel
theorem dX8_schedules_64 : decode cX8_schedules 64 = .ok (.dup2, 1) := by decide +kernel
theorem dX8_schedules_65 : decode cX8_schedules 65 = .ok (.iaload, 1) := by decide +kernel
theorem dX8_schedules_66 : decode cX8_schedules 66 = .ok (.iconst 1, 1) := by decide +kernel
theorem dX8_schedules_67 : decode cX8_schedules 67 = .ok (.iadd, 1) := by decide +kernel
theorem dX8_schedules_68 : decode cX8_schedules 68 = .ok (.iastore, 1) := by decide +kernel
theorem dX8_schedules_69 : decode cX8_schedules 69 = .ok (.aload_n 0, 1) := by decide +kernel
theorem dX8_schedules_70 : decode cX8_schedules 70 = .ok (.getfield 16, 3) := by decide +kernel
theorem dX8_schedules_73 : decode cX8_schedules 73 = .ok (.iconst 5, 1) := by decide +kernel
theorem dX8_schedules_74 : decode cX8_schedules 74 = .ok (.iload 6, 2) := by decide +kernel
theorem dX8_schedules_76 : decode cX8_schedules 76 = .ok (.iadd, 1) := by decide +kernel
theorem dX8_schedules_77 : decode cX8_schedules 77 = .ok (.iaload, 1) := by decide +kernel
theorem dX8_schedules_78 : decode cX8_schedules 78 = .ok (.iload_n 2, 1) := by decide +kernel
theorem dX8_schedules_79 : decode cX8_schedules 79 = .ok (.if_icmp .ge 15, 3) := by decide +kernel
theorem dX8_schedules_82 : decode cX8_schedules 82 = .ok (.aload_n 0, 1) := by decide +kernel
theorem dX8_schedules_83 : decode cX8_schedules 83 = .ok (.getfield 16, 3) := by decide +kernel
theorem dX8_schedules_86 : decode cX8_schedules 86 = .ok (.iconst 5, 1) := by decide +kernel
theorem dX8_schedules_87 : decode cX8_schedules 87 = .ok (.iload 6, 2) := by decide +kernel
theorem dX8_schedules_89 : decode cX8_schedules 89 = .ok (.iadd, 1) := by decide +kernel
theorem dX8_schedules_90 : decode cX8_schedules 90 = .ok (.iaload, 1) := by decide +kernel
theorem dX8_schedules_91 : decode cX8_schedules 91 = .ok (.goto 4, 3) := by decide +kernel
theorem dX8_schedules_94 : decode cX8_schedules 94 = .ok (.iload_n 2, 1) := by decide +kernel
theorem dX8_schedules_95 : decode cX8_schedules 95 = .ok (.istore 7, 2) := by decide +kernel
theorem dX8_schedules_97 : decode cX8_schedules 97 = .ok (.aload_n 0, 1) := by decide +kernel
theorem dX8_schedules_98 : decode cX8_schedules 98 = .ok (.getfield 50, 3) := by decide +kernel
theorem dX8_schedules_101 : decode cX8_schedules 101 = .ok (.iload 6, 2) := by decide +kernel
theorem dX8_schedules_103 : decode cX8_schedules 103 = .ok (.iaload, 1) := by decide +kernel
theorem dX8_schedules_104 : decode cX8_schedules 104 = .ok (.aload_n 0, 1) := by decide +kernel
theorem dX8_schedules_105 : decode cX8_schedules 105 = .ok (.getfield 7, 3) := by decide +kernel
theorem dX8_schedules_108 : decode cX8_schedules 108 = .ok (.iload 6, 2) := by decide +kernel
theorem dX8_schedules_110 : decode cX8_schedules 110 = .ok (.iaload, 1) := by decide +kernel
theorem dX8_schedules_111 : decode cX8_schedules 111 = .ok (.iadd, 1) := by decide +kernel
theorem dX8_schedules_112 : decode cX8_schedules 112 = .ok (.iload 7, 2) := by decide +kernel
theorem dX8_schedules_114 : decode cX8_schedules 114 = .ok (.if_icmp .le 21, 3) := by decide +kernel
theorem dX8_schedules_117 : decode cX8_schedules 117 = .ok (.iinc 6 (-1), 3) := by decide +kernel
theorem dX8_schedules_120 : decode cX8_schedules 120 = .ok (.iload 6, 2) := by decide +kernel
theorem dX8_schedules_122 : decode cX8_schedules 122 = .ok (.ifCond .lt 91, 3) := by decide +kernel
theorem dX8_schedules_125 : decode cX8_schedules 125 = .ok (.aload_n 0, 1) := by decide +kernel
theorem dX8_schedules_126 : decode cX8_schedules 126 = .ok (.iload 6, 2) := by decide +kernel
theorem dX8_schedules_128 : decode cX8_schedules 128 = .ok (.iconst (-1), 1) := by decide +kernel
theorem dX8_schedules_129 : decode cX8_schedules 129 = .ok (.invokevirtual 204, 3) := by decide +kernel
theorem dX8_schedules_132 : decode cX8_schedules 132 = .ok (.goto 81, 3) := by decide +kernel
theorem dX8_schedules_135 : decode cX8_schedules 135 = .ok (.iload 6, 2) := by decide +kernel
theorem dX8_schedules_137 : decode cX8_schedules 137 = .ok (.iload_n 3, 1) := by decide +kernel
theorem dX8_schedules_138 : decode cX8_schedules 138 = .ok (.if_icmp .ne 15, 3) := by decide +kernel
theorem dX8_schedules_141 : decode cX8_schedules 141 = .ok (.aload_n 0, 1) := by decide +kernel
theorem dX8_schedules_142 : decode cX8_schedules 142 = .ok (.getfield 50, 3) := by decide +kernel
theorem dX8_schedules_145 : decode cX8_schedules 145 = .ok (.iload 6, 2) := by decide +kernel
theorem dX8_schedules_147 : decode cX8_schedules 147 = .ok (.iaload, 1) := by decide +kernel
theorem dX8_schedules_148 : decode cX8_schedules 148 = .ok (.iload 4, 2) := by decide +kernel
theorem dX8_schedules_150 : decode cX8_schedules 150 = .ok (.if_icmp .ne 63, 3) := by decide +kernel
theorem dX8_schedules_153 : decode cX8_schedules 153 = .ok (.aload_n 0, 1) := by decide +kernel
theorem dX8_schedules_154 : decode cX8_schedules 154 = .ok (.iload 6, 2) := by decide +kernel
theorem dX8_schedules_156 : decode cX8_schedules 156 = .ok (.invokevirtual 207, 3) := by decide +kernel
theorem dX8_schedules_159 : decode cX8_schedules 159 = .ok (.ifCond .eq 54, 3) := by decide +kernel
theorem dX8_schedules_162 : decode cX8_schedules 162 = .ok (.iload 6, 2) := by decide +kernel
theorem dX8_schedules_164 : decode cX8_schedules 164 = .ok (.aload_n 0, 1) := by decide +kernel
theorem dX8_schedules_165 : decode cX8_schedules 165 = .ok (.getfield 118, 3) := by decide +kernel
theorem dX8_schedules_168 : decode cX8_schedules 168 = .ok (.iconst 1, 1) := by decide +kernel
theorem dX8_schedules_169 : decode cX8_schedules 169 = .ok (.isub, 1) := by decide +kernel
theorem dX8_schedules_170 : decode cX8_schedules 170 = .ok (.if_icmp .ne 15, 3) := by decide +kernel
theorem dX8_schedules_173 : decode cX8_schedules 173 = .ok (.iinc 5 1, 3) := by decide +kernel
theorem dX8_schedules_176 : decode cX8_schedules 176 = .ok (.iload 5, 2) := by decide +kernel
theorem dX8_schedules_178 : decode cX8_schedules 178 = .ok (.iload_n 1, 1) := by decide +kernel
theorem dX8_schedules_179 : decode cX8_schedules 179 = .ok (.if_icmp .ne 34, 3) := by decide +kernel
theorem dX8_schedules_182 : decode cX8_schedules 182 = .ok (.iload 5, 2) := by decide +kernel
theorem dX8_schedules_184 : decode cX8_schedules 184 = .ok (.ireturn, 1) := by decide +kernel
theorem dX8_schedules_185 : decode cX8_schedules 185 = .ok (.aload_n 0, 1) := by decide +kernel
theorem dX8_schedules_186 : decode cX8_schedules 186 = .ok (.iload 6, 2) := by decide +kernel
theorem dX8_schedules_188 : decode cX8_schedules 188 = .ok (.iconst 1, 1) := by decide +kernel
theorem dX8_schedules_189 : decode cX8_schedules 189 = .ok (.invokevirtual 204, 3) := by decide +kernel
theorem dX8_schedules_192 : decode cX8_schedules 192 = .ok (.iinc 6 1, 3) := by decide +kernel
theorem dX8_schedules_195 : decode cX8_schedules 195 = .ok (.aload_n 0, 1) := by decide +kernel
theorem dX8_schedules_196 : decode cX8_schedules 196 = .ok (.getfield 50, 3) := by decide +kernel
theorem dX8_schedules_199 : decode cX8_schedules 199 = .ok (.iload 6, 2) := by decide +kernel
theorem dX8_schedules_201 : decode cX8_schedules 201 = .ok (.aload_n 0, 1) := by decide +kernel
theorem dX8_schedules_202 : decode cX8_schedules 202 = .ok (.getfield 16, 3) := by decide +kernel
theorem dX8_schedules_205 : decode cX8_schedules 205 = .ok (.iconst 0, 1) := by decide +kernel
theorem dX8_schedules_206 : decode cX8_schedules 206 = .ok (.iload 6, 2) := by decide +kernel
theorem dX8_schedules_208 : decode cX8_schedules 208 = .ok (.iadd, 1) := by decide +kernel
theorem dX8_schedules_209 : decode cX8_schedules 209 = .ok (.iaload, 1) := by decide +kernel
theorem dX8_schedules_210 : decode cX8_schedules 210 = .ok (.iconst 1, 1) := by decide +kernel
theorem dX8_schedules_211 : decode cX8_schedules 211 = .ok (.isub, 1) := by decide +kernel
theorem dX8_schedules_212 : decode cX8_schedules 212 = .ok (.iastore, 1) := by decide +kernel
theorem dX8_schedules_213 : decode cX8_schedules 213 = .ok (.goto (-160), 3) := by decide +kernel
theorem dX8_schedules_216 : decode cX8_schedules 216 = .ok (.iload 5, 2) := by decide +kernel
theorem dX8_schedules_218 : decode cX8_schedules 218 = .ok (.ireturn, 1) := by decide +kernel
theorem dX8_belong_0 : decode cX8_belong 0 = .ok (.aload_n 0, 1) := by decide +kernel
theorem dX8_belong_1 : decode cX8_belong 1 = .ok (.invokevirtual 210, 3) := by decide +kernel
theorem dX8_belong_4 : decode cX8_belong 4 = .ok (.iconst 0, 1) := by decide +kernel
theorem dX8_belong_5 : decode cX8_belong 5 = .ok (.istore_n 2, 1) := by decide +kernel
theorem dX8_belong_6 : decode cX8_belong 6 = .ok (.aload_n 0, 1) := by decide +kernel
theorem dX8_belong_7 : decode cX8_belong 7 = .ok (.getfield 16, 3) := by decide +kernel
theorem dX8_belong_10 : decode cX8_belong 10 = .ok (.iconst 0, 1) := by decide +kernel
theorem dX8_belong_11 : decode cX8_belong 11 = .ok (.iload_n 1, 1) := by decide +kernel
theorem dX8_belong_12 : decode cX8_belong 12 = .ok (.iadd, 1) := by decide +kernel
theorem dX8_belong_13 : decode cX8_belong 13 = .ok (.iaload, 1) := by decide +kernel
theorem dX8_belong_14 : decode cX8_belong 14 = .ok (.istore_n 3, 1) := by decide +kernel
theorem dX8_belong_15 : decode cX8_belong 15 = .ok (.iload_n 3, 1) := by decide +kernel
theorem dX8_belong_16 : decode cX8_belong 16 = .ok (.aload_n 0, 1) := by decide +kernel
theorem dX8_belong_17 : decode cX8_belong 17 = .ok (.getfield 7, 3) := by decide +kernel
theorem dX8_belong_20 : decode cX8_belong 20 = .ok (.iload_n 1, 1) := by decide +kernel
theorem dX8_belong_21 : decode cX8_belong 21 = .ok (.iaload, 1) := by decide +kernel
theorem dX8_belong_22 : decode cX8_belong 22 = .ok (.iadd, 1) := by decide +kernel
theorem dX8_belong_23 : decode cX8_belong 23 = .ok (.aload_n 0, 1) := by decide +kernel
theorem dX8_belong_24 : decode cX8_belong 24 = .ok (.getfield 16, 3) := by decide +kernel
theorem dX8_belong_27 : decode cX8_belong 27 = .ok (.iconst 5, 1) := by decide +kernel
theorem dX8_belong_28 : decode cX8_belong 28 = .ok (.iload_n 1, 1) := by decide +kernel
theorem dX8_belong_29 : decode cX8_belong 29 = .ok (.iadd, 1) := by decide +kernel
theorem dX8_belong_30 : decode cX8_belong 30 = .ok (.iaload, 1) := by decide +kernel
theorem dX8_belong_31 : decode cX8_belong 31 = .ok (.if_icmp .gt 31, 3) := by decide +kernel
theorem dX8_belong_34 : decode cX8_belong 34 = .ok (.iload_n 2, 1) := by decide +kernel
theorem dX8_belong_35 : decode cX8_belong 35 = .ok (.aload_n 0, 1) := by decide +kernel
theorem dX8_belong_36 : decode cX8_belong 36 = .ok (.iconst 1, 1) := by decide +kernel
theorem dX8_belong_37 : decode cX8_belong 37 = .ok (.bipush 16, 2) := by decide +kernel
theorem dX8_belong_39 : decode cX8_belong 39 = .ok (.iload_n 1, 1) := by decide +kernel
theorem dX8_belong_40 : decode cX8_belong 40 = .ok (.iload_n 3, 1) := by decide +kernel
theorem dX8_belong_41 : decode cX8_belong 41 = .ok (.invokevirtual 213, 3) := by decide +kernel
theorem dX8_belong_44 : decode cX8_belong 44 = .ok (.ifCond .le 9, 3) := by decide +kernel
theorem dX8_belong_47 : decode cX8_belong 47 = .ok (.iconst 1, 1) := by decide +kernel
theorem dX8_belong_48 : decode cX8_belong 48 = .ok (.iload_n 3, 1) := by decide +kernel
theorem dX8_belong_49 : decode cX8_belong 49 = .ok (.ishl, 1) := by decide +kernel
theorem dX8_belong_50 : decode cX8_belong 50 = .ok (.goto 4, 3) := by decide +kernel
theorem dX8_belong_53 : decode cX8_belong 53 = .ok (.iconst 0, 1) := by decide +kernel
theorem dX8_belong_54 : decode cX8_belong 54 = .ok (.ior, 1) := by decide +kernel
theorem dX8_belong_55 : decode cX8_belong 55 = .ok (.istore_n 2, 1) := by decide +kernel
theorem dX8_belong_56 : decode cX8_belong 56 = .ok (.iinc 3 1, 3) := by decide +kernel
theorem dX8_belong_59 : decode cX8_belong 59 = .ok (.goto (-44), 3) := by decide +kernel
theorem dX8_belong_62 : decode cX8_belong 62 = .ok (.iload_n 2, 1) := by decide +kernel
theorem dX8_belong_63 : decode cX8_belong 63 = .ok (.ireturn, 1) := by decide +kernel
theorem dX8_firstOf_0 : decode cX8_firstOf 0 = .ok (.aload_n 0, 1) := by decide +kernel
theorem dX8_firstOf_1 : decode cX8_firstOf 1 = .ok (.invokevirtual 210, 3) := by decide +kernel
theorem dX8_firstOf_4 : decode cX8_firstOf 4 = .ok (.aload_n 0, 1) := by decide +kernel
theorem dX8_firstOf_5 : decode cX8_firstOf 5 = .ok (.iconst 1, 1) := by decide +kernel
theorem dX8_firstOf_6 : decode cX8_firstOf 6 = .ok (.bipush 16, 2) := by decide +kernel
theorem dX8_firstOf_8 : decode cX8_firstOf 8 = .ok (.bipush (-9), 2) := by decide +kernel
theorem dX8_firstOf_10 : decode cX8_firstOf 10 = .ok (.iconst 0, 1) := by decide +kernel
theorem dX8_firstOf_11 : decode cX8_firstOf 11 = .ok (.invokevirtual 213, 3) := by decide +kernel
theorem dX8_firstOf_14 : decode cX8_firstOf 14 = .ok (.ifCond .le 12, 3) := by decide +kernel
theorem dX8_firstOf_17 : decode cX8_firstOf 17 = .ok (.aload_n 0, 1) := by decide +kernel
theorem dX8_firstOf_18 : decode cX8_firstOf 18 = .ok (.getfield 50, 3) := by decide +kernel
theorem dX8_firstOf_21 : decode cX8_firstOf 21 = .ok (.iload_n 1, 1) := by decide +kernel
theorem dX8_firstOf_22 : decode cX8_firstOf 22 = .ok (.iaload, 1) := by decide +kernel
theorem dX8_firstOf_23 : decode cX8_firstOf 23 = .ok (.goto 5, 3) := by decide +kernel
theorem dX8_firstOf_26 : decode cX8_firstOf 26 = .ok (.bipush (-9), 2) := by decide +kernel
theorem dX8_firstOf_28 : decode cX8_firstOf 28 = .ok (.ireturn, 1) := by decide +kernel
theorem dX8_shortest_0 : decode cX8_shortest 0 = .ok (.aload_n 0, 1) := by decide +kernel
theorem dX8_shortest_1 : decode cX8_shortest 1 = .ok (.invokevirtual 210, 3) := by decide +kernel
theorem dX8_shortest_4 : decode cX8_shortest 4 = .ok (.iconst 0, 1) := by decide +kernel
theorem dX8_shortest_5 : decode cX8_shortest 5 = .ok (.istore_n 1, 1) := by decide +kernel
theorem dX8_shortest_6 : decode cX8_shortest 6 = .ok (.iload_n 1, 1) := by decide +kernel
theorem dX8_shortest_7 : decode cX8_shortest 7 = .ok (.bipush 16, 2) := by decide +kernel
theorem dX8_shortest_9 : decode cX8_shortest 9 = .ok (.if_icmp .gt 23, 3) := by decide +kernel
theorem dX8_shortest_12 : decode cX8_shortest 12 = .ok (.aload_n 0, 1) := by decide +kernel
theorem dX8_shortest_13 : decode cX8_shortest 13 = .ok (.iconst 1, 1) := by decide +kernel
theorem dX8_shortest_14 : decode cX8_shortest 14 = .ok (.iload_n 1, 1) := by decide +kernel
theorem dX8_shortest_15 : decode cX8_shortest 15 = .ok (.bipush (-9), 2) := by decide +kernel
theorem dX8_shortest_17 : decode cX8_shortest 17 = .ok (.iconst 0, 1) := by decide +kernel
theorem dX8_shortest_18 : decode cX8_shortest 18 = .ok (.invokevirtual 213, 3) := by decide +kernel
theorem dX8_shortest_21 : decode cX8_shortest 21 = .ok (.ifCond .le 5, 3) := by decide +kernel
theorem dX8_shortest_24 : decode cX8_shortest 24 = .ok (.iload_n 1, 1) := by decide +kernel
theorem dX8_shortest_25 : decode cX8_shortest 25 = .ok (.ireturn, 1) := by decide +kernel
theorem dX8_shortest_26 : decode cX8_shortest 26 = .ok (.iinc 1 1, 3) := by decide +kernel
theorem dX8_shortest_29 : decode cX8_shortest 29 = .ok (.goto (-23), 3) := by decide +kernel
theorem dX8_shortest_32 : decode cX8_shortest 32 = .ok (.bipush (-9), 2) := by decide +kernel
theorem dX8_shortest_34 : decode cX8_shortest 34 = .ok (.ireturn, 1) := by decide +kernel
theorem dX8_task_0 : decode cX8_task 0 = .ok (.aload_n 0, 1) := by decide +kernel
theorem dX8_task_1 : decode cX8_task 1 = .ok (.iload_n 1, 1) := by decide +kernel
theorem dX8_task_2 : decode cX8_task 2 = .ok (.invokevirtual 200, 3) := by decide +kernel
theorem dX8_task_5 : decode cX8_task 5 = .ok (.ifCond .eq 12, 3) := by decide +kernel
theorem dX8_task_8 : decode cX8_task 8 = .ok (.iload_n 2, 1) := by decide +kernel
theorem dX8_task_9 : decode cX8_task 9 = .ok (.iconst 0, 1) := by decide +kernel
theorem dX8_task_10 : decode cX8_task 10 = .ok (.iconst 5, 1) := by decide +kernel
theorem dX8_task_11 : decode cX8_task 11 = .ok (.invokestatic 63, 3) := by decide +kernel
theorem dX8_task_14 : decode cX8_task 14 = .ok (.ifCond .ne 5, 3) := by decide +kernel
theorem dX8_task_17 : decode cX8_task 17 = .ok (.iconst (-1), 1) := by decide +kernel
theorem dX8_task_18 : decode cX8_task 18 = .ok (.ireturn, 1) := by decide +kernel
theorem dX8_task_19 : decode cX8_task 19 = .ok (.iload_n 2, 1) := by decide +kernel
theorem dX8_task_20 : decode cX8_task 20 = .ok (.tableswitch 74 0 4 #[36, 45, 54, 61, 68], 36) := by decide +kernel
theorem dX8_task_56 : decode cX8_task 56 = .ok (.aload_n 0, 1) := by decide +kernel
theorem dX8_task_57 : decode cX8_task 57 = .ok (.getfield 16, 3) := by decide +kernel
theorem dX8_task_60 : decode cX8_task 60 = .ok (.iconst 0, 1) := by decide +kernel
theorem dX8_task_61 : decode cX8_task 61 = .ok (.iload_n 1, 1) := by decide +kernel
theorem dX8_task_62 : decode cX8_task 62 = .ok (.iadd, 1) := by decide +kernel
theorem dX8_task_63 : decode cX8_task 63 = .ok (.iaload, 1) := by decide +kernel
theorem dX8_task_64 : decode cX8_task 64 = .ok (.ireturn, 1) := by decide +kernel
theorem dX8_task_65 : decode cX8_task 65 = .ok (.aload_n 0, 1) := by decide +kernel
theorem dX8_task_66 : decode cX8_task 66 = .ok (.getfield 16, 3) := by decide +kernel
theorem dX8_task_69 : decode cX8_task 69 = .ok (.iconst 5, 1) := by decide +kernel
theorem dX8_task_70 : decode cX8_task 70 = .ok (.iload_n 1, 1) := by decide +kernel
theorem dX8_task_71 : decode cX8_task 71 = .ok (.iadd, 1) := by decide +kernel
theorem dX8_task_72 : decode cX8_task 72 = .ok (.iaload, 1) := by decide +kernel
theorem dX8_task_73 : decode cX8_task 73 = .ok (.ireturn, 1) := by decide +kernel
theorem dX8_task_74 : decode cX8_task 74 = .ok (.aload_n 0, 1) := by decide +kernel
theorem dX8_task_75 : decode cX8_task 75 = .ok (.getfield 7, 3) := by decide +kernel
theorem dX8_task_78 : decode cX8_task 78 = .ok (.iload_n 1, 1) := by decide +kernel
theorem dX8_task_79 : decode cX8_task 79 = .ok (.iaload, 1) := by decide +kernel
theorem dX8_task_80 : decode cX8_task 80 = .ok (.ireturn, 1) := by decide +kernel
theorem dX8_task_81 : decode cX8_task 81 = .ok (.aload_n 0, 1) := by decide +kernel
theorem dX8_task_82 : decode cX8_task 82 = .ok (.getfield 13, 3) := by decide +kernel
theorem dX8_task_85 : decode cX8_task 85 = .ok (.iload_n 1, 1) := by decide +kernel
theorem dX8_task_86 : decode cX8_task 86 = .ok (.iaload, 1) := by decide +kernel
theorem dX8_task_87 : decode cX8_task 87 = .ok (.ireturn, 1) := by decide +kernel
theorem dX8_task_88 : decode cX8_task 88 = .ok (.aload_n 0, 1) := by decide +kernel
theorem dX8_task_89 : decode cX8_task 89 = .ok (.iload_n 1, 1) := by decide +kernel
theorem dX8_task_90 : decode cX8_task 90 = .ok (.invokevirtual 217, 3) := by decide +kernel
theorem dX8_task_93 : decode cX8_task 93 = .ok (.ireturn, 1) := by decide +kernel
theorem dX8_task_94 : decode cX8_task 94 = .ok (.aload_n 0, 1) := by decide +kernel
theorem dX8_task_95 : decode cX8_task 95 = .ok (.iload_n 1, 1) := by decide +kernel
theorem dX8_task_96 : decode cX8_task 96 = .ok (.invokevirtual 220, 3) := by decide +kernel
theorem dX8_task_99 : decode cX8_task 99 = .ok (.ireturn, 1) := by decide +kernel
theorem dX8_why_0 : decode cX8_why 0 = .ok (.aload_n 0, 1) := by decide +kernel
theorem dX8_why_1 : decode cX8_why 1 = .ok (.iload_n 1, 1) := by decide +kernel
theorem dX8_why_2 : decode cX8_why 2 = .ok (.invokevirtual 200, 3) := by decide +kernel
theorem dX8_why_5 : decode cX8_why 5 = .ok (.ifCond .eq 21, 3) := by decide +kernel
theorem dX8_why_8 : decode cX8_why 8 = .ok (.iload_n 2, 1) := by decide +kernel
theorem dX8_why_9 : decode cX8_why 9 = .ok (.iconst 0, 1) := by decide +kernel
theorem dX8_why_10 : decode cX8_why 10 = .ok (.iconst 1, 1) := by decide +kernel
theorem dX8_why_11 : decode cX8_why 11 = .ok (.invokestatic 63, 3) := by decide +kernel
theorem dX8_why_14 : decode cX8_why 14 = .ok (.ifCond .eq 12, 3) := by decide +kernel
theorem dX8_why_17 : decode cX8_why 17 = .ok (.iload_n 3, 1) := by decide +kernel
theorem dX8_why_18 : decode cX8_why 18 = .ok (.iconst 0, 1) := by decide +kernel
theorem dX8_why_19 : decode cX8_why 19 = .ok (.iconst 1, 1) := by decide +kernel
theorem dX8_why_20 : decode cX8_why 20 = .ok (.invokestatic 63, 3) := by decide +kernel
theorem dX8_why_23 : decode cX8_why 23 = .ok (.ifCond .ne 5, 3) := by decide +kernel
theorem dX8_why_26 : decode cX8_why 26 = .ok (.iconst (-1), 1) := by decide +kernel
theorem dX8_why_27 : decode cX8_why 27 = .ok (.ireturn, 1) := by decide +kernel
theorem dX8_why_28 : decode cX8_why 28 = .ok (.aload_n 0, 1) := by decide +kernel
theorem dX8_why_29 : decode cX8_why 29 = .ok (.getfield 16, 3) := by decide +kernel
theorem dX8_why_32 : decode cX8_why 32 = .ok (.iload_n 3, 1) := by decide +kernel
theorem dX8_why_33 : decode cX8_why 33 = .ok (.ifCond .ne 8, 3) := by decide +kernel
theorem dX8_why_36 : decode cX8_why 36 = .ok (.bipush 10, 2) := by decide +kernel
theorem dX8_why_38 : decode cX8_why 38 = .ok (.goto 5, 3) := by decide +kernel
theorem dX8_why_41 : decode cX8_why 41 = .ok (.bipush 20, 2) := by decide +kernel
theorem dX8_why_43 : decode cX8_why 43 = .ok (.iconst 5, 1) := by decide +kernel
theorem dX8_why_44 : decode cX8_why 44 = .ok (.iload_n 2, 1) := by decide +kernel
theorem dX8_why_45 : decode cX8_why 45 = .ok (.imul, 1) := by decide +kernel
theorem dX8_why_46 : decode cX8_why 46 = .ok (.iadd, 1) := by decide +kernel
theorem dX8_why_47 : decode cX8_why 47 = .ok (.iload_n 1, 1) := by decide +kernel
theorem dX8_why_48 : decode cX8_why 48 = .ok (.iadd, 1) := by decide +kernel
theorem dX8_why_49 : decode cX8_why 49 = .ok (.iaload, 1) := by decide +kernel
theorem dX8_why_50 : decode cX8_why 50 = .ok (.ireturn, 1) := by decide +kernel
theorem dX8_asIs_0 : decode cX8_asIs 0 = .ok (.iconst 0, 1) := by decide +kernel
theorem dX8_asIs_1 : decode cX8_asIs 1 = .ok (.istore_n 1, 1) := by decide +kernel
theorem dX8_asIs_2 : decode cX8_asIs 2 = .ok (.iload_n 1, 1) := by decide +kernel
theorem dX8_asIs_3 : decode cX8_asIs 3 = .ok (.aload_n 0, 1) := by decide +kernel
theorem dX8_asIs_4 : decode cX8_asIs 4 = .ok (.getfield 118, 3) := by decide +kernel
theorem dX8_asIs_7 : decode cX8_asIs 7 = .ok (.if_icmp .ge 37, 3) := by decide +kernel
theorem dX8_asIs_10 : decode cX8_asIs 10 = .ok (.aload_n 0, 1) := by decide +kernel
theorem dX8_asIs_11 : decode cX8_asIs 11 = .ok (.getfield 35, 3) := by decide +kernel
theorem dX8_asIs_14 : decode cX8_asIs 14 = .ok (.iload_n 1, 1) := by decide +kernel
theorem dX8_asIs_15 : decode cX8_asIs 15 = .ok (.aload_n 0, 1) := by decide +kernel
theorem dX8_asIs_16 : decode cX8_asIs 16 = .ok (.getfield 16, 3) := by decide +kernel
theorem dX8_asIs_19 : decode cX8_asIs 19 = .ok (.iconst 0, 1) := by decide +kernel
theorem dX8_asIs_20 : decode cX8_asIs 20 = .ok (.iload_n 1, 1) := by decide +kernel
theorem dX8_asIs_21 : decode cX8_asIs 21 = .ok (.iadd, 1) := by decide +kernel
theorem dX8_asIs_22 : decode cX8_asIs 22 = .ok (.iaload, 1) := by decide +kernel
theorem dX8_asIs_23 : decode cX8_asIs 23 = .ok (.iastore, 1) := by decide +kernel
theorem dX8_asIs_24 : decode cX8_asIs 24 = .ok (.aload_n 0, 1) := by decide +kernel
theorem dX8_asIs_25 : decode cX8_asIs 25 = .ok (.getfield 38, 3) := by decide +kernel
theorem dX8_asIs_28 : decode cX8_asIs 28 = .ok (.iload_n 1, 1) := by decide +kernel
theorem dX8_asIs_29 : decode cX8_asIs 29 = .ok (.aload_n 0, 1) := by decide +kernel
theorem dX8_asIs_30 : decode cX8_asIs 30 = .ok (.getfield 16, 3) := by decide +kernel
theorem dX8_asIs_33 : decode cX8_asIs 33 = .ok (.iconst 5, 1) := by decide +kernel
theorem dX8_asIs_34 : decode cX8_asIs 34 = .ok (.iload_n 1, 1) := by decide +kernel
theorem dX8_asIs_35 : decode cX8_asIs 35 = .ok (.iadd, 1) := by decide +kernel
theorem dX8_asIs_36 : decode cX8_asIs 36 = .ok (.iaload, 1) := by decide +kernel
theorem dX8_asIs_37 : decode cX8_asIs 37 = .ok (.iastore, 1) := by decide +kernel
theorem dX8_asIs_38 : decode cX8_asIs 38 = .ok (.iinc 1 1, 3) := by decide +kernel
theorem dX8_asIs_41 : decode cX8_asIs 41 = .ok (.goto (-39), 3) := by decide +kernel
theorem dX8_asIs_44 : decode cX8_asIs 44 = .ok (.return_, 1) := by decide +kernel
theorem dX8_must_0 : decode cX8_must 0 = .ok (.iload_n 1, 1) := by decide +kernel
theorem dX8_must_1 : decode cX8_must 1 = .ok (.iconst 0, 1) := by decide +kernel
theorem dX8_must_2 : decode cX8_must 2 = .ok (.bipush 15, 2) := by decide +kernel
theorem dX8_must_4 : decode cX8_must 4 = .ok (.invokestatic 63, 3) := by decide +kernel
theorem dX8_must_7 : decode cX8_must 7 = .ok (.ifCond .ne 5, 3) := by decide +kernel
theorem dX8_must_10 : decode cX8_must 10 = .ok (.iconst (-1), 1) := by decide +kernel
theorem dX8_must_11 : decode cX8_must 11 = .ok (.ireturn, 1) := by decide +kernel
theorem dX8_must_12 : decode cX8_must 12 = .ok (.aload_n 0, 1) := by decide +kernel
theorem dX8_must_13 : decode cX8_must 13 = .ok (.invokevirtual 223, 3) := by decide +kernel
theorem dX8_must_16 : decode cX8_must 16 = .ok (.iconst 0, 1) := by decide +kernel
theorem dX8_must_17 : decode cX8_must 17 = .ok (.istore_n 2, 1) := by decide +kernel
theorem dX8_must_18 : decode cX8_must 18 = .ok (.iconst 0, 1) := by decide +kernel
theorem dX8_must_19 : decode cX8_must 19 = .ok (.istore_n 3, 1) := by decide +kernel
theorem dX8_must_20 : decode cX8_must 20 = .ok (.iload_n 3, 1) := by decide +kernel
theorem dX8_must_21 : decode cX8_must 21 = .ok (.aload_n 0, 1) := by decide +kernel
theorem dX8_must_22 : decode cX8_must 22 = .ok (.getfield 118, 3) := by decide +kernel
theorem dX8_must_25 : decode cX8_must 25 = .ok (.if_icmp .ge 40, 3) := by decide +kernel
theorem dX8_must_28 : decode cX8_must 28 = .ok (.iload_n 2, 1) := by decide +kernel
theorem dX8_must_29 : decode cX8_must 29 = .ok (.aload_n 0, 1) := by decide +kernel
theorem dX8_must_30 : decode cX8_must 30 = .ok (.iload_n 3, 1) := by decide +kernel
theorem dX8_must_31 : decode cX8_must 31 = .ok (.invokevirtual 131, 3) := by decide +kernel
theorem dX8_must_34 : decode cX8_must 34 = .ok (.iload_n 1, 1) := by decide +kernel
theorem dX8_must_35 : decode cX8_must 35 = .ok (.if_icmp .gt 21, 3) := by decide +kernel
theorem dX8_must_38 : decode cX8_must 38 = .ok (.iload_n 1, 1) := by decide +kernel
theorem dX8_must_39 : decode cX8_must 39 = .ok (.aload_n 0, 1) := by decide +kernel
theorem dX8_must_40 : decode cX8_must 40 = .ok (.iload_n 3, 1) := by decide +kernel
theorem dX8_must_41 : decode cX8_must 41 = .ok (.invokevirtual 127, 3) := by decide +kernel
theorem dX8_must_44 : decode cX8_must 44 = .ok (.if_icmp .ge 12, 3) := by decide +kernel
theorem dX8_must_47 : decode cX8_must 47 = .ok (.aload_n 0, 1) := by decide +kernel
theorem dX8_must_48 : decode cX8_must 48 = .ok (.getfield 13, 3) := by decide +kernel
theorem dX8_must_51 : decode cX8_must 51 = .ok (.iload_n 3, 1) := by decide +kernel
theorem dX8_must_52 : decode cX8_must 52 = .ok (.iaload, 1) := by decide +kernel
theorem dX8_must_53 : decode cX8_must 53 = .ok (.goto 4, 3) := by decide +kernel
theorem dX8_must_56 : decode cX8_must 56 = .ok (.iconst 0, 1) := by decide +kernel
theorem dX8_must_57 : decode cX8_must 57 = .ok (.iadd, 1) := by decide +kernel
theorem dX8_must_58 : decode cX8_must 58 = .ok (.istore_n 2, 1) := by decide +kernel
theorem dX8_must_59 : decode cX8_must 59 = .ok (.iinc 3 1, 3) := by decide +kernel
theorem dX8_must_62 : decode cX8_must 62 = .ok (.goto (-42), 3) := by decide +kernel
theorem dX8_must_65 : decode cX8_must 65 = .ok (.iload_n 2, 1) := by decide +kernel
theorem dX8_must_66 : decode cX8_must 66 = .ok (.ireturn, 1) := by decide +kernel
theorem dX8_wrapOf_0 : decode cX8_wrapOf 0 = .ok (.iconst (-1), 1) := by decide +kernel
theorem dX8_wrapOf_1 : decode cX8_wrapOf 1 = .ok (.istore_n 2, 1) := by decide +kernel
theorem dX8_wrapOf_2 : decode cX8_wrapOf 2 = .ok (.iload_n 1, 1) := by decide +kernel
theorem dX8_wrapOf_3 : decode cX8_wrapOf 3 = .ok (.istore_n 3, 1) := by decide +kernel
theorem dX8_wrapOf_4 : decode cX8_wrapOf 4 = .ok (.iload_n 3, 1) := by decide +kernel
theorem dX8_wrapOf_5 : decode cX8_wrapOf 5 = .ok (.ifCond .le 43, 3) := by decide +kernel
theorem dX8_wrapOf_8 : decode cX8_wrapOf 8 = .ok (.aload_n 0, 1) := by decide +kernel
theorem dX8_wrapOf_9 : decode cX8_wrapOf 9 = .ok (.getfield 59, 3) := by decide +kernel
theorem dX8_wrapOf_12 : decode cX8_wrapOf 12 = .ok (.aload_n 0, 1) := by decide +kernel
theorem dX8_wrapOf_13 : decode cX8_wrapOf 13 = .ok (.iload_n 3, 1) := by decide +kernel
theorem dX8_wrapOf_14 : decode cX8_wrapOf 14 = .ok (.invokevirtual 145, 3) := by decide +kernel
theorem dX8_wrapOf_17 : decode cX8_wrapOf 17 = .ok (.imul, 1) := by decide +kernel
theorem dX8_wrapOf_18 : decode cX8_wrapOf 18 = .ok (.aload_n 0, 1) := by decide +kernel
theorem dX8_wrapOf_19 : decode cX8_wrapOf 19 = .ok (.iload_n 3, 1) := by decide +kernel
theorem dX8_wrapOf_20 : decode cX8_wrapOf 20 = .ok (.invokevirtual 148, 3) := by decide +kernel
theorem dX8_wrapOf_23 : decode cX8_wrapOf 23 = .ok (.iadd, 1) := by decide +kernel
theorem dX8_wrapOf_24 : decode cX8_wrapOf 24 = .ok (.istore 4, 2) := by decide +kernel
theorem dX8_wrapOf_26 : decode cX8_wrapOf 26 = .ok (.iload 4, 2) := by decide +kernel
theorem dX8_wrapOf_28 : decode cX8_wrapOf 28 = .ok (.iload_n 2, 1) := by decide +kernel
theorem dX8_wrapOf_29 : decode cX8_wrapOf 29 = .ok (.if_icmp .le 8, 3) := by decide +kernel
theorem dX8_wrapOf_32 : decode cX8_wrapOf 32 = .ok (.iload 4, 2) := by decide +kernel
theorem dX8_wrapOf_34 : decode cX8_wrapOf 34 = .ok (.goto 4, 3) := by decide +kernel
theorem dX8_wrapOf_37 : decode cX8_wrapOf 37 = .ok (.iload_n 2, 1) := by decide +kernel
theorem dX8_wrapOf_38 : decode cX8_wrapOf 38 = .ok (.istore_n 2, 1) := by decide +kernel
theorem dX8_wrapOf_39 : decode cX8_wrapOf 39 = .ok (.iload_n 3, 1) := by decide +kernel
theorem dX8_wrapOf_40 : decode cX8_wrapOf 40 = .ok (.iconst 1, 1) := by decide +kernel
theorem dX8_wrapOf_41 : decode cX8_wrapOf 41 = .ok (.isub, 1) := by decide +kernel
theorem dX8_wrapOf_42 : decode cX8_wrapOf 42 = .ok (.iload_n 1, 1) := by decide +kernel
theorem dX8_wrapOf_43 : decode cX8_wrapOf 43 = .ok (.iand, 1) := by decide +kernel
theorem dX8_wrapOf_44 : decode cX8_wrapOf 44 = .ok (.istore_n 3, 1) := by decide +kernel
theorem dX8_wrapOf_45 : decode cX8_wrapOf 45 = .ok (.goto (-41), 3) := by decide +kernel
theorem dX8_wrapOf_48 : decode cX8_wrapOf 48 = .ok (.iload_n 2, 1) := by decide +kernel
theorem dX8_wrapOf_49 : decode cX8_wrapOf 49 = .ok (.ireturn, 1) := by decide +kernel
theorem dX8_wrap_0 : decode cX8_wrap 0 = .ok (.iload_n 1, 1) := by decide +kernel
theorem dX8_wrap_1 : decode cX8_wrap 1 = .ok (.iconst 1, 1) := by decide +kernel
theorem dX8_wrap_2 : decode cX8_wrap 2 = .ok (.aload_n 0, 1) := by decide +kernel
theorem dX8_wrap_3 : decode cX8_wrap 3 = .ok (.invokevirtual 141, 3) := by decide +kernel
theorem dX8_wrap_6 : decode cX8_wrap 6 = .ok (.invokestatic 63, 3) := by decide +kernel
theorem dX8_wrap_9 : decode cX8_wrap 9 = .ok (.ifCond .ne 5, 3) := by decide +kernel
theorem dX8_wrap_12 : decode cX8_wrap 12 = .ok (.iconst (-1), 1) := by decide +kernel
theorem dX8_wrap_13 : decode cX8_wrap 13 = .ok (.ireturn, 1) := by decide +kernel
theorem dX8_wrap_14 : decode cX8_wrap 14 = .ok (.aload_n 0, 1) := by decide +kernel
theorem dX8_wrap_15 : decode cX8_wrap 15 = .ok (.invokevirtual 223, 3) := by decide +kernel
theorem dX8_wrap_18 : decode cX8_wrap 18 = .ok (.aload_n 0, 1) := by decide +kernel
theorem dX8_wrap_19 : decode cX8_wrap 19 = .ok (.iload_n 1, 1) := by decide +kernel
theorem dX8_wrap_20 : decode cX8_wrap 20 = .ok (.invokevirtual 226, 3) := by decide +kernel
theorem dX8_wrap_23 : decode cX8_wrap 23 = .ok (.ireturn, 1) := by decide +kernel
theorem dX8_grey_0 : decode cX8_grey 0 = .ok (.iload_n 1, 1) := by decide +kernel
theorem dX8_grey_1 : decode cX8_grey 1 = .ok (.iconst 0, 1) := by decide +kernel
theorem dX8_grey_2 : decode cX8_grey 2 = .ok (.aload_n 0, 1) := by decide +kernel
theorem dX8_grey_3 : decode cX8_grey 3 = .ok (.invokevirtual 141, 3) := by decide +kernel
theorem dX8_grey_6 : decode cX8_grey 6 = .ok (.invokestatic 63, 3) := by decide +kernel
theorem dX8_grey_9 : decode cX8_grey 9 = .ok (.ifCond .eq 30, 3) := by decide +kernel
theorem dX8_grey_12 : decode cX8_grey 12 = .ok (.iload_n 2, 1) := by decide +kernel
theorem dX8_grey_13 : decode cX8_grey 13 = .ok (.iconst 1, 1) := by decide +kernel
theorem dX8_grey_14 : decode cX8_grey 14 = .ok (.aload_n 0, 1) := by decide +kernel
theorem dX8_grey_15 : decode cX8_grey 15 = .ok (.invokevirtual 141, 3) := by decide +kernel
theorem dX8_grey_18 : decode cX8_grey 18 = .ok (.invokestatic 63, 3) := by decide +kernel
theorem dX8_grey_21 : decode cX8_grey 21 = .ok (.ifCond .eq 18, 3) := by decide +kernel
theorem dX8_grey_24 : decode cX8_grey 24 = .ok (.iload_n 1, 1) := by decide +kernel
theorem dX8_grey_25 : decode cX8_grey 25 = .ok (.iload_n 2, 1) := by decide +kernel
theorem dX8_grey_26 : decode cX8_grey 26 = .ok (.iand, 1) := by decide +kernel
theorem dX8_grey_27 : decode cX8_grey 27 = .ok (.ifCond .ne 12, 3) := by decide +kernel
theorem dX8_grey_30 : decode cX8_grey 30 = .ok (.iload_n 3, 1) := by decide +kernel
theorem dX8_grey_31 : decode cX8_grey 31 = .ok (.iconst 0, 1) := by decide +kernel
theorem dX8_grey_32 : decode cX8_grey 32 = .ok (.iconst 1, 1) := by decide +kernel
theorem dX8_grey_33 : decode cX8_grey 33 = .ok (.invokestatic 63, 3) := by decide +kernel
theorem dX8_grey_36 : decode cX8_grey 36 = .ok (.ifCond .ne 5, 3) := by decide +kernel
theorem dX8_grey_39 : decode cX8_grey 39 = .ok (.iconst (-1), 1) := by decide +kernel
theorem dX8_grey_40 : decode cX8_grey 40 = .ok (.ireturn, 1) := by decide +kernel
theorem dX8_grey_41 : decode cX8_grey 41 = .ok (.aload_n 0, 1) := by decide +kernel
theorem dX8_grey_42 : decode cX8_grey 42 = .ok (.invokevirtual 223, 3) := by decide +kernel
theorem dX8_grey_45 : decode cX8_grey 45 = .ok (.bipush (-9), 2) := by decide +kernel
theorem dX8_grey_47 : decode cX8_grey 47 = .ok (.istore 4, 2) := by decide +kernel
theorem dX8_grey_49 : decode cX8_grey 49 = .ok (.iconst (-1), 1) := by decide +kernel
theorem dX8_grey_50 : decode cX8_grey 50 = .ok (.istore 5, 2) := by decide +kernel
theorem dX8_grey_52 : decode cX8_grey 52 = .ok (.iconst 0, 1) := by decide +kernel
theorem dX8_grey_53 : decode cX8_grey 53 = .ok (.istore 6, 2) := by decide +kernel
theorem dX8_grey_55 : decode cX8_grey 55 = .ok (.iload 6, 2) := by decide +kernel
theorem dX8_grey_57 : decode cX8_grey 57 = .ok (.aload_n 0, 1) := by decide +kernel
theorem dX8_grey_58 : decode cX8_grey 58 = .ok (.getfield 118, 3) := by decide +kernel
theorem dX8_grey_61 : decode cX8_grey 61 = .ok (.if_icmp .ge 66, 3) := by decide +kernel
theorem dX8_grey_64 : decode cX8_grey 64 = .ok (.iload_n 2, 1) := by decide +kernel
theorem dX8_grey_65 : decode cX8_grey 65 = .ok (.iload 6, 2) := by decide +kernel
theorem dX8_grey_67 : decode cX8_grey 67 = .ok (.invokestatic 124, 3) := by decide +kernel
theorem dX8_grey_70 : decode cX8_grey 70 = .ok (.ifCond .eq 16, 3) := by decide +kernel
theorem dX8_grey_73 : decode cX8_grey 73 = .ok (.aload_n 0, 1) := by decide +kernel
theorem dX8_grey_74 : decode cX8_grey 74 = .ok (.iload_n 1, 1) := by decide +kernel
theorem dX8_grey_75 : decode cX8_grey 75 = .ok (.iconst 1, 1) := by decide +kernel
theorem dX8_grey_76 : decode cX8_grey 76 = .ok (.iload 6, 2) := by decide +kernel
theorem dX8_grey_78 : decode cX8_grey 78 = .ok (.ishl, 1) := by decide +kernel
theorem dX8_grey_79 : decode cX8_grey 79 = .ok (.ior, 1) := by decide +kernel
theorem dX8_grey_80 : decode cX8_grey 80 = .ok (.invokevirtual 226, 3) := by decide +kernel
theorem dX8_grey_83 : decode cX8_grey 83 = .ok (.goto 4, 3) := by decide +kernel
theorem dX8_grey_86 : decode cX8_grey 86 = .ok (.iconst (-1), 1) := by decide +kernel
theorem dX8_grey_87 : decode cX8_grey 87 = .ok (.istore 7, 2) := by decide +kernel
theorem dX8_grey_89 : decode cX8_grey 89 = .ok (.iload 7, 2) := by decide +kernel
theorem dX8_grey_91 : decode cX8_grey 91 = .ok (.iload 5, 2) := by decide +kernel
theorem dX8_grey_93 : decode cX8_grey 93 = .ok (.if_icmp .le 8, 3) := by decide +kernel
theorem dX8_grey_96 : decode cX8_grey 96 = .ok (.iload 6, 2) := by decide +kernel
theorem dX8_grey_98 : decode cX8_grey 98 = .ok (.goto 5, 3) := by decide +kernel
theorem dX8_grey_101 : decode cX8_grey 101 = .ok (.iload 4, 2) := by decide +kernel
theorem dX8_grey_103 : decode cX8_grey 103 = .ok (.istore 4, 2) := by decide +kernel
theorem dX8_grey_105 : decode cX8_grey 105 = .ok (.iload 7, 2) := by decide +kernel
theorem dX8_grey_107 : decode cX8_grey 107 = .ok (.iload 5, 2) := by decide +kernel
theorem dX8_grey_109 : decode cX8_grey 109 = .ok (.if_icmp .le 8, 3) := by decide +kernel
theorem dX8_grey_112 : decode cX8_grey 112 = .ok (.iload 7, 2) := by decide +kernel
theorem dX8_grey_114 : decode cX8_grey 114 = .ok (.goto 5, 3) := by decide +kernel
theorem dX8_grey_117 : decode cX8_grey 117 = .ok (.iload 5, 2) := by decide +kernel
theorem dX8_grey_119 : decode cX8_grey 119 = .ok (.istore 5, 2) := by decide +kernel
theorem dX8_grey_121 : decode cX8_grey 121 = .ok (.iinc 6 1, 3) := by decide +kernel
theorem dX8_grey_124 : decode cX8_grey 124 = .ok (.goto (-69), 3) := by decide +kernel
theorem dX8_grey_127 : decode cX8_grey 127 = .ok (.iload_n 3, 1) := by decide +kernel
theorem dX8_grey_128 : decode cX8_grey 128 = .ok (.ifCond .ne 8, 3) := by decide +kernel
theorem dX8_grey_131 : decode cX8_grey 131 = .ok (.iload 5, 2) := by decide +kernel
theorem dX8_grey_133 : decode cX8_grey 133 = .ok (.goto 5, 3) := by decide +kernel
theorem dX8_grey_136 : decode cX8_grey 136 = .ok (.iload 4, 2) := by decide +kernel
theorem dX8_grey_138 : decode cX8_grey 138 = .ok (.ireturn, 1) := by decide +kernel
theorem dX8_heavy_0 : decode cX8_heavy 0 = .ok (.aload_n 0, 1) := by decide +kernel
theorem dX8_heavy_1 : decode cX8_heavy 1 = .ok (.invokevirtual 223, 3) := by decide +kernel
theorem dX8_heavy_4 : decode cX8_heavy 4 = .ok (.bipush (-9), 2) := by decide +kernel
theorem dX8_heavy_6 : decode cX8_heavy 6 = .ok (.istore_n 1, 1) := by decide +kernel
theorem dX8_heavy_7 : decode cX8_heavy 7 = .ok (.iconst 0, 1) := by decide +kernel
theorem dX8_heavy_8 : decode cX8_heavy 8 = .ok (.istore_n 2, 1) := by decide +kernel
theorem dX8_heavy_9 : decode cX8_heavy 9 = .ok (.iconst 0, 1) := by decide +kernel
theorem dX8_heavy_10 : decode cX8_heavy 10 = .ok (.istore_n 3, 1) := by decide +kernel
theorem dX8_heavy_11 : decode cX8_heavy 11 = .ok (.iload_n 3, 1) := by decide +kernel
theorem dX8_heavy_12 : decode cX8_heavy 12 = .ok (.bipush 16, 2) := by decide +kernel
theorem dX8_heavy_14 : decode cX8_heavy 14 = .ok (.if_icmp .ge 102, 3) := by decide +kernel
theorem dX8_heavy_17 : decode cX8_heavy 17 = .ok (.iload_n 3, 1) := by decide +kernel
theorem dX8_heavy_18 : decode cX8_heavy 18 = .ok (.iconst 1, 1) := by decide +kernel
theorem dX8_heavy_19 : decode cX8_heavy 19 = .ok (.iadd, 1) := by decide +kernel
theorem dX8_heavy_20 : decode cX8_heavy 20 = .ok (.istore 4, 2) := by decide +kernel
theorem dX8_heavy_22 : decode cX8_heavy 22 = .ok (.iload 4, 2) := by decide +kernel
theorem dX8_heavy_24 : decode cX8_heavy 24 = .ok (.bipush 16, 2) := by decide +kernel
theorem dX8_heavy_26 : decode cX8_heavy 26 = .ok (.if_icmp .gt 84, 3) := by decide +kernel
theorem dX8_heavy_29 : decode cX8_heavy 29 = .ok (.aload_n 0, 1) := by decide +kernel
theorem dX8_heavy_30 : decode cX8_heavy 30 = .ok (.getfield 59, 3) := by decide +kernel
theorem dX8_heavy_33 : decode cX8_heavy 33 = .ok (.ineg, 1) := by decide +kernel
theorem dX8_heavy_34 : decode cX8_heavy 34 = .ok (.iload 4, 2) := by decide +kernel
theorem dX8_heavy_36 : decode cX8_heavy 36 = .ok (.iload_n 3, 1) := by decide +kernel
theorem dX8_heavy_37 : decode cX8_heavy 37 = .ok (.isub, 1) := by decide +kernel
theorem dX8_heavy_38 : decode cX8_heavy 38 = .ok (.imul, 1) := by decide +kernel
theorem dX8_heavy_39 : decode cX8_heavy 39 = .ok (.istore 5, 2) := by decide +kernel
theorem dX8_heavy_41 : decode cX8_heavy 41 = .ok (.iconst 0, 1) := by decide +kernel
theorem dX8_heavy_42 : decode cX8_heavy 42 = .ok (.istore 6, 2) := by decide +kernel
theorem dX8_heavy_44 : decode cX8_heavy 44 = .ok (.iload 6, 2) := by decide +kernel
theorem dX8_heavy_46 : decode cX8_heavy 46 = .ok (.aload_n 0, 1) := by decide +kernel
theorem dX8_heavy_47 : decode cX8_heavy 47 = .ok (.getfield 118, 3) := by decide +kernel
theorem dX8_heavy_50 : decode cX8_heavy 50 = .ok (.if_icmp .ge 23, 3) := by decide +kernel
theorem dX8_heavy_53 : decode cX8_heavy 53 = .ok (.iload 5, 2) := by decide +kernel
theorem dX8_heavy_55 : decode cX8_heavy 55 = .ok (.aload_n 0, 1) := by decide +kernel
theorem dX8_heavy_56 : decode cX8_heavy 56 = .ok (.iload 6, 2) := by decide +kernel
theorem dX8_heavy_58 : decode cX8_heavy 58 = .ok (.iload_n 3, 1) := by decide +kernel
theorem dX8_heavy_59 : decode cX8_heavy 59 = .ok (.iload 4, 2) := by decide +kernel
theorem dX8_heavy_61 : decode cX8_heavy 61 = .ok (.invokevirtual 161, 3) := by decide +kernel
theorem dX8_heavy_64 : decode cX8_heavy 64 = .ok (.iadd, 1) := by decide +kernel
theorem dX8_heavy_65 : decode cX8_heavy 65 = .ok (.istore 5, 2) := by decide +kernel
theorem dX8_heavy_67 : decode cX8_heavy 67 = .ok (.iinc 6 1, 3) := by decide +kernel
theorem dX8_heavy_70 : decode cX8_heavy 70 = .ok (.goto (-26), 3) := by decide +kernel
theorem dX8_heavy_73 : decode cX8_heavy 73 = .ok (.iload 5, 2) := by decide +kernel
theorem dX8_heavy_75 : decode cX8_heavy 75 = .ok (.iload_n 2, 1) := by decide +kernel
theorem dX8_heavy_76 : decode cX8_heavy 76 = .ok (.if_icmp .le 13, 3) := by decide +kernel
theorem dX8_heavy_79 : decode cX8_heavy 79 = .ok (.bipush 100, 2) := by decide +kernel
theorem dX8_heavy_81 : decode cX8_heavy 81 = .ok (.iload_n 3, 1) := by decide +kernel
theorem dX8_heavy_82 : decode cX8_heavy 82 = .ok (.imul, 1) := by decide +kernel
theorem dX8_heavy_83 : decode cX8_heavy 83 = .ok (.iload 4, 2) := by decide +kernel
theorem dX8_heavy_85 : decode cX8_heavy 85 = .ok (.iadd, 1) := by decide +kernel
theorem dX8_heavy_86 : decode cX8_heavy 86 = .ok (.goto 4, 3) := by decide +kernel
theorem dX8_heavy_89 : decode cX8_heavy 89 = .ok (.iload_n 1, 1) := by decide +kernel
theorem dX8_heavy_90 : decode cX8_heavy 90 = .ok (.istore_n 1, 1) := by decide +kernel
theorem dX8_heavy_91 : decode cX8_heavy 91 = .ok (.iload 5, 2) := by decide +kernel
theorem dX8_heavy_93 : decode cX8_heavy 93 = .ok (.iload_n 2, 1) := by decide +kernel
theorem dX8_heavy_94 : decode cX8_heavy 94 = .ok (.if_icmp .le 8, 3) := by decide +kernel
theorem dX8_heavy_97 : decode cX8_heavy 97 = .ok (.iload 5, 2) := by decide +kernel
theorem dX8_heavy_99 : decode cX8_heavy 99 = .ok (.goto 4, 3) := by decide +kernel
theorem dX8_heavy_102 : decode cX8_heavy 102 = .ok (.iload_n 2, 1) := by decide +kernel
theorem dX8_heavy_103 : decode cX8_heavy 103 = .ok (.istore_n 2, 1) := by decide +kernel
theorem dX8_heavy_104 : decode cX8_heavy 104 = .ok (.iinc 4 1, 3) := by decide +kernel
theorem dX8_heavy_107 : decode cX8_heavy 107 = .ok (.goto (-85), 3) := by decide +kernel
theorem dX8_heavy_110 : decode cX8_heavy 110 = .ok (.iinc 3 1, 3) := by decide +kernel
theorem dX8_heavy_113 : decode cX8_heavy 113 = .ok (.goto (-102), 3) := by decide +kernel
theorem dX8_heavy_116 : decode cX8_heavy 116 = .ok (.iload_n 1, 1) := by decide +kernel
theorem dX8_heavy_117 : decode cX8_heavy 117 = .ok (.ireturn, 1) := by decide +kernel
theorem dX8_odds_0 : decode cX8_odds 0 = .ok (.iload_n 1, 1) := by decide +kernel
theorem dX8_odds_1 : decode cX8_odds 1 = .ok (.iconst 0, 1) := by decide +kernel
theorem dX8_odds_2 : decode cX8_odds 2 = .ok (.bipush 10, 2) := by decide +kernel
theorem dX8_odds_4 : decode cX8_odds 4 = .ok (.invokestatic 63, 3) := by decide +kernel
theorem dX8_odds_7 : decode cX8_odds 7 = .ok (.ifCond .eq 12, 3) := by decide +kernel
theorem dX8_odds_10 : decode cX8_odds 10 = .ok (.iload_n 2, 1) := by decide +kernel
theorem dX8_odds_11 : decode cX8_odds 11 = .ok (.iconst 0, 1) := by decide +kernel
theorem dX8_odds_12 : decode cX8_odds 12 = .ok (.iconst 1, 1) := by decide +kernel
theorem dX8_odds_13 : decode cX8_odds 13 = .ok (.invokestatic 63, 3) := by decide +kernel
theorem dX8_odds_16 : decode cX8_odds 16 = .ok (.ifCond .ne 5, 3) := by decide +kernel
theorem dX8_odds_19 : decode cX8_odds 19 = .ok (.iconst (-1), 1) := by decide +kernel
theorem dX8_odds_20 : decode cX8_odds 20 = .ok (.ireturn, 1) := by decide +kernel
theorem dX8_odds_21 : decode cX8_odds 21 = .ok (.iconst 1, 1) := by decide +kernel
theorem dX8_odds_22 : decode cX8_odds 22 = .ok (.istore_n 3, 1) := by decide +kernel
theorem dX8_odds_23 : decode cX8_odds 23 = .ok (.iconst 0, 1) := by decide +kernel
theorem dX8_odds_24 : decode cX8_odds 24 = .ok (.istore 4, 2) := by decide +kernel
theorem dX8_odds_26 : decode cX8_odds 26 = .ok (.iload 4, 2) := by decide +kernel
theorem dX8_odds_28 : decode cX8_odds 28 = .ok (.aload_n 0, 1) := by decide +kernel
theorem dX8_odds_29 : decode cX8_odds 29 = .ok (.getfield 118, 3) := by decide +kernel
theorem dX8_odds_32 : decode cX8_odds 32 = .ok (.if_icmp .ge 14, 3) := by decide +kernel
theorem dX8_odds_35 : decode cX8_odds 35 = .ok (.iload_n 3, 1) := by decide +kernel
theorem dX8_odds_36 : decode cX8_odds 36 = .ok (.bipush 10, 2) := by decide +kernel
theorem dX8_odds_38 : decode cX8_odds 38 = .ok (.imul, 1) := by decide +kernel
theorem dX8_odds_39 : decode cX8_odds 39 = .ok (.istore_n 3, 1) := by decide +kernel
theorem dX8_odds_40 : decode cX8_odds 40 = .ok (.iinc 4 1, 3) := by decide +kernel
theorem dX8_odds_43 : decode cX8_odds 43 = .ok (.goto (-17), 3) := by decide +kernel
theorem dX8_odds_46 : decode cX8_odds 46 = .ok (.iconst 0, 1) := by decide +kernel
theorem dX8_odds_47 : decode cX8_odds 47 = .ok (.istore 4, 2) := by decide +kernel
theorem dX8_odds_49 : decode cX8_odds 49 = .ok (.iconst 0, 1) := by decide +kernel
theorem dX8_odds_50 : decode cX8_odds 50 = .ok (.istore 5, 2) := by decide +kernel
theorem dX8_odds_52 : decode cX8_odds 52 = .ok (.iload 5, 2) := by decide +kernel
theorem dX8_odds_54 : decode cX8_odds 54 = .ok (.aload_n 0, 1) := by decide +kernel
theorem dX8_odds_55 : decode cX8_odds 55 = .ok (.invokevirtual 141, 3) := by decide +kernel
theorem dX8_odds_58 : decode cX8_odds 58 = .ok (.if_icmp .gt 132, 3) := by decide +kernel
theorem dX8_odds_61 : decode cX8_odds 61 = .ok (.iconst 1, 1) := by decide +kernel
theorem dX8_odds_62 : decode cX8_odds 62 = .ok (.istore 6, 2) := by decide +kernel
theorem dX8_odds_64 : decode cX8_odds 64 = .ok (.iconst 0, 1) := by decide +kernel
theorem dX8_odds_65 : decode cX8_odds 65 = .ok (.istore 7, 2) := by decide +kernel
theorem dX8_odds_67 : decode cX8_odds 67 = .ok (.iload 7, 2) := by decide +kernel
theorem dX8_odds_69 : decode cX8_odds 69 = .ok (.aload_n 0, 1) := by decide +kernel
theorem dX8_odds_70 : decode cX8_odds 70 = .ok (.getfield 118, 3) := by decide +kernel
theorem dX8_odds_73 : decode cX8_odds 73 = .ok (.if_icmp .ge 82, 3) := by decide +kernel
theorem dX8_odds_76 : decode cX8_odds 76 = .ok (.aload_n 0, 1) := by decide +kernel
theorem dX8_odds_77 : decode cX8_odds 77 = .ok (.getfield 56, 3) := by decide +kernel
theorem dX8_odds_80 : decode cX8_odds 80 = .ok (.iload 7, 2) := by decide +kernel
theorem dX8_odds_82 : decode cX8_odds 82 = .ok (.iload 5, 2) := by decide +kernel
theorem dX8_odds_84 : decode cX8_odds 84 = .ok (.iload 7, 2) := by decide +kernel
theorem dX8_odds_86 : decode cX8_odds 86 = .ok (.invokestatic 124, 3) := by decide +kernel
theorem dX8_odds_89 : decode cX8_odds 89 = .ok (.ifCond .eq 29, 3) := by decide +kernel
theorem dX8_odds_92 : decode cX8_odds 92 = .ok (.aload_n 0, 1) := by decide +kernel
theorem dX8_odds_93 : decode cX8_odds 93 = .ok (.getfield 13, 3) := by decide +kernel
theorem dX8_odds_96 : decode cX8_odds 96 = .ok (.iload 7, 2) := by decide +kernel
theorem dX8_odds_98 : decode cX8_odds 98 = .ok (.iaload, 1) := by decide +kernel
theorem dX8_odds_99 : decode cX8_odds 99 = .ok (.aload_n 0, 1) := by decide +kernel
theorem dX8_odds_100 : decode cX8_odds 100 = .ok (.getfield 59, 3) := by decide +kernel
theorem dX8_odds_103 : decode cX8_odds 103 = .ok (.if_icmp .ge 15, 3) := by decide +kernel
theorem dX8_odds_106 : decode cX8_odds 106 = .ok (.aload_n 0, 1) := by decide +kernel
theorem dX8_odds_107 : decode cX8_odds 107 = .ok (.getfield 13, 3) := by decide +kernel
theorem dX8_odds_110 : decode cX8_odds 110 = .ok (.iload 7, 2) := by decide +kernel
theorem dX8_odds_112 : decode cX8_odds 112 = .ok (.iaload, 1) := by decide +kernel
theorem dX8_odds_113 : decode cX8_odds 113 = .ok (.iconst 1, 1) := by decide +kernel
theorem dX8_odds_114 : decode cX8_odds 114 = .ok (.iadd, 1) := by decide +kernel
theorem dX8_odds_115 : decode cX8_odds 115 = .ok (.goto 10, 3) := by decide +kernel
theorem dX8_odds_118 : decode cX8_odds 118 = .ok (.aload_n 0, 1) := by decide +kernel
theorem dX8_odds_119 : decode cX8_odds 119 = .ok (.getfield 13, 3) := by decide +kernel
theorem dX8_odds_122 : decode cX8_odds 122 = .ok (.iload 7, 2) := by decide +kernel
theorem dX8_odds_124 : decode cX8_odds 124 = .ok (.iaload, 1) := by decide +kernel
theorem dX8_odds_125 : decode cX8_odds 125 = .ok (.iastore, 1) := by decide +kernel
theorem dX8_odds_126 : decode cX8_odds 126 = .ok (.iload 6, 2) := by decide +kernel
theorem dX8_odds_128 : decode cX8_odds 128 = .ok (.iload 5, 2) := by decide +kernel
theorem dX8_odds_130 : decode cX8_odds 130 = .ok (.iload 7, 2) := by decide +kernel
theorem dX8_odds_132 : decode cX8_odds 132 = .ok (.invokestatic 124, 3) := by decide +kernel
theorem dX8_odds_135 : decode cX8_odds 135 = .ok (.ifCond .eq 7, 3) := by decide +kernel
theorem dX8_odds_138 : decode cX8_odds 138 = .ok (.iload_n 1, 1) := by decide +kernel
theorem dX8_odds_139 : decode cX8_odds 139 = .ok (.goto 7, 3) := by decide +kernel
theorem dX8_odds_142 : decode cX8_odds 142 = .ok (.bipush 10, 2) := by decide +kernel
theorem dX8_odds_144 : decode cX8_odds 144 = .ok (.iload_n 1, 1) := by decide +kernel
theorem dX8_odds_145 : decode cX8_odds 145 = .ok (.isub, 1) := by decide +kernel
theorem dX8_odds_146 : decode cX8_odds 146 = .ok (.imul, 1) := by decide +kernel
theorem dX8_odds_147 : decode cX8_odds 147 = .ok (.istore 6, 2) := by decide +kernel
theorem dX8_odds_149 : decode cX8_odds 149 = .ok (.iinc 7 1, 3) := by decide +kernel
theorem dX8_odds_152 : decode cX8_odds 152 = .ok (.goto (-85), 3) := by decide +kernel
theorem dX8_odds_155 : decode cX8_odds 155 = .ok (.iload 4, 2) := by decide +kernel
theorem dX8_odds_157 : decode cX8_odds 157 = .ok (.iload 6, 2) := by decide +kernel
theorem dX8_odds_159 : decode cX8_odds 159 = .ok (.ifCond .le 21, 3) := by decide +kernel
theorem dX8_odds_162 : decode cX8_odds 162 = .ok (.aload_n 0, 1) := by decide +kernel
theorem dX8_odds_163 : decode cX8_odds 163 = .ok (.iconst 1, 1) := by decide +kernel
theorem dX8_odds_164 : decode cX8_odds 164 = .ok (.bipush 16, 2) := by decide +kernel
theorem dX8_odds_166 : decode cX8_odds 166 = .ok (.bipush (-9), 2) := by decide +kernel
theorem dX8_odds_168 : decode cX8_odds 168 = .ok (.iconst 0, 1) := by decide +kernel
theorem dX8_odds_169 : decode cX8_odds 169 = .ok (.invokevirtual 213, 3) := by decide +kernel
theorem dX8_odds_172 : decode cX8_odds 172 = .ok (.ifCond .le 8, 3) := by decide +kernel
theorem dX8_odds_175 : decode cX8_odds 175 = .ok (.iload 6, 2) := by decide +kernel
theorem dX8_odds_177 : decode cX8_odds 177 = .ok (.goto 4, 3) := by decide +kernel
theorem dX8_odds_180 : decode cX8_odds 180 = .ok (.iconst 0, 1) := by decide +kernel
theorem dX8_odds_181 : decode cX8_odds 181 = .ok (.iadd, 1) := by decide +kernel
theorem dX8_odds_182 : decode cX8_odds 182 = .ok (.istore 4, 2) := by decide +kernel
theorem dX8_odds_184 : decode cX8_odds 184 = .ok (.iinc 5 1, 3) := by decide +kernel
theorem dX8_odds_187 : decode cX8_odds 187 = .ok (.goto (-135), 3) := by decide +kernel
theorem dX8_odds_190 : decode cX8_odds 190 = .ok (.iload 4, 2) := by decide +kernel
theorem dX8_odds_192 : decode cX8_odds 192 = .ok (.istore 5, 2) := by decide +kernel
theorem dX8_odds_194 : decode cX8_odds 194 = .ok (.iload_n 3, 1) := by decide +kernel
theorem dX8_odds_195 : decode cX8_odds 195 = .ok (.istore 6, 2) := by decide +kernel
theorem dX8_odds_197 : decode cX8_odds 197 = .ok (.iload 6, 2) := by decide +kernel
theorem dX8_odds_199 : decode cX8_odds 199 = .ok (.ifCond .eq 21, 3) := by decide +kernel
theorem dX8_odds_202 : decode cX8_odds 202 = .ok (.iload 5, 2) := by decide +kernel
theorem dX8_odds_204 : decode cX8_odds 204 = .ok (.iload 6, 2) := by decide +kernel
theorem dX8_odds_206 : decode cX8_odds 206 = .ok (.irem, 1) := by decide +kernel
theorem dX8_odds_207 : decode cX8_odds 207 = .ok (.istore 7, 2) := by decide +kernel
theorem dX8_odds_209 : decode cX8_odds 209 = .ok (.iload 6, 2) := by decide +kernel
theorem dX8_odds_211 : decode cX8_odds 211 = .ok (.istore 5, 2) := by decide +kernel
theorem dX8_odds_213 : decode cX8_odds 213 = .ok (.iload 7, 2) := by decide +kernel
theorem dX8_odds_215 : decode cX8_odds 215 = .ok (.istore 6, 2) := by decide +kernel
theorem dX8_odds_217 : decode cX8_odds 217 = .ok (.goto (-20), 3) := by decide +kernel
theorem dX8_odds_220 : decode cX8_odds 220 = .ok (.iload_n 2, 1) := by decide +kernel
theorem dX8_odds_221 : decode cX8_odds 221 = .ok (.ifCond .ne 11, 3) := by decide +kernel
theorem dX8_odds_224 : decode cX8_odds 224 = .ok (.iload 4, 2) := by decide +kernel
theorem dX8_odds_226 : decode cX8_odds 226 = .ok (.iload 5, 2) := by decide +kernel
theorem dX8_odds_228 : decode cX8_odds 228 = .ok (.idiv, 1) := by decide +kernel
theorem dX8_odds_229 : decode cX8_odds 229 = .ok (.goto 7, 3) := by decide +kernel
theorem dX8_odds_232 : decode cX8_odds 232 = .ok (.iload_n 3, 1) := by decide +kernel
theorem dX8_odds_233 : decode cX8_odds 233 = .ok (.iload 5, 2) := by decide +kernel
theorem dX8_odds_235 : decode cX8_odds 235 = .ok (.idiv, 1) := by decide +kernel
theorem dX8_odds_236 : decode cX8_odds 236 = .ok (.ireturn, 1) := by decide +kernel
theorem dX8_countSchedules_0 : decode cX8_countSchedules 0 = .ok (.aload_n 0, 1) := by decide +kernel
theorem dX8_countSchedules_1 : decode cX8_countSchedules 1 = .ok (.invokevirtual 210, 3) := by decide +kernel
theorem dX8_countSchedules_4 : decode cX8_countSchedules 4 = .ok (.aload_n 0, 1) := by decide +kernel
theorem dX8_countSchedules_5 : decode cX8_countSchedules 5 = .ok (.sipush 9999, 3) := by decide +kernel
theorem dX8_countSchedules_8 : decode cX8_countSchedules 8 = .ok (.bipush 16, 2) := by decide +kernel
theorem dX8_countSchedules_10 : decode cX8_countSchedules 10 = .ok (.bipush (-9), 2) := by decide +kernel
theorem dX8_countSchedules_12 : decode cX8_countSchedules 12 = .ok (.iconst 0, 1) := by decide +kernel
theorem dX8_countSchedules_13 : decode cX8_countSchedules 13 = .ok (.invokevirtual 213, 3) := by decide +kernel
theorem dX8_countSchedules_16 : decode cX8_countSchedules 16 = .ok (.ireturn, 1) := by decide +kernel
theorem dX8_keep_0 : decode cX8_keep 0 = .ok (.iload_n 1, 1) := by decide +kernel
theorem dX8_keep_1 : decode cX8_keep 1 = .ok (.iconst 0, 1) := by decide +kernel
theorem dX8_keep_2 : decode cX8_keep 2 = .ok (.iconst 1, 1) := by decide +kernel
theorem dX8_keep_3 : decode cX8_keep 3 = .ok (.invokestatic 63, 3) := by decide +kernel
theorem dX8_keep_6 : decode cX8_keep 6 = .ok (.ifCond .ne 5, 3) := by decide +kernel
theorem dX8_keep_9 : decode cX8_keep 9 = .ok (.iconst (-1), 1) := by decide +kernel
theorem dX8_keep_10 : decode cX8_keep 10 = .ok (.ireturn, 1) := by decide +kernel
theorem dX8_keep_11 : decode cX8_keep 11 = .ok (.aload_n 0, 1) := by decide +kernel
theorem dX8_keep_12 : decode cX8_keep 12 = .ok (.getfield 22, 3) := by decide +kernel
theorem dX8_keep_15 : decode cX8_keep 15 = .ok (.iload_n 1, 1) := by decide +kernel
theorem dX8_keep_16 : decode cX8_keep 16 = .ok (.iconst 1, 1) := by decide +kernel
theorem dX8_keep_17 : decode cX8_keep 17 = .ok (.bastore, 1) := by decide +kernel
theorem dX8_keep_18 : decode cX8_keep 18 = .ok (.iconst 0, 1) := by decide +kernel
theorem dX8_keep_19 : decode cX8_keep 19 = .ok (.istore_n 2, 1) := by decide +kernel
theorem dX8_keep_20 : decode cX8_keep 20 = .ok (.iload_n 2, 1) := by decide +kernel
theorem dX8_keep_21 : decode cX8_keep 21 = .ok (.bipush 30, 2) := by decide +kernel
theorem dX8_keep_23 : decode cX8_keep 23 = .ok (.if_icmp .ge 26, 3) := by decide +kernel
theorem dX8_keep_26 : decode cX8_keep 26 = .ok (.aload_n 0, 1) := by decide +kernel
theorem dX8_keep_27 : decode cX8_keep 27 = .ok (.getfield 26, 3) := by decide +kernel
theorem dX8_keep_30 : decode cX8_keep 30 = .ok (.bipush 30, 2) := by decide +kernel
theorem dX8_keep_32 : decode cX8_keep 32 = .ok (.iload_n 1, 1) := by decide +kernel
theorem dX8_keep_33 : decode cX8_keep 33 = .ok (.imul, 1) := by decide +kernel
theorem dX8_keep_34 : decode cX8_keep 34 = .ok (.iload_n 2, 1) := by decide +kernel
theorem dX8_keep_35 : decode cX8_keep 35 = .ok (.iadd, 1) := by decide +kernel
theorem dX8_keep_36 : decode cX8_keep 36 = .ok (.aload_n 0, 1) := by decide +kernel
theorem dX8_keep_37 : decode cX8_keep 37 = .ok (.getfield 16, 3) := by decide +kernel
theorem dX8_keep_40 : decode cX8_keep 40 = .ok (.iload_n 2, 1) := by decide +kernel
theorem dX8_keep_41 : decode cX8_keep 41 = .ok (.iaload, 1) := by decide +kernel
theorem dX8_keep_42 : decode cX8_keep 42 = .ok (.iastore, 1) := by decide +kernel
theorem dX8_keep_43 : decode cX8_keep 43 = .ok (.iinc 2 1, 3) := by decide +kernel
theorem dX8_keep_46 : decode cX8_keep 46 = .ok (.goto (-26), 3) := by decide +kernel
theorem dX8_keep_49 : decode cX8_keep 49 = .ok (.aload_n 0, 1) := by decide +kernel
theorem dX8_keep_50 : decode cX8_keep 50 = .ok (.getfield 118, 3) := by decide +kernel
theorem dX8_keep_53 : decode cX8_keep 53 = .ok (.ireturn, 1) := by decide +kernel
theorem dX8_back_0 : decode cX8_back 0 = .ok (.iload_n 1, 1) := by decide +kernel
theorem dX8_back_1 : decode cX8_back 1 = .ok (.iconst 0, 1) := by decide +kernel
theorem dX8_back_2 : decode cX8_back 2 = .ok (.iconst 1, 1) := by decide +kernel
theorem dX8_back_3 : decode cX8_back 3 = .ok (.invokestatic 63, 3) := by decide +kernel
theorem dX8_back_6 : decode cX8_back 6 = .ok (.ifCond .ne 5, 3) := by decide +kernel
theorem dX8_back_9 : decode cX8_back 9 = .ok (.iconst (-1), 1) := by decide +kernel
theorem dX8_back_10 : decode cX8_back 10 = .ok (.ireturn, 1) := by decide +kernel
theorem dX8_back_11 : decode cX8_back 11 = .ok (.aload_n 0, 1) := by decide +kernel
theorem dX8_back_12 : decode cX8_back 12 = .ok (.getfield 22, 3) := by decide +kernel
theorem dX8_back_15 : decode cX8_back 15 = .ok (.iload_n 1, 1) := by decide +kernel
theorem dX8_back_16 : decode cX8_back 16 = .ok (.baload, 1) := by decide +kernel
theorem dX8_back_17 : decode cX8_back 17 = .ok (.ifCond .ne 6, 3) := by decide +kernel
theorem dX8_back_20 : decode cX8_back 20 = .ok (.bipush (-2), 2) := by decide +kernel
theorem dX8_back_22 : decode cX8_back 22 = .ok (.ireturn, 1) := by decide +kernel
theorem dX8_back_23 : decode cX8_back 23 = .ok (.iconst 0, 1) := by decide +kernel
theorem dX8_back_24 : decode cX8_back 24 = .ok (.istore_n 2, 1) := by decide +kernel
theorem dX8_back_25 : decode cX8_back 25 = .ok (.iload_n 2, 1) := by decide +kernel
theorem dX8_back_26 : decode cX8_back 26 = .ok (.bipush 30, 2) := by decide +kernel
theorem dX8_back_28 : decode cX8_back 28 = .ok (.if_icmp .ge 26, 3) := by decide +kernel
theorem dX8_back_31 : decode cX8_back 31 = .ok (.aload_n 0, 1) := by decide +kernel
theorem dX8_back_32 : decode cX8_back 32 = .ok (.getfield 16, 3) := by decide +kernel
theorem dX8_back_35 : decode cX8_back 35 = .ok (.iload_n 2, 1) := by decide +kernel
theorem dX8_back_36 : decode cX8_back 36 = .ok (.aload_n 0, 1) := by decide +kernel
theorem dX8_back_37 : decode cX8_back 37 = .ok (.getfield 26, 3) := by decide +kernel
theorem dX8_back_40 : decode cX8_back 40 = .ok (.bipush 30, 2) := by decide +kernel
theorem dX8_back_42 : decode cX8_back 42 = .ok (.iload_n 1, 1) := by decide +kernel
theorem dX8_back_43 : decode cX8_back 43 = .ok (.imul, 1) := by decide +kernel
theorem dX8_back_44 : decode cX8_back 44 = .ok (.iload_n 2, 1) := by decide +kernel
theorem dX8_back_45 : decode cX8_back 45 = .ok (.iadd, 1) := by decide +kernel
theorem dX8_back_46 : decode cX8_back 46 = .ok (.iaload, 1) := by decide +kernel
theorem dX8_back_47 : decode cX8_back 47 = .ok (.iastore, 1) := by decide +kernel
theorem dX8_back_48 : decode cX8_back 48 = .ok (.iinc 2 1, 3) := by decide +kernel
theorem dX8_back_51 : decode cX8_back 51 = .ok (.goto (-26), 3) := by decide +kernel
theorem dX8_back_54 : decode cX8_back 54 = .ok (.aload_n 0, 1) := by decide +kernel
theorem dX8_back_55 : decode cX8_back 55 = .ok (.iconst 0, 1) := by decide +kernel
theorem dX8_back_56 : decode cX8_back 56 = .ok (.putfield 121, 3) := by decide +kernel
theorem dX8_back_59 : decode cX8_back 59 = .ok (.aload_n 0, 1) := by decide +kernel
theorem dX8_back_60 : decode cX8_back 60 = .ok (.getfield 118, 3) := by decide +kernel
theorem dX8_back_63 : decode cX8_back 63 = .ok (.ireturn, 1) := by decide +kernel
theorem dX8_count_0 : decode cX8_count 0 = .ok (.iload_n 1, 1) := by decide +kernel
theorem dX8_count_1 : decode cX8_count 1 = .ok (.tableswitch 108 0 8 #[51, 56, 61, 74, 79, 84, 89, 98, 103], 51) := by decide +kernel
theorem dX8_count_52 : decode cX8_count 52 = .ok (.aload_n 0, 1) := by decide +kernel
theorem dX8_count_53 : decode cX8_count 53 = .ok (.getfield 118, 3) := by decide +kernel
theorem dX8_count_56 : decode cX8_count 56 = .ok (.ireturn, 1) := by decide +kernel
theorem dX8_count_57 : decode cX8_count 57 = .ok (.aload_n 0, 1) := by decide +kernel
theorem dX8_count_58 : decode cX8_count 58 = .ok (.getfield 59, 3) := by decide +kernel
theorem dX8_count_61 : decode cX8_count 61 = .ok (.ireturn, 1) := by decide +kernel
theorem dX8_count_62 : decode cX8_count 62 = .ok (.aload_n 0, 1) := by decide +kernel
theorem dX8_count_63 : decode cX8_count 63 = .ok (.invokevirtual 182, 3) := by decide +kernel
theorem dX8_count_66 : decode cX8_count 66 = .ok (.ifCond .eq 7, 3) := by decide +kernel
theorem dX8_count_69 : decode cX8_count 69 = .ok (.iconst 1, 1) := by decide +kernel
theorem dX8_count_70 : decode cX8_count 70 = .ok (.goto 4, 3) := by decide +kernel
theorem dX8_count_73 : decode cX8_count 73 = .ok (.iconst 0, 1) := by decide +kernel
theorem dX8_count_74 : decode cX8_count 74 = .ok (.ireturn, 1) := by decide +kernel
theorem dX8_count_75 : decode cX8_count 75 = .ok (.aload_n 0, 1) := by decide +kernel
theorem dX8_count_76 : decode cX8_count 76 = .ok (.invokevirtual 229, 3) := by decide +kernel
theorem dX8_count_79 : decode cX8_count 79 = .ok (.ireturn, 1) := by decide +kernel
theorem dX8_count_80 : decode cX8_count 80 = .ok (.aload_n 0, 1) := by decide +kernel
theorem dX8_count_81 : decode cX8_count 81 = .ok (.invokevirtual 232, 3) := by decide +kernel
theorem dX8_count_84 : decode cX8_count 84 = .ok (.ireturn, 1) := by decide +kernel
theorem dX8_count_85 : decode cX8_count 85 = .ok (.aload_n 0, 1) := by decide +kernel
theorem dX8_count_86 : decode cX8_count 86 = .ok (.invokevirtual 235, 3) := by decide +kernel
theorem dX8_count_89 : decode cX8_count 89 = .ok (.ireturn, 1) := by decide +kernel
theorem dX8_count_90 : decode cX8_count 90 = .ok (.aload_n 0, 1) := by decide +kernel
theorem dX8_count_91 : decode cX8_count 91 = .ok (.aload_n 0, 1) := by decide +kernel
theorem dX8_count_92 : decode cX8_count 92 = .ok (.invokevirtual 141, 3) := by decide +kernel
theorem dX8_count_95 : decode cX8_count 95 = .ok (.invokevirtual 148, 3) := by decide +kernel
theorem dX8_count_98 : decode cX8_count 98 = .ok (.ireturn, 1) := by decide +kernel
theorem dX8_count_99 : decode cX8_count 99 = .ok (.aload_n 0, 1) := by decide +kernel
theorem dX8_count_100 : decode cX8_count 100 = .ok (.getfield 67, 3) := by decide +kernel
theorem dX8_count_103 : decode cX8_count 103 = .ok (.ireturn, 1) := by decide +kernel
theorem dX8_count_104 : decode cX8_count 104 = .ok (.aload_n 0, 1) := by decide +kernel
theorem dX8_count_105 : decode cX8_count 105 = .ok (.getfield 121, 3) := by decide +kernel
theorem dX8_count_108 : decode cX8_count 108 = .ok (.ireturn, 1) := by decide +kernel
theorem dX8_count_109 : decode cX8_count 109 = .ok (.iconst (-1), 1) := by decide +kernel
theorem dX8_count_110 : decode cX8_count 110 = .ok (.ireturn, 1) := by decide +kernel
theorem dJ6_bitCount_0f7a4_0 : decode cJ6_bitCount_0f7a4 0 = .ok (.iload_n 0, 1) := by decide +kernel
theorem dJ6_bitCount_0f7a4_1 : decode cJ6_bitCount_0f7a4 1 = .ok (.iload_n 0, 1) := by decide +kernel
theorem dJ6_bitCount_0f7a4_2 : decode cJ6_bitCount_0f7a4 2 = .ok (.iconst 1, 1) := by decide +kernel
theorem dJ6_bitCount_0f7a4_3 : decode cJ6_bitCount_0f7a4 3 = .ok (.iushr, 1) := by decide +kernel
theorem dJ6_bitCount_0f7a4_4 : decode cJ6_bitCount_0f7a4 4 = .ok (.ldc_w 265, 3) := by decide +kernel
theorem dJ6_bitCount_0f7a4_7 : decode cJ6_bitCount_0f7a4 7 = .ok (.iand, 1) := by decide +kernel
theorem dJ6_bitCount_0f7a4_8 : decode cJ6_bitCount_0f7a4 8 = .ok (.isub, 1) := by decide +kernel
theorem dJ6_bitCount_0f7a4_9 : decode cJ6_bitCount_0f7a4 9 = .ok (.istore_n 0, 1) := by decide +kernel
theorem dJ6_bitCount_0f7a4_10 : decode cJ6_bitCount_0f7a4 10 = .ok (.iload_n 0, 1) := by decide +kernel
theorem dJ6_bitCount_0f7a4_11 : decode cJ6_bitCount_0f7a4 11 = .ok (.ldc_w 266, 3) := by decide +kernel
theorem dJ6_bitCount_0f7a4_14 : decode cJ6_bitCount_0f7a4 14 = .ok (.iand, 1) := by decide +kernel
theorem dJ6_bitCount_0f7a4_15 : decode cJ6_bitCount_0f7a4 15 = .ok (.iload_n 0, 1) := by decide +kernel
theorem dJ6_bitCount_0f7a4_16 : decode cJ6_bitCount_0f7a4 16 = .ok (.iconst 2, 1) := by decide +kernel
theorem dJ6_bitCount_0f7a4_17 : decode cJ6_bitCount_0f7a4 17 = .ok (.iushr, 1) := by decide +kernel
theorem dJ6_bitCount_0f7a4_18 : decode cJ6_bitCount_0f7a4 18 = .ok (.ldc_w 266, 3) := by decide +kernel
theorem dJ6_bitCount_0f7a4_21 : decode cJ6_bitCount_0f7a4 21 = .ok (.iand, 1) := by decide +kernel
theorem dJ6_bitCount_0f7a4_22 : decode cJ6_bitCount_0f7a4 22 = .ok (.iadd, 1) := by decide +kernel
theorem dJ6_bitCount_0f7a4_23 : decode cJ6_bitCount_0f7a4 23 = .ok (.istore_n 0, 1) := by decide +kernel
theorem dJ6_bitCount_0f7a4_24 : decode cJ6_bitCount_0f7a4 24 = .ok (.iload_n 0, 1) := by decide +kernel
theorem dJ6_bitCount_0f7a4_25 : decode cJ6_bitCount_0f7a4 25 = .ok (.iload_n 0, 1) := by decide +kernel
theorem dJ6_bitCount_0f7a4_26 : decode cJ6_bitCount_0f7a4 26 = .ok (.iconst 4, 1) := by decide +kernel
theorem dJ6_bitCount_0f7a4_27 : decode cJ6_bitCount_0f7a4 27 = .ok (.iushr, 1) := by decide +kernel
theorem dJ6_bitCount_0f7a4_28 : decode cJ6_bitCount_0f7a4 28 = .ok (.iadd, 1) := by decide +kernel
theorem dJ6_bitCount_0f7a4_29 : decode cJ6_bitCount_0f7a4 29 = .ok (.ldc_w 267, 3) := by decide +kernel
theorem dJ6_bitCount_0f7a4_32 : decode cJ6_bitCount_0f7a4 32 = .ok (.iand, 1) := by decide +kernel
theorem dJ6_bitCount_0f7a4_33 : decode cJ6_bitCount_0f7a4 33 = .ok (.istore_n 0, 1) := by decide +kernel
theorem dJ6_bitCount_0f7a4_34 : decode cJ6_bitCount_0f7a4 34 = .ok (.iload_n 0, 1) := by decide +kernel
theorem dJ6_bitCount_0f7a4_35 : decode cJ6_bitCount_0f7a4 35 = .ok (.iload_n 0, 1) := by decide +kernel
theorem dJ6_bitCount_0f7a4_36 : decode cJ6_bitCount_0f7a4 36 = .ok (.bipush 8, 2) := by decide +kernel
theorem dJ6_bitCount_0f7a4_38 : decode cJ6_bitCount_0f7a4 38 = .ok (.iushr, 1) := by decide +kernel
theorem dJ6_bitCount_0f7a4_39 : decode cJ6_bitCount_0f7a4 39 = .ok (.iadd, 1) := by decide +kernel
theorem dJ6_bitCount_0f7a4_40 : decode cJ6_bitCount_0f7a4 40 = .ok (.istore_n 0, 1) := by decide +kernel
theorem dJ6_bitCount_0f7a4_41 : decode cJ6_bitCount_0f7a4 41 = .ok (.iload_n 0, 1) := by decide +kernel
theorem dJ6_bitCount_0f7a4_42 : decode cJ6_bitCount_0f7a4 42 = .ok (.iload_n 0, 1) := by decide +kernel
theorem dJ6_bitCount_0f7a4_43 : decode cJ6_bitCount_0f7a4 43 = .ok (.bipush 16, 2) := by decide +kernel
theorem dJ6_bitCount_0f7a4_45 : decode cJ6_bitCount_0f7a4 45 = .ok (.iushr, 1) := by decide +kernel
theorem dJ6_bitCount_0f7a4_46 : decode cJ6_bitCount_0f7a4 46 = .ok (.iadd, 1) := by decide +kernel
theorem dJ6_bitCount_0f7a4_47 : decode cJ6_bitCount_0f7a4 47 = .ok (.istore_n 0, 1) := by decide +kernel
theorem dJ6_bitCount_0f7a4_48 : decode cJ6_bitCount_0f7a4 48 = .ok (.iload_n 0, 1) := by decide +kernel
theorem dJ6_bitCount_0f7a4_49 : decode cJ6_bitCount_0f7a4 49 = .ok (.bipush 63, 2) := by decide +kernel
theorem dJ6_bitCount_0f7a4_51 : decode cJ6_bitCount_0f7a4 51 = .ok (.iand, 1) := by decide +kernel
theorem dJ6_bitCount_0f7a4_52 : decode cJ6_bitCount_0f7a4 52 = .ok (.ireturn, 1) := by decide +kernel
theorem dJ9_max_7cf53_0 : decode cJ9_max_7cf53 0 = .ok (.iload_n 0, 1) := by decide +kernel
theorem dJ9_max_7cf53_1 : decode cJ9_max_7cf53 1 = .ok (.iload_n 1, 1) := by decide +kernel
theorem dJ9_max_7cf53_2 : decode cJ9_max_7cf53 2 = .ok (.if_icmp .lt 7, 3) := by decide +kernel
theorem dJ9_max_7cf53_5 : decode cJ9_max_7cf53 5 = .ok (.iload_n 0, 1) := by decide +kernel
theorem dJ9_max_7cf53_6 : decode cJ9_max_7cf53 6 = .ok (.goto 4, 3) := by decide +kernel
theorem dJ9_max_7cf53_9 : decode cJ9_max_7cf53 9 = .ok (.iload_n 1, 1) := by decide +kernel
theorem dJ9_max_7cf53_10 : decode cJ9_max_7cf53 10 = .ok (.ireturn, 1) := by decide +kernel
theorem dJ9_min_7cf53_0 : decode cJ9_min_7cf53 0 = .ok (.iload_n 0, 1) := by decide +kernel
theorem dJ9_min_7cf53_1 : decode cJ9_min_7cf53 1 = .ok (.iload_n 1, 1) := by decide +kernel
theorem dJ9_min_7cf53_2 : decode cJ9_min_7cf53 2 = .ok (.if_icmp .gt 7, 3) := by decide +kernel
theorem dJ9_min_7cf53_5 : decode cJ9_min_7cf53 5 = .ok (.iload_n 0, 1) := by decide +kernel
theorem dJ9_min_7cf53_6 : decode cJ9_min_7cf53 6 = .ok (.goto 4, 3) := by decide +kernel
theorem dJ9_min_7cf53_9 : decode cJ9_min_7cf53 9 = .ok (.iload_n 1, 1) := by decide +kernel
theorem dJ9_min_7cf53_10 : decode cJ9_min_7cf53 10 = .ok (.ireturn, 1) := by decide +kernel
theorem dL_law_0 : decode cL_law 0 = .ok (.new 7, 3) := by decide +kernel
theorem dL_law_3 : decode cL_law 3 = .ok (.dup, 1) := by decide +kernel
theorem dL_law_4 : decode cL_law 4 = .ok (.invokespecial 9, 3) := by decide +kernel
theorem dL_law_7 : decode cL_law 7 = .ok (.astore_n 1, 1) := by decide +kernel
theorem dL_law_8 : decode cL_law 8 = .ok (.new 10, 3) := by decide +kernel
theorem dL_law_11 : decode cL_law 11 = .ok (.dup, 1) := by decide +kernel
theorem dL_law_12 : decode cL_law 12 = .ok (.invokespecial 12, 3) := by decide +kernel
theorem dL_law_15 : decode cL_law 15 = .ok (.astore_n 2, 1) := by decide +kernel
theorem dL_law_16 : decode cL_law 16 = .ok (.iconst 0, 1) := by decide +kernel
theorem dL_law_17 : decode cL_law 17 = .ok (.istore_n 3, 1) := by decide +kernel
theorem dL_law_18 : decode cL_law 18 = .ok (.iload_n 3, 1) := by decide +kernel
theorem dL_law_19 : decode cL_law 19 = .ok (.aload_n 0, 1) := by decide +kernel
theorem dL_law_20 : decode cL_law 20 = .ok (.arraylength, 1) := by decide +kernel
theorem dL_law_21 : decode cL_law 21 = .ok (.iconst 4, 1) := by decide +kernel
theorem dL_law_22 : decode cL_law 22 = .ok (.isub, 1) := by decide +kernel
theorem dL_law_23 : decode cL_law 23 = .ok (.if_icmp .gt 486, 3) := by decide +kernel
theorem dL_law_26 : decode cL_law 26 = .ok (.aload_n 0, 1) := by decide +kernel
theorem dL_law_27 : decode cL_law 27 = .ok (.iload_n 3, 1) := by decide +kernel
theorem dL_law_28 : decode cL_law 28 = .ok (.iaload, 1) := by decide +kernel
theorem dL_law_29 : decode cL_law 29 = .ok (.bipush 15, 2) := by decide +kernel
theorem dL_law_31 : decode cL_law 31 = .ok (.iand, 1) := by decide +kernel
theorem dL_law_32 : decode cL_law 32 = .ok (.tableswitch 471 0 14 #[76, 99, 112, 125, 158, 201, 224, 247, 290, 303, 326, 369, 402, 425, 448], 76) := by decide +kernel
theorem dL_law_108 : decode cL_law 108 = .ok (.aload_n 1, 1) := by decide +kernel
theorem dL_law_109 : decode cL_law 109 = .ok (.aload_n 0, 1) := by decide +kernel
theorem dL_law_110 : decode cL_law 110 = .ok (.iload_n 3, 1) := by decide +kernel
theorem dL_law_111 : decode cL_law 111 = .ok (.iconst 1, 1) := by decide +kernel
theorem dL_law_112 : decode cL_law 112 = .ok (.iadd, 1) := by decide +kernel
theorem dL_law_113 : decode cL_law 113 = .ok (.iaload, 1) := by decide +kernel
theorem dL_law_114 : decode cL_law 114 = .ok (.invokevirtual 13, 3) := by decide +kernel
theorem dL_law_117 : decode cL_law 117 = .ok (.aload_n 2, 1) := by decide +kernel
theorem dL_law_118 : decode cL_law 118 = .ok (.aload_n 0, 1) := by decide +kernel
theorem dL_law_119 : decode cL_law 119 = .ok (.iload_n 3, 1) := by decide +kernel
theorem dL_law_120 : decode cL_law 120 = .ok (.iconst 1, 1) := by decide +kernel
theorem dL_law_121 : decode cL_law 121 = .ok (.iadd, 1) := by decide +kernel
theorem dL_law_122 : decode cL_law 122 = .ok (.iaload, 1) := by decide +kernel
theorem dL_law_123 : decode cL_law 123 = .ok (.invokevirtual 17, 3) := by decide +kernel
theorem dL_law_126 : decode cL_law 126 = .ok (.if_icmp .eq 377, 3) := by decide +kernel
theorem dL_law_129 : decode cL_law 129 = .ok (.iconst 0, 1) := by decide +kernel
theorem dL_law_130 : decode cL_law 130 = .ok (.ireturn, 1) := by decide +kernel
theorem dL_law_131 : decode cL_law 131 = .ok (.aload_n 1, 1) := by decide +kernel
theorem dL_law_132 : decode cL_law 132 = .ok (.invokevirtual 18, 3) := by decide +kernel
theorem dL_law_135 : decode cL_law 135 = .ok (.aload_n 2, 1) := by decide +kernel
theorem dL_law_136 : decode cL_law 136 = .ok (.invokevirtual 22, 3) := by decide +kernel
theorem dL_law_139 : decode cL_law 139 = .ok (.if_icmp .eq 364, 3) := by decide +kernel
theorem dL_law_142 : decode cL_law 142 = .ok (.iconst 0, 1) := by decide +kernel
theorem dL_law_143 : decode cL_law 143 = .ok (.ireturn, 1) := by decide +kernel
theorem dL_law_144 : decode cL_law 144 = .ok (.aload_n 1, 1) := by decide +kernel
theorem dL_law_145 : decode cL_law 145 = .ok (.invokevirtual 23, 3) := by decide +kernel
theorem dL_law_148 : decode cL_law 148 = .ok (.aload_n 2, 1) := by decide +kernel
theorem dL_law_149 : decode cL_law 149 = .ok (.invokevirtual 26, 3) := by decide +kernel
theorem dL_law_152 : decode cL_law 152 = .ok (.if_icmp .eq 351, 3) := by decide +kernel
theorem dL_law_155 : decode cL_law 155 = .ok (.iconst 0, 1) := by decide +kernel
theorem dL_law_156 : decode cL_law 156 = .ok (.ireturn, 1) := by decide +kernel
theorem dL_law_157 : decode cL_law 157 = .ok (.aload_n 1, 1) := by decide +kernel
theorem dL_law_158 : decode cL_law 158 = .ok (.aload_n 0, 1) := by decide +kernel
theorem dL_law_159 : decode cL_law 159 = .ok (.iload_n 3, 1) := by decide +kernel
theorem dL_law_160 : decode cL_law 160 = .ok (.iconst 1, 1) := by decide +kernel
theorem dL_law_161 : decode cL_law 161 = .ok (.iadd, 1) := by decide +kernel
theorem dL_law_162 : decode cL_law 162 = .ok (.iaload, 1) := by decide +kernel
theorem dL_law_163 : decode cL_law 163 = .ok (.aload_n 0, 1) := by decide +kernel
theorem dL_law_164 : decode cL_law 164 = .ok (.iload_n 3, 1) := by decide +kernel
theorem dL_law_165 : decode cL_law 165 = .ok (.iconst 2, 1) := by decide +kernel
theorem dL_law_166 : decode cL_law 166 = .ok (.iadd, 1) := by decide +kernel
theorem dL_law_167 : decode cL_law 167 = .ok (.iaload, 1) := by decide +kernel
theorem dL_law_168 : decode cL_law 168 = .ok (.invokevirtual 27, 3) := by decide +kernel
theorem dL_law_171 : decode cL_law 171 = .ok (.aload_n 2, 1) := by decide +kernel
theorem dL_law_172 : decode cL_law 172 = .ok (.aload_n 0, 1) := by decide +kernel
theorem dL_law_173 : decode cL_law 173 = .ok (.iload_n 3, 1) := by decide +kernel
theorem dL_law_174 : decode cL_law 174 = .ok (.iconst 1, 1) := by decide +kernel
theorem dL_law_175 : decode cL_law 175 = .ok (.iadd, 1) := by decide +kernel
theorem dL_law_176 : decode cL_law 176 = .ok (.iaload, 1) := by decide +kernel
theorem dL_law_177 : decode cL_law 177 = .ok (.aload_n 0, 1) := by decide +kernel
theorem dL_law_178 : decode cL_law 178 = .ok (.iload_n 3, 1) := by decide +kernel
theorem dL_law_179 : decode cL_law 179 = .ok (.iconst 2, 1) := by decide +kernel
theorem dL_law_180 : decode cL_law 180 = .ok (.iadd, 1) := by decide +kernel
theorem dL_law_181 : decode cL_law 181 = .ok (.iaload, 1) := by decide +kernel
theorem dL_law_182 : decode cL_law 182 = .ok (.invokevirtual 31, 3) := by decide +kernel
theorem dL_law_185 : decode cL_law 185 = .ok (.if_icmp .eq 318, 3) := by decide +kernel
theorem dL_law_188 : decode cL_law 188 = .ok (.iconst 0, 1) := by decide +kernel
theorem dL_law_189 : decode cL_law 189 = .ok (.ireturn, 1) := by decide +kernel
theorem dL_law_190 : decode cL_law 190 = .ok (.aload_n 1, 1) := by decide +kernel
theorem dL_law_191 : decode cL_law 191 = .ok (.aload_n 0, 1) := by decide +kernel
theorem dL_law_192 : decode cL_law 192 = .ok (.iload_n 3, 1) := by decide +kernel
theorem dL_law_193 : decode cL_law 193 = .ok (.iconst 1, 1) := by decide +kernel
theorem dL_law_194 : decode cL_law 194 = .ok (.iadd, 1) := by decide +kernel
theorem dL_law_195 : decode cL_law 195 = .ok (.iaload, 1) := by decide +kernel
theorem dL_law_196 : decode cL_law 196 = .ok (.aload_n 0, 1) := by decide +kernel
theorem dL_law_197 : decode cL_law 197 = .ok (.iload_n 3, 1) := by decide +kernel
theorem dL_law_198 : decode cL_law 198 = .ok (.iconst 2, 1) := by decide +kernel
theorem dL_law_199 : decode cL_law 199 = .ok (.iadd, 1) := by decide +kernel
theorem dL_law_200 : decode cL_law 200 = .ok (.iaload, 1) := by decide +kernel
theorem dL_law_201 : decode cL_law 201 = .ok (.aload_n 0, 1) := by decide +kernel
theorem dL_law_202 : decode cL_law 202 = .ok (.iload_n 3, 1) := by decide +kernel
theorem dL_law_203 : decode cL_law 203 = .ok (.iconst 3, 1) := by decide +kernel
theorem dL_law_204 : decode cL_law 204 = .ok (.iadd, 1) := by decide +kernel
theorem dL_law_205 : decode cL_law 205 = .ok (.iaload, 1) := by decide +kernel
theorem dL_law_206 : decode cL_law 206 = .ok (.invokevirtual 32, 3) := by decide +kernel
theorem dL_law_209 : decode cL_law 209 = .ok (.aload_n 2, 1) := by decide +kernel
theorem dL_law_210 : decode cL_law 210 = .ok (.aload_n 0, 1) := by decide +kernel
theorem dL_law_211 : decode cL_law 211 = .ok (.iload_n 3, 1) := by decide +kernel
theorem dL_law_212 : decode cL_law 212 = .ok (.iconst 1, 1) := by decide +kernel
theorem dL_law_213 : decode cL_law 213 = .ok (.iadd, 1) := by decide +kernel
theorem dL_law_214 : decode cL_law 214 = .ok (.iaload, 1) := by decide +kernel
theorem dL_law_215 : decode cL_law 215 = .ok (.aload_n 0, 1) := by decide +kernel
theorem dL_law_216 : decode cL_law 216 = .ok (.iload_n 3, 1) := by decide +kernel
theorem dL_law_217 : decode cL_law 217 = .ok (.iconst 2, 1) := by decide +kernel
theorem dL_law_218 : decode cL_law 218 = .ok (.iadd, 1) := by decide +kernel
theorem dL_law_219 : decode cL_law 219 = .ok (.iaload, 1) := by decide +kernel
theorem dL_law_220 : decode cL_law 220 = .ok (.aload_n 0, 1) := by decide +kernel
theorem dL_law_221 : decode cL_law 221 = .ok (.iload_n 3, 1) := by decide +kernel
theorem dL_law_222 : decode cL_law 222 = .ok (.iconst 3, 1) := by decide +kernel
theorem dL_law_223 : decode cL_law 223 = .ok (.iadd, 1) := by decide +kernel
theorem dL_law_224 : decode cL_law 224 = .ok (.iaload, 1) := by decide +kernel
theorem dL_law_225 : decode cL_law 225 = .ok (.invokevirtual 36, 3) := by decide +kernel
theorem dL_law_228 : decode cL_law 228 = .ok (.if_icmp .eq 275, 3) := by decide +kernel
theorem dL_law_231 : decode cL_law 231 = .ok (.iconst 0, 1) := by decide +kernel
theorem dL_law_232 : decode cL_law 232 = .ok (.ireturn, 1) := by decide +kernel
theorem dL_law_233 : decode cL_law 233 = .ok (.aload_n 1, 1) := by decide +kernel
theorem dL_law_234 : decode cL_law 234 = .ok (.aload_n 0, 1) := by decide +kernel
theorem dL_law_235 : decode cL_law 235 = .ok (.iload_n 3, 1) := by decide +kernel
theorem dL_law_236 : decode cL_law 236 = .ok (.iconst 1, 1) := by decide +kernel
theorem dL_law_237 : decode cL_law 237 = .ok (.iadd, 1) := by decide +kernel
theorem dL_law_238 : decode cL_law 238 = .ok (.iaload, 1) := by decide +kernel
theorem dL_law_239 : decode cL_law 239 = .ok (.invokevirtual 37, 3) := by decide +kernel
theorem dL_law_242 : decode cL_law 242 = .ok (.aload_n 2, 1) := by decide +kernel
theorem dL_law_243 : decode cL_law 243 = .ok (.aload_n 0, 1) := by decide +kernel
theorem dL_law_244 : decode cL_law 244 = .ok (.iload_n 3, 1) := by decide +kernel
theorem dL_law_245 : decode cL_law 245 = .ok (.iconst 1, 1) := by decide +kernel
theorem dL_law_246 : decode cL_law 246 = .ok (.iadd, 1) := by decide +kernel
theorem dL_law_247 : decode cL_law 247 = .ok (.iaload, 1) := by decide +kernel
theorem dL_law_248 : decode cL_law 248 = .ok (.invokevirtual 40, 3) := by decide +kernel
theorem dL_law_251 : decode cL_law 251 = .ok (.if_icmp .eq 252, 3) := by decide +kernel
theorem dL_law_254 : decode cL_law 254 = .ok (.iconst 0, 1) := by decide +kernel
theorem dL_law_255 : decode cL_law 255 = .ok (.ireturn, 1) := by decide +kernel
theorem dL_law_256 : decode cL_law 256 = .ok (.aload_n 1, 1) := by decide +kernel
theorem dL_law_257 : decode cL_law 257 = .ok (.aload_n 0, 1) := by decide +kernel
theorem dL_law_258 : decode cL_law 258 = .ok (.iload_n 3, 1) := by decide +kernel
theorem dL_law_259 : decode cL_law 259 = .ok (.iconst 1, 1) := by decide +kernel
theorem dL_law_260 : decode cL_law 260 = .ok (.iadd, 1) := by decide +kernel
theorem dL_law_261 : decode cL_law 261 = .ok (.iaload, 1) := by decide +kernel
theorem dL_law_262 : decode cL_law 262 = .ok (.invokevirtual 41, 3) := by decide +kernel
theorem dL_law_265 : decode cL_law 265 = .ok (.aload_n 2, 1) := by decide +kernel
theorem dL_law_266 : decode cL_law 266 = .ok (.aload_n 0, 1) := by decide +kernel
theorem dL_law_267 : decode cL_law 267 = .ok (.iload_n 3, 1) := by decide +kernel
theorem dL_law_268 : decode cL_law 268 = .ok (.iconst 1, 1) := by decide +kernel
theorem dL_law_269 : decode cL_law 269 = .ok (.iadd, 1) := by decide +kernel
theorem dL_law_270 : decode cL_law 270 = .ok (.iaload, 1) := by decide +kernel
theorem dL_law_271 : decode cL_law 271 = .ok (.invokevirtual 44, 3) := by decide +kernel
theorem dL_law_274 : decode cL_law 274 = .ok (.if_icmp .eq 229, 3) := by decide +kernel
theorem dL_law_277 : decode cL_law 277 = .ok (.iconst 0, 1) := by decide +kernel
theorem dL_law_278 : decode cL_law 278 = .ok (.ireturn, 1) := by decide +kernel
theorem dL_law_279 : decode cL_law 279 = .ok (.aload_n 1, 1) := by decide +kernel
theorem dL_law_280 : decode cL_law 280 = .ok (.aload_n 0, 1) := by decide +kernel
theorem dL_law_281 : decode cL_law 281 = .ok (.iload_n 3, 1) := by decide +kernel
theorem dL_law_282 : decode cL_law 282 = .ok (.iconst 1, 1) := by decide +kernel
theorem dL_law_283 : decode cL_law 283 = .ok (.iadd, 1) := by decide +kernel
theorem dL_law_284 : decode cL_law 284 = .ok (.iaload, 1) := by decide +kernel
theorem dL_law_285 : decode cL_law 285 = .ok (.aload_n 0, 1) := by decide +kernel
theorem dL_law_286 : decode cL_law 286 = .ok (.iload_n 3, 1) := by decide +kernel
theorem dL_law_287 : decode cL_law 287 = .ok (.iconst 2, 1) := by decide +kernel
theorem dL_law_288 : decode cL_law 288 = .ok (.iadd, 1) := by decide +kernel
theorem dL_law_289 : decode cL_law 289 = .ok (.iaload, 1) := by decide +kernel
theorem dL_law_290 : decode cL_law 290 = .ok (.aload_n 0, 1) := by decide +kernel
theorem dL_law_291 : decode cL_law 291 = .ok (.iload_n 3, 1) := by decide +kernel
theorem dL_law_292 : decode cL_law 292 = .ok (.iconst 3, 1) := by decide +kernel
theorem dL_law_293 : decode cL_law 293 = .ok (.iadd, 1) := by decide +kernel
theorem dL_law_294 : decode cL_law 294 = .ok (.iaload, 1) := by decide +kernel
theorem dL_law_295 : decode cL_law 295 = .ok (.invokevirtual 45, 3) := by decide +kernel
theorem dL_law_298 : decode cL_law 298 = .ok (.aload_n 2, 1) := by decide +kernel
theorem dL_law_299 : decode cL_law 299 = .ok (.aload_n 0, 1) := by decide +kernel
theorem dL_law_300 : decode cL_law 300 = .ok (.iload_n 3, 1) := by decide +kernel
theorem dL_law_301 : decode cL_law 301 = .ok (.iconst 1, 1) := by decide +kernel
theorem dL_law_302 : decode cL_law 302 = .ok (.iadd, 1) := by decide +kernel
theorem dL_law_303 : decode cL_law 303 = .ok (.iaload, 1) := by decide +kernel
theorem dL_law_304 : decode cL_law 304 = .ok (.aload_n 0, 1) := by decide +kernel
theorem dL_law_305 : decode cL_law 305 = .ok (.iload_n 3, 1) := by decide +kernel
theorem dL_law_306 : decode cL_law 306 = .ok (.iconst 2, 1) := by decide +kernel
theorem dL_law_307 : decode cL_law 307 = .ok (.iadd, 1) := by decide +kernel
theorem dL_law_308 : decode cL_law 308 = .ok (.iaload, 1) := by decide +kernel
theorem dL_law_309 : decode cL_law 309 = .ok (.aload_n 0, 1) := by decide +kernel
theorem dL_law_310 : decode cL_law 310 = .ok (.iload_n 3, 1) := by decide +kernel
theorem dL_law_311 : decode cL_law 311 = .ok (.iconst 3, 1) := by decide +kernel
theorem dL_law_312 : decode cL_law 312 = .ok (.iadd, 1) := by decide +kernel
theorem dL_law_313 : decode cL_law 313 = .ok (.iaload, 1) := by decide +kernel
theorem dL_law_314 : decode cL_law 314 = .ok (.invokevirtual 48, 3) := by decide +kernel
theorem dL_law_317 : decode cL_law 317 = .ok (.if_icmp .eq 186, 3) := by decide +kernel
theorem dL_law_320 : decode cL_law 320 = .ok (.iconst 0, 1) := by decide +kernel
theorem dL_law_321 : decode cL_law 321 = .ok (.ireturn, 1) := by decide +kernel
theorem dL_law_322 : decode cL_law 322 = .ok (.aload_n 1, 1) := by decide +kernel
theorem dL_law_323 : decode cL_law 323 = .ok (.invokevirtual 49, 3) := by decide +kernel
theorem dL_law_326 : decode cL_law 326 = .ok (.aload_n 2, 1) := by decide +kernel
theorem dL_law_327 : decode cL_law 327 = .ok (.invokevirtual 52, 3) := by decide +kernel
theorem dL_law_330 : decode cL_law 330 = .ok (.if_icmp .eq 173, 3) := by decide +kernel
theorem dL_law_333 : decode cL_law 333 = .ok (.iconst 0, 1) := by decide +kernel
theorem dL_law_334 : decode cL_law 334 = .ok (.ireturn, 1) := by decide +kernel
theorem dL_law_335 : decode cL_law 335 = .ok (.aload_n 1, 1) := by decide +kernel
theorem dL_law_336 : decode cL_law 336 = .ok (.aload_n 0, 1) := by decide +kernel
theorem dL_law_337 : decode cL_law 337 = .ok (.iload_n 3, 1) := by decide +kernel
theorem dL_law_338 : decode cL_law 338 = .ok (.iconst 1, 1) := by decide +kernel
theorem dL_law_339 : decode cL_law 339 = .ok (.iadd, 1) := by decide +kernel
theorem dL_law_340 : decode cL_law 340 = .ok (.iaload, 1) := by decide +kernel
theorem dL_law_341 : decode cL_law 341 = .ok (.invokevirtual 53, 3) := by decide +kernel
theorem dL_law_344 : decode cL_law 344 = .ok (.aload_n 2, 1) := by decide +kernel
theorem dL_law_345 : decode cL_law 345 = .ok (.aload_n 0, 1) := by decide +kernel
theorem dL_law_346 : decode cL_law 346 = .ok (.iload_n 3, 1) := by decide +kernel
theorem dL_law_347 : decode cL_law 347 = .ok (.iconst 1, 1) := by decide +kernel
theorem dL_law_348 : decode cL_law 348 = .ok (.iadd, 1) := by decide +kernel
theorem dL_law_349 : decode cL_law 349 = .ok (.iaload, 1) := by decide +kernel
theorem dL_law_350 : decode cL_law 350 = .ok (.invokevirtual 56, 3) := by decide +kernel
theorem dL_law_353 : decode cL_law 353 = .ok (.if_icmp .eq 150, 3) := by decide +kernel
theorem dL_law_356 : decode cL_law 356 = .ok (.iconst 0, 1) := by decide +kernel
theorem dL_law_357 : decode cL_law 357 = .ok (.ireturn, 1) := by decide +kernel
theorem dL_law_358 : decode cL_law 358 = .ok (.aload_n 1, 1) := by decide +kernel
theorem dL_law_359 : decode cL_law 359 = .ok (.aload_n 0, 1) := by decide +kernel
theorem dL_law_360 : decode cL_law 360 = .ok (.iload_n 3, 1) := by decide +kernel
theorem dL_law_361 : decode cL_law 361 = .ok (.iconst 1, 1) := by decide +kernel
theorem dL_law_362 : decode cL_law 362 = .ok (.iadd, 1) := by decide +kernel
theorem dL_law_363 : decode cL_law 363 = .ok (.iaload, 1) := by decide +kernel
theorem dL_law_364 : decode cL_law 364 = .ok (.aload_n 0, 1) := by decide +kernel
theorem dL_law_365 : decode cL_law 365 = .ok (.iload_n 3, 1) := by decide +kernel
theorem dL_law_366 : decode cL_law 366 = .ok (.iconst 2, 1) := by decide +kernel
theorem dL_law_367 : decode cL_law 367 = .ok (.iadd, 1) := by decide +kernel
theorem dL_law_368 : decode cL_law 368 = .ok (.iaload, 1) := by decide +kernel
theorem dL_law_369 : decode cL_law 369 = .ok (.aload_n 0, 1) := by decide +kernel
theorem dL_law_370 : decode cL_law 370 = .ok (.iload_n 3, 1) := by decide +kernel
theorem dL_law_371 : decode cL_law 371 = .ok (.iconst 3, 1) := by decide +kernel
theorem dL_law_372 : decode cL_law 372 = .ok (.iadd, 1) := by decide +kernel
theorem dL_law_373 : decode cL_law 373 = .ok (.iaload, 1) := by decide +kernel
theorem dL_law_374 : decode cL_law 374 = .ok (.invokevirtual 57, 3) := by decide +kernel
theorem dL_law_377 : decode cL_law 377 = .ok (.aload_n 2, 1) := by decide +kernel
theorem dL_law_378 : decode cL_law 378 = .ok (.aload_n 0, 1) := by decide +kernel
theorem dL_law_379 : decode cL_law 379 = .ok (.iload_n 3, 1) := by decide +kernel
theorem dL_law_380 : decode cL_law 380 = .ok (.iconst 1, 1) := by decide +kernel
theorem dL_law_381 : decode cL_law 381 = .ok (.iadd, 1) := by decide +kernel
theorem dL_law_382 : decode cL_law 382 = .ok (.iaload, 1) := by decide +kernel
theorem dL_law_383 : decode cL_law 383 = .ok (.aload_n 0, 1) := by decide +kernel
theorem dL_law_384 : decode cL_law 384 = .ok (.iload_n 3, 1) := by decide +kernel
theorem dL_law_385 : decode cL_law 385 = .ok (.iconst 2, 1) := by decide +kernel
theorem dL_law_386 : decode cL_law 386 = .ok (.iadd, 1) := by decide +kernel
theorem dL_law_387 : decode cL_law 387 = .ok (.iaload, 1) := by decide +kernel
theorem dL_law_388 : decode cL_law 388 = .ok (.aload_n 0, 1) := by decide +kernel
theorem dL_law_389 : decode cL_law 389 = .ok (.iload_n 3, 1) := by decide +kernel
theorem dL_law_390 : decode cL_law 390 = .ok (.iconst 3, 1) := by decide +kernel
theorem dL_law_391 : decode cL_law 391 = .ok (.iadd, 1) := by decide +kernel
theorem dL_law_392 : decode cL_law 392 = .ok (.iaload, 1) := by decide +kernel
theorem dL_law_393 : decode cL_law 393 = .ok (.invokevirtual 60, 3) := by decide +kernel
theorem dL_law_396 : decode cL_law 396 = .ok (.if_icmp .eq 107, 3) := by decide +kernel
theorem dL_law_399 : decode cL_law 399 = .ok (.iconst 0, 1) := by decide +kernel
theorem dL_law_400 : decode cL_law 400 = .ok (.ireturn, 1) := by decide +kernel
theorem dL_law_401 : decode cL_law 401 = .ok (.aload_n 1, 1) := by decide +kernel
theorem dL_law_402 : decode cL_law 402 = .ok (.aload_n 0, 1) := by decide +kernel
theorem dL_law_403 : decode cL_law 403 = .ok (.iload_n 3, 1) := by decide +kernel
theorem dL_law_404 : decode cL_law 404 = .ok (.iconst 1, 1) := by decide +kernel
theorem dL_law_405 : decode cL_law 405 = .ok (.iadd, 1) := by decide +kernel
theorem dL_law_406 : decode cL_law 406 = .ok (.iaload, 1) := by decide +kernel
theorem dL_law_407 : decode cL_law 407 = .ok (.aload_n 0, 1) := by decide +kernel
theorem dL_law_408 : decode cL_law 408 = .ok (.iload_n 3, 1) := by decide +kernel
theorem dL_law_409 : decode cL_law 409 = .ok (.iconst 2, 1) := by decide +kernel
theorem dL_law_410 : decode cL_law 410 = .ok (.iadd, 1) := by decide +kernel
theorem dL_law_411 : decode cL_law 411 = .ok (.iaload, 1) := by decide +kernel
theorem dL_law_412 : decode cL_law 412 = .ok (.invokevirtual 61, 3) := by decide +kernel
theorem dL_law_415 : decode cL_law 415 = .ok (.aload_n 2, 1) := by decide +kernel
theorem dL_law_416 : decode cL_law 416 = .ok (.aload_n 0, 1) := by decide +kernel
theorem dL_law_417 : decode cL_law 417 = .ok (.iload_n 3, 1) := by decide +kernel
theorem dL_law_418 : decode cL_law 418 = .ok (.iconst 1, 1) := by decide +kernel
theorem dL_law_419 : decode cL_law 419 = .ok (.iadd, 1) := by decide +kernel
theorem dL_law_420 : decode cL_law 420 = .ok (.iaload, 1) := by decide +kernel
theorem dL_law_421 : decode cL_law 421 = .ok (.aload_n 0, 1) := by decide +kernel
theorem dL_law_422 : decode cL_law 422 = .ok (.iload_n 3, 1) := by decide +kernel
theorem dL_law_423 : decode cL_law 423 = .ok (.iconst 2, 1) := by decide +kernel
theorem dL_law_424 : decode cL_law 424 = .ok (.iadd, 1) := by decide +kernel
theorem dL_law_425 : decode cL_law 425 = .ok (.iaload, 1) := by decide +kernel
theorem dL_law_426 : decode cL_law 426 = .ok (.invokevirtual 64, 3) := by decide +kernel
theorem dL_law_429 : decode cL_law 429 = .ok (.if_icmp .eq 74, 3) := by decide +kernel
theorem dL_law_432 : decode cL_law 432 = .ok (.iconst 0, 1) := by decide +kernel
theorem dL_law_433 : decode cL_law 433 = .ok (.ireturn, 1) := by decide +kernel
theorem dL_law_434 : decode cL_law 434 = .ok (.aload_n 1, 1) := by decide +kernel
theorem dL_law_435 : decode cL_law 435 = .ok (.aload_n 0, 1) := by decide +kernel
theorem dL_law_436 : decode cL_law 436 = .ok (.iload_n 3, 1) := by decide +kernel
theorem dL_law_437 : decode cL_law 437 = .ok (.iconst 1, 1) := by decide +kernel
theorem dL_law_438 : decode cL_law 438 = .ok (.iadd, 1) := by decide +kernel
theorem dL_law_439 : decode cL_law 439 = .ok (.iaload, 1) := by decide +kernel
theorem dL_law_440 : decode cL_law 440 = .ok (.invokevirtual 65, 3) := by decide +kernel
theorem dL_law_443 : decode cL_law 443 = .ok (.aload_n 2, 1) := by decide +kernel
theorem dL_law_444 : decode cL_law 444 = .ok (.aload_n 0, 1) := by decide +kernel
theorem dL_law_445 : decode cL_law 445 = .ok (.iload_n 3, 1) := by decide +kernel
theorem dL_law_446 : decode cL_law 446 = .ok (.iconst 1, 1) := by decide +kernel
theorem dL_law_447 : decode cL_law 447 = .ok (.iadd, 1) := by decide +kernel
theorem dL_law_448 : decode cL_law 448 = .ok (.iaload, 1) := by decide +kernel
theorem dL_law_449 : decode cL_law 449 = .ok (.invokevirtual 68, 3) := by decide +kernel
theorem dL_law_452 : decode cL_law 452 = .ok (.if_icmp .eq 51, 3) := by decide +kernel
theorem dL_law_455 : decode cL_law 455 = .ok (.iconst 0, 1) := by decide +kernel
theorem dL_law_456 : decode cL_law 456 = .ok (.ireturn, 1) := by decide +kernel
theorem dL_law_457 : decode cL_law 457 = .ok (.aload_n 1, 1) := by decide +kernel
theorem dL_law_458 : decode cL_law 458 = .ok (.aload_n 0, 1) := by decide +kernel
theorem dL_law_459 : decode cL_law 459 = .ok (.iload_n 3, 1) := by decide +kernel
theorem dL_law_460 : decode cL_law 460 = .ok (.iconst 1, 1) := by decide +kernel
theorem dL_law_461 : decode cL_law 461 = .ok (.iadd, 1) := by decide +kernel
theorem dL_law_462 : decode cL_law 462 = .ok (.iaload, 1) := by decide +kernel
theorem dL_law_463 : decode cL_law 463 = .ok (.invokevirtual 69, 3) := by decide +kernel
theorem dL_law_466 : decode cL_law 466 = .ok (.aload_n 2, 1) := by decide +kernel
theorem dL_law_467 : decode cL_law 467 = .ok (.aload_n 0, 1) := by decide +kernel
theorem dL_law_468 : decode cL_law 468 = .ok (.iload_n 3, 1) := by decide +kernel
theorem dL_law_469 : decode cL_law 469 = .ok (.iconst 1, 1) := by decide +kernel
theorem dL_law_470 : decode cL_law 470 = .ok (.iadd, 1) := by decide +kernel
theorem dL_law_471 : decode cL_law 471 = .ok (.iaload, 1) := by decide +kernel
theorem dL_law_472 : decode cL_law 472 = .ok (.invokevirtual 72, 3) := by decide +kernel
theorem dL_law_475 : decode cL_law 475 = .ok (.if_icmp .eq 28, 3) := by decide +kernel
theorem dL_law_478 : decode cL_law 478 = .ok (.iconst 0, 1) := by decide +kernel
theorem dL_law_479 : decode cL_law 479 = .ok (.ireturn, 1) := by decide +kernel
theorem dL_law_480 : decode cL_law 480 = .ok (.aload_n 1, 1) := by decide +kernel
theorem dL_law_481 : decode cL_law 481 = .ok (.aload_n 0, 1) := by decide +kernel
theorem dL_law_482 : decode cL_law 482 = .ok (.iload_n 3, 1) := by decide +kernel
theorem dL_law_483 : decode cL_law 483 = .ok (.iconst 1, 1) := by decide +kernel
theorem dL_law_484 : decode cL_law 484 = .ok (.iadd, 1) := by decide +kernel
theorem dL_law_485 : decode cL_law 485 = .ok (.iaload, 1) := by decide +kernel
theorem dL_law_486 : decode cL_law 486 = .ok (.invokevirtual 73, 3) := by decide +kernel
theorem dL_law_489 : decode cL_law 489 = .ok (.aload_n 2, 1) := by decide +kernel
theorem dL_law_490 : decode cL_law 490 = .ok (.aload_n 0, 1) := by decide +kernel
theorem dL_law_491 : decode cL_law 491 = .ok (.iload_n 3, 1) := by decide +kernel
theorem dL_law_492 : decode cL_law 492 = .ok (.iconst 1, 1) := by decide +kernel
theorem dL_law_493 : decode cL_law 493 = .ok (.iadd, 1) := by decide +kernel
theorem dL_law_494 : decode cL_law 494 = .ok (.iaload, 1) := by decide +kernel
theorem dL_law_495 : decode cL_law 495 = .ok (.invokevirtual 76, 3) := by decide +kernel
theorem dL_law_498 : decode cL_law 498 = .ok (.if_icmp .eq 5, 3) := by decide +kernel
theorem dL_law_501 : decode cL_law 501 = .ok (.iconst 0, 1) := by decide +kernel
theorem dL_law_502 : decode cL_law 502 = .ok (.ireturn, 1) := by decide +kernel
theorem dL_law_503 : decode cL_law 503 = .ok (.iinc 3 4, 3) := by decide +kernel
theorem dL_law_506 : decode cL_law 506 = .ok (.goto (-488), 3) := by decide +kernel
theorem dL_law_509 : decode cL_law 509 = .ok (.iconst 1, 1) := by decide +kernel
theorem dL_law_510 : decode cL_law 510 = .ok (.ireturn, 1) := by decide +kernel
end
section
/-! ===== the light judgement: a method of the system over a memory of ints at fixed handles ===== -/
abbrev wd_AV : Type := Int32 ⊕ Nat
abbrev wd_Mem : Type := Nat → Nat → Int32
abbrev wd_Sh : Type := (FieldType × Nat) ⊕ (List Nat ⊕ (Nat × List (Option Nat)))
abbrev wd_G : Type := Launch × va_G × (Nat → Nat) × (Nat → ClassId)
def mset (μ : wd_Mem) (k j : Nat) (x : Int32) : wd_Mem := fun a b => if a = k ∧ b = j then x else μ a b
def wd_cv (ad : Nat → Nat) (v : wd_AV) : Value := match v with
  | .inl x => .int x
  | .inr k => .ref (ad k)
/-- the shape of the system: a row a handle; a row of numbers (type, length), of references, an object (class, fields: none is a number) -/
def wd_win (h : Nat) : List wd_Sh := [.inr (.inr (6, [some (h + 1), some (h + 2), some (h + 3)])), .inl (.int, 10), .inl (.int, 10), .inl (.int, 10)]
def wd_sh : List wd_Sh := [
  .inr (.inr (7, [some 1, some 3, some 6, some 48, some 52, some 29, some 30, some 27, some 9, some 18, some 21])),
  .inr (.inr (5, [some 2, none, none, none, none, none])), .inl (.int, 100),
  .inr (.inr (4, [none, none, some 4, some 5])), .inl (.int, 5), .inl (.int, 5),
  .inr (.inr (4, [none, none, some 7, some 8])), .inl (.int, 5), .inl (.int, 5),
  .inr (.inr (3, [some 3, some 10, some 11, some 12, some 13, some 14, some 15, some 16, some 17])),
  .inl (.int, 5), .inl (.int, 5), .inl (.int, 5), .inl (.int, 5), .inl (.int, 32), .inl (.int, 32), .inl (.int, 32), .inl (.int, 32),
  .inr (.inr (1, [some 3, some 9, some 19, some 20])), .inl (.int, 5), .inl (.int, 5),
  .inr (.inr (2, [some 3, some 22, some 23, some 24, some 25, some 26, none])), .inl (.int, 5), .inl (.int, 5), .inl (.int, 5), .inl (.int, 5), .inl (.int, 16),
  .inr (.inr (0, [some 28, none, none])), .inr (.inl [64, 68, 72, 76, 80, 84, 88, 92, 96, 100]),
  .inr (.inl [56, 60]), .inl (.boolean, 2),
  .inr (.inr (8, [none, none, some 32, some 33, some 34, none, none, some 35, some 36, some 37, none, some 38, none, none, none, none, none, none, none, some 39, some 40, some 41, some 42, some 43, some 44, some 45, some 46, some 47])),
  .inl (.int, 5), .inl (.int, 5), .inl (.int, 30), .inl (.int, 300), .inl (.boolean, 2), .inl (.int, 60), .inl (.int, 100), .inl (.int, 20),
  .inl (.int, 5), .inl (.int, 5), .inl (.int, 5), .inl (.int, 5), .inl (.int, 30), .inl (.int, 5), .inl (.int, 16), .inl (.int, 5)]
  ++ (wd_win 48 ++ (wd_win 52 ++ (wd_win 56 ++ (wd_win 60 ++ (wd_win 64 ++ (wd_win 68 ++ (wd_win 72 ++ (wd_win 76 ++ (wd_win 80 ++ (wd_win 84 ++ (wd_win 88 ++ (wd_win 92 ++ (wd_win 96 ++ wd_win 100)))))))))))))
def wd_cell (ad : Nat → Nat) (ca : Nat → ClassId) (μ : wd_Mem) (k : Nat) (sh : wd_Sh) : va_E := match sh with
  | .inl q => .inl (ca k, q.2, .inl (μ k))
  | .inr (.inl hs) => .inl (ca k, hs.length, .inr (.inr (.inr (.inr (fun i => (hs[i]?).map ad)))))
  | .inr (.inr q) => .inr (q.1, q.2.mapIdx (fun j o => match o with
    | none => Value.int (μ k j)
    | some h => Value.ref (ad h)))
def wd_W (G : wd_G) (μ : wd_Mem) : va_W := wd_sh.mapIdx (fun k sh => (G.2.2.1 k, wd_cell G.2.2.1 G.2.2.2 μ k sh))
theorem wd_W_get (G : wd_G) (μ : wd_Mem) {k : Nat} {sh : wd_Sh} (h : wd_sh[k]? = some sh) : (wd_W G μ)[k]? = some (G.2.2.1 k, wd_cell G.2.2.1 G.2.2.2 μ k sh) := by
  simp [wd_W, List.getElem?_mapIdx, h]
theorem wd_cell_congr {ad : Nat → Nat} {ca : Nat → ClassId} {μ ν : wd_Mem} {k : Nat} (h : μ k = ν k) (sh : wd_Sh) : wd_cell ad ca μ k sh = wd_cell ad ca ν k sh := by
  rcases sh with q | hs | q
  · simp [wd_cell, h]
  · simp [wd_cell]
  · simp [wd_cell, h]
theorem wd_W_set (G : wd_G) {μ ν : wd_Mem} {k : Nat} {sh : wd_Sh} (h : wd_sh[k]? = some sh) (hk : ∀ a, a ≠ k → ν a = μ a) : (wd_W G μ).set k (G.2.2.1 k, wd_cell G.2.2.1 G.2.2.2 ν k sh) = wd_W G ν := by
  apply List.ext_getElem?
  intro i
  rw [List.getElem?_set]
  by_cases hi : k = i
  · subst hi
    rw [if_pos rfl, wd_W_get G ν h, if_pos]
    simp only [wd_W, List.length_mapIdx]
    exact (List.getElem?_eq_some_iff.mp h).1
  · rw [if_neg hi]
    simp only [wd_W, List.getElem?_mapIdx]
    cases hs : wd_sh[i]? with
    | none => rfl
    | some sh2 => simp only [Option.map_some]; rw [wd_cell_congr (hk i (fun e => hi e.symm)) sh2]
theorem wd_W_ad (G : wd_G) (μ : wd_Mem) {k : Nat} {q : Nat × va_E} (h : (wd_W G μ)[k]? = some q) : k < wd_sh.length ∧ q.1 = G.2.2.1 k := by
  simp only [wd_W, List.getElem?_mapIdx] at h
  cases hs : wd_sh[k]? with
  | none => rw [hs] at h; cases h
  | some sh =>
    rw [hs] at h
    simp only [Option.map_some, Option.some.injEq] at h
    exact ⟨(List.getElem?_eq_some_iff.mp hs).1, by rw [← h]⟩
theorem wd_W_has (G : wd_G) (ν : wd_Mem) {k : Nat} (h : k < wd_sh.length) : ∃ q : Nat × va_E, (wd_W G ν)[k]? = some q ∧ q.1 = G.2.2.1 k := ⟨_, wd_W_get G ν (List.getElem?_eq_getElem h), rfl⟩
theorem wd_D_any (G : wd_G) {μ ν : wd_Mem} {A B : Nat → Prop} (h : va_D A (wd_W G μ)) (hB : ∀ k, k < wd_sh.length → B (G.2.2.1 k)) : va_D B (wd_W G ν) := by
  refine ⟨fun i j p q hp hq e => ?_, fun k q hk => ?_⟩
  · obtain ⟨h1, e1⟩ := wd_W_ad G ν hp
    obtain ⟨h2, e2⟩ := wd_W_ad G ν hq
    obtain ⟨p', hp', e1'⟩ := wd_W_has G μ h1
    obtain ⟨q', hq', e2'⟩ := wd_W_has G μ h2
    exact h.1 i j p' q' hp' hq' (by rw [e1', e2', ← e1, ← e2, e])
  · obtain ⟨h1, e1⟩ := wd_W_ad G ν hk
    rw [e1]
    exact hB k h1
def wd_tab : List Cond := lw_tbl.filter goodWord
theorem wd_tab_in {w : Cond} (h : w ∈ tables_1) (hg : goodWord w = true) : w ∈ wd_tab := List.mem_filter.mpr ⟨List.mem_append_right _ h, hg⟩
theorem wd_tab_sel {i : Nat} {q : MethodName × Nat} (h : lw_privs[i]? = some q) : Cond.selects q.1.cls q.1 q.1 ∈ wd_tab := List.mem_filter.mpr ⟨List.mem_append_left _ (List.mem_map.mpr ⟨q, List.mem_of_getElem? h, rfl⟩), rfl⟩
def wd_ws (y : MethodName) (bytes : ByteArray) (n : Nat) (ret : Option FieldType) : List Cond := Cond.code y bytes n ret :: wd_tab
theorem wd_good {y y2 : MethodName} {b b2 : ByteArray} {n n2 : Nat} {r r2 : Option FieldType} (h : Cond.code y2 b2 n2 r2 ∈ wd_tab) : GoodIn (wd_ws y b n r) (wd_ws y2 b2 n2 r2) := by
  intro w hw
  have h1 : w ∈ wd_tab := by
    rcases List.mem_cons.mp hw with e | e
    · rw [e]; exact h
    · exact e
  exact ⟨List.mem_cons_of_mem _ h1, good_of_word (List.mem_filter.mp h1).2⟩
theorem wd_goodT {y2 : MethodName} {b2 : ByteArray} {n2 : Nat} {r2 : Option FieldType} (h : Cond.code y2 b2 n2 r2 ∈ wd_tab) : GoodIn wd_tab (wd_ws y2 b2 n2 r2) := by
  intro w hw
  have h1 : w ∈ wd_tab := by
    rcases List.mem_cons.mp hw with e | e
    · rw [e]; exact h
    · exact e
  exact ⟨h1, good_of_word (List.mem_filter.mp h1).2⟩
def wd_nest : Cond := .methodLinkNest "WindowDesk$Search" 100 yX7_power "WindowDesk"
def wd_KK (G : wd_G) (U : State) : Prop := va_K G.2.1 vwCl [] U ∧ (∀ (k : Nat) (q : FieldType × Nat), wd_sh[k]? = some (.inl q) → va_K G.2.1 vwCl [(G.2.2.2 k, q.1)] U) ∧ (∀ (k : Nat) (hs : List Nat), wd_sh[k]? = some (.inr (.inl hs)) → va_K G.2.1 vwCl [(G.2.2.2 k, .object "WindowDesk$Windows")] U) ∧ va_Nw wd_nest U
theorem wd_KK.warm {G : wd_G} {s U : State} (hW : s.WarmedH U.vm) (h : wd_KK G s) : wd_KK G U := ⟨va_K.moved hW.alike h.1, fun k q hk => va_K.moved hW.alike (h.2.1 k q hk), fun k hs hk => va_K.moved hW.alike (h.2.2.1 k hs hk), va_Nw.warmM hW h.2.2.2⟩
theorem wd_KK.same {G : wd_G} {s U : State} (hV : s.vm = U.vm) (h : wd_KK G s) : wd_KK G U := by
  have ha : s.vm.Alike U.vm := by rw [hV]; exact Vm.Alike.refl U.vm
  exact ⟨va_K.moved ha h.1, fun k q hk => va_K.moved ha (h.2.1 k q hk), fun k hs hk => va_K.moved ha (h.2.2.1 k hs hk), va_Nw.same rfl hV h.2.2.2⟩
def wd_room (d : Nat) : Room := { frames := d, cells := 0, slots := 0, locals := 40 * d }
def wd_A (G : wd_G) (sz : Nat) : Nat → Prop := fun q => (∃ k, k < wd_sh.length ∧ q = G.2.2.1 k) ∨ sz ≤ q
theorem wd_D_A (G : wd_G) {μ ν : wd_Mem} {A : Nat → Prop} (sz : Nat) (h : va_D A (wd_W G μ)) : va_D (wd_A G sz) (wd_W G ν) := wd_D_any G h (fun k hk => Or.inl ⟨k, hk, rfl⟩)
def wd_Post (G : wd_G) (Q : Option wd_AV → wd_Mem → Prop) (sz : Nat) : Array Value → State → Outcome → State → Prop := fun _ st oc t => (∃ (r : Option wd_AV) (u : wd_Mem), oc = .returned (r.map (wd_cv G.2.2.1)) ∧ Q r u ∧ va_P G.2.1 vwCl (wd_W G u) t.heap) ∧ va_F (wd_A G sz) st t
def wd_Pre (G : wd_G) (as : List wd_AV) (μ : wd_Mem) (sz : Nat) : Array Value → State → Prop := va_Pc (as.map (wd_cv G.2.2.1)) (fun U => U.heap.size = sz ∧ va_P G.2.1 vwCl (wd_W G μ) U.heap ∧ wd_KK G U ∧ va_D (fun _ => True) (wd_W G μ))
/-- a method's contract: from the memory μ, called with as, it comes to an answer and a memory of which Q holds -/
def wd_C (G : wd_G) (d : Nat) (y : MethodName) (as : List wd_AV) (μ : wd_Mem) (Q : Option wd_AV → wd_Mem → Prop) : Prop := ∃ (bytes : ByteArray) (n : Nat) (ret : Option FieldType), Cond.code y bytes n ret ∈ wd_tab ∧ n ≤ 20 ∧ ∀ sz : Nat, Met G.1 y (wd_ws y bytes n ret) (wd_room d) (wd_Pre G as μ sz) (wd_Post G Q sz) 0 0 (wd_A G sz)
def wd_Lc (ad : Nat → Nat) (L : List (Option wd_AV)) : List (Nat × Value) := (List.range L.length).filterMap (fun j => ((L[j]?).bind id).map (fun v => (j, wd_cv ad v)))
theorem wd_Lc_mem {ad : Nat → Nat} {L : List (Option wd_AV)} {j : Nat} {w : Value} : (j, w) ∈ wd_Lc ad L ↔ ∃ v, L[j]? = some (some v) ∧ w = wd_cv ad v := by
  constructor
  · intro h
    obtain ⟨i, -, hi⟩ := List.mem_filterMap.mp h
    cases hL : L[i]? with
    | none => rw [hL] at hi; simp at hi
    | some o =>
      cases o with
      | none => rw [hL] at hi; simp at hi
      | some v =>
        rw [hL] at hi
        simp only [Option.bind_some, id_eq, Option.map_some, Option.some.injEq, Prod.mk.injEq] at hi
        obtain ⟨rfl, rfl⟩ := hi
        exact ⟨v, hL, rfl⟩
  · rintro ⟨v, h, rfl⟩
    exact List.mem_filterMap.mpr ⟨j, List.mem_range.mpr (List.getElem?_eq_some_iff.mp h).1, by rw [h]; rfl⟩
theorem wd_cv_cat (ad : Nat → Nat) (v : wd_AV) : (wd_cv ad v).category = 1 := by
  cases v <;> rfl
theorem wd_Lc_at {ad : Nat → Nat} {ls : Array Slot} {nL : Nat} {L : List (Option wd_AV)} (hl : lv_has ls nL (wd_Lc ad L)) {i : Nat} {v : wd_AV} (h : L[i]? = some (some v)) : ls[i]? = some (.val (wd_cv ad v)) := hl.2.2 (i, wd_cv ad v) (wd_Lc_mem.mpr ⟨v, h, rfl⟩)
theorem wd_Lc_put {ad : Nat → Nat} {ls : Array Slot} {nL i : Nat} {L L' : List (Option wd_AV)} {v : wd_AV} (hL : L.set i (some v) = L') (hl : lv_has ls nL ((i, wd_cv ad v) :: (wd_Lc ad L).filter (fun q => !(q.1 == i) && !(q.1 + 1 == i && q.2.category == 2)))) : lv_has ls nL (wd_Lc ad L') := by
  subst hL
  refine ⟨hl.1, hl.2.1, ?_⟩
  rintro ⟨j, w⟩ hq
  obtain ⟨u, hu, rfl⟩ := wd_Lc_mem.mp hq
  rw [List.getElem?_set] at hu
  by_cases hij : i = j
  · subst hij
    rw [if_pos rfl] at hu
    split at hu
    · simp only [Option.some.injEq] at hu
      subst hu
      exact hl.2.2 _ List.mem_cons_self
    · cases hu
  · rw [if_neg hij] at hu
    refine hl.2.2 _ (List.mem_cons_of_mem _ (List.mem_filter.mpr ⟨wd_Lc_mem.mpr ⟨u, hu, rfl⟩, ?_⟩))
    simp [wd_cv_cat, Ne.symm hij]
theorem wd_Lc_less {ad : Nat → Nat} {ls : Array Slot} {nL : Nat} {L L' : List (Option wd_AV)} (h : ∀ (i : Nat) (v : wd_AV), L'[i]? = some (some v) → L[i]? = some (some v)) (hl : lv_has ls nL (wd_Lc ad L)) : lv_has ls nL (wd_Lc ad L') := by
  refine ⟨hl.1, hl.2.1, ?_⟩
  rintro ⟨j, w⟩ hq
  obtain ⟨u, hu, rfl⟩ := wd_Lc_mem.mp hq
  exact wd_Lc_at hl (h j u hu)
/-- what a method's walk may use at every place -/
def wd_X (G : wd_G) (own : String) (cc : ByteArray) (nL : Nat) (ret : Option FieldType) (p : Program) (s : State) (m : MethodId) (args : Array Value) (meth : Method) (c : Code) : Prop :=
  p.tables.exec = Jvm.exec ∧ c.code = cc ∧ c.maxLocals = nL ∧ s.vm.findClass own = some m.cls ∧ (∀ w ∈ wd_tab, w.before args s = true) ∧ meth.sig.returnType = ret ∧ meth.locks = false ∧ wd_KK G s
def wd_V (G : wd_G) (d : Nat) (own : String) (cc : ByteArray) (nL : Nat) (ret : Option FieldType) (Q : Option wd_AV → wd_Mem → Prop) (pc : Nat) (L : List (Option wd_AV)) (S : List wd_AV) (μ : wd_Mem) : Prop :=
  ∀ (p : Program) (e : Env) (s : State) (m : MethodId) (args : Array Value) (below : List Frame) (meth : Method) (c : Code) (H : Heap) (locs : List Loc) (ls : Array Slot),
    wd_X G own cc nL ret p s m args meth c → lv_has ls nL (wd_Lc G.2.2.1 L) → va_P G.2.1 vwCl (wd_W G μ) H → va_D (wd_A G s.heap.size) (wd_W G μ) → va_S (wd_A G s.heap.size) s.heap H locs →
    W p G.1 e (wd_room d) s m args below meth c H locs 0 0 (MQ below (wd_Post G Q s.heap.size) args s 0 0 (wd_A G s.heap.size)) (F0 m pc ls (S.map (wd_cv G.2.2.1)))
end
section
/-! what the tables say of a field, of a method -/
def wd_cls (ci : Nat) (C : String) (T : u_T) (N : Nat) : Prop := vwCl[ci]? = some (C, T, N) ∧ (∀ w ∈ u_ws C T N, w ∈ wd_tab) ∧ (∃ ty0 : Nat → FieldType, ∀ k, k < N → parseFieldDescriptor (T k).2.2.1 = some (ty0 k)) ∧ (∀ a, a < N → ∀ b, b < N → a ≠ b → (T a).2.1 ≠ (T b).2.1)
def wd_FL (own : String) (idx ci j : Nat) : Prop := ∃ (C : String) (T : u_T) (N : Nat), wd_cls ci C T N ∧ j < N ∧ Cond.fieldLink own idx (T j).1 (T j).2.1 (T j).2.2.1 ∈ wd_tab
def wd_FP (own : String) (idx ci j : Nat) : Prop := ∃ (C : String) (T : u_T) (N : Nat), wd_cls ci C T N ∧ j < N ∧ Cond.fieldLink own idx (T j).1 (T j).2.1 (T j).2.2.1 ∈ wd_tab ∧ (T j).2.2.2 = false ∧ parseFieldDescriptor (T j).2.2.1 = some .int
def wd_ML (own : String) (idx : Nat) (y : MethodName) (n : Nat) : Prop := Cond.methodLink own idx y ∈ wd_tab ∧ Cond.initialized y.cls ∈ wd_tab ∧ (y.cls ≠ "java/lang/invoke/MethodHandle" ∧ y.cls ≠ "java/lang/invoke/VarHandle" ∧ (parseMethodDescriptor y.desc).map (fun d => d.parameters.length) = some n)
def wd_MV (own : String) (idx : Nat) (y : MethodName) (n : Nat) : Prop := wd_ML own idx y n ∧ Cond.instanceMethod y ∈ wd_tab ∧ Cond.selects y.cls y y ∈ wd_tab
def wd_MS (own : String) (idx : Nat) (y : MethodName) (n : Nat) : Prop := wd_ML own idx y n ∧ Cond.static y ∈ wd_tab
def wd_MM (own : String) (idx : Nat) (y : MethodName) (code : ByteArray) : Prop := Cond.methodLink own idx y ∈ wd_tab ∧ Cond.static y ∈ wd_tab ∧ Cond.initialized "java/lang/Math" ∈ wd_tab ∧ Cond.code y code 2 (some .int) ∈ wd_tab
theorem wd_cats (ad : Nat → Nat) (S : List wd_AV) : ((S.map (wd_cv ad)).map fun v => v.category).sum = S.length := by
  induction S with
  | nil => rfl
  | cons v t ih => simp only [List.map_cons, List.sum_cons, ih, wd_cv_cat, List.length_cons]; omega
section WV
variable {G : wd_G} {d : Nat} {own : String} {cc : ByteArray} {nL : Nat} {ret : Option FieldType} {Q : Option wd_AV → wd_Mem → Prop} {pc pc' : Nat} {L : List (Option wd_AV)} {S : List wd_AV} {μ : wd_Mem}
theorem wv_less {L' : List (Option wd_AV)} (h : ∀ (i : Nat) (v : wd_AV), L'[i]? = some (some v) → L[i]? = some (some v)) (k : wd_V G d own cc nL ret Q pc L' S μ) : wd_V G d own cc nL ret Q pc L S μ := by
  intro p e s m args below meth c H locs ls X hl hP hD hS
  exact k p e s m args below meth c H locs ls X (wd_Lc_less h hl) hP hD hS
theorem wv_iconst {n : Int} {v : Int32} (hdg : decode cc pc = .ok (.iconst n, 1)) (hv : Int32.ofInt n = v) (hp : pc + 1 = pc') (k : wd_V G d own cc nL ret Q pc' L (.inl v :: S) μ) : wd_V G d own cc nL ret Q pc L S μ := by
  subst hp
  intro p e s m args below meth c H locs ls X hl hP hD hS
  exact lv_iconst X.1 X.2.1 hdg hv (k p e s m args below meth c H locs ls X hl hP hD hS)
theorem wv_bipush {n : Int} {v : Int32} (hdg : decode cc pc = .ok (.bipush n, 2)) (hv : (Int8.ofInt n).toInt32 = v) (hp : pc + 2 = pc') (k : wd_V G d own cc nL ret Q pc' L (.inl v :: S) μ) : wd_V G d own cc nL ret Q pc L S μ := by
  subst hp
  intro p e s m args below meth c H locs ls X hl hP hD hS
  exact lv_bipush X.1 X.2.1 hdg hv (k p e s m args below meth c H locs ls X hl hP hD hS)
theorem wv_sipush {n : Int} {v : Int32} (hdg : decode cc pc = .ok (.sipush n, 3)) (hv : (Int16.ofInt n).toInt32 = v) (hp : pc + 3 = pc') (k : wd_V G d own cc nL ret Q pc' L (.inl v :: S) μ) : wd_V G d own cc nL ret Q pc L S μ := by
  subst hp
  intro p e s m args below meth c H locs ls X hl hP hD hS
  exact lv_sipush X.1 X.2.1 hdg hv (k p e s m args below meth c H locs ls X hl hP hD hS)
theorem wv_iload_n {f : Fin 4} {i : Nat} {v : Int32} (hdg : decode cc pc = .ok (.iload_n f, 1)) (hi : (f : Nat) = i) (h : L[i]? = some (some (.inl v))) (hp : pc + 1 = pc') (k : wd_V G d own cc nL ret Q pc' L (.inl v :: S) μ) : wd_V G d own cc nL ret Q pc L S μ := by
  subst hp
  intro p e s m args below meth c H locs ls X hl hP hD hS
  exact lv_iload_n X.1 X.2.1 hdg hi (wd_Lc_at hl h) (k p e s m args below meth c H locs ls X hl hP hD hS)
theorem wv_iload {i : Nat} {v : Int32} (hdg : decode cc pc = .ok (.iload i, 2)) (h : L[i]? = some (some (.inl v))) (hp : pc + 2 = pc') (k : wd_V G d own cc nL ret Q pc' L (.inl v :: S) μ) : wd_V G d own cc nL ret Q pc L S μ := by
  subst hp
  intro p e s m args below meth c H locs ls X hl hP hD hS
  exact lv_iload X.1 X.2.1 hdg (wd_Lc_at hl h) (k p e s m args below meth c H locs ls X hl hP hD hS)
theorem wv_aload_n {f : Fin 4} {i : Nat} {v : Nat} (hdg : decode cc pc = .ok (.aload_n f, 1)) (hi : (f : Nat) = i) (h : L[i]? = some (some (.inr v))) (hp : pc + 1 = pc') (k : wd_V G d own cc nL ret Q pc' L (.inr v :: S) μ) : wd_V G d own cc nL ret Q pc L S μ := by
  subst hp
  intro p e s m args below meth c H locs ls X hl hP hD hS
  exact lv_aload_n X.1 X.2.1 hdg hi (wd_Lc_at hl h) (k p e s m args below meth c H locs ls X hl hP hD hS)
theorem wv_aload {i : Nat} {v : Nat} (hdg : decode cc pc = .ok (.aload i, 2)) (h : L[i]? = some (some (.inr v))) (hp : pc + 2 = pc') (k : wd_V G d own cc nL ret Q pc' L (.inr v :: S) μ) : wd_V G d own cc nL ret Q pc L S μ := by
  subst hp
  intro p e s m args below meth c H locs ls X hl hP hD hS
  exact lv_aload X.1 X.2.1 hdg (wd_Lc_at hl h) (k p e s m args below meth c H locs ls X hl hP hD hS)
theorem wv_istore_n {f : Fin 4} {i : Nat} {v : Int32} {L' : List (Option wd_AV)} (hdg : decode cc pc = .ok (.istore_n f, 1)) (hi : (f : Nat) = i) (hn : i < nL) (hL : L.set i (some (.inl v)) = L') (hp : pc + 1 = pc') (k : wd_V G d own cc nL ret Q pc' L' S μ) : wd_V G d own cc nL ret Q pc L (.inl v :: S) μ := by
  subst hp
  intro p e s m args below meth c H locs ls X hl hP hD hS
  exact lv_istore_n X.1 X.2.1 hdg hi hl hn rfl (fun ls' hl' => k p e s m args below meth c H locs ls' X (wd_Lc_put hL hl') hP hD hS)
theorem wv_istore {i : Nat} {v : Int32} {L' : List (Option wd_AV)} (hdg : decode cc pc = .ok (.istore i, 2)) (hn : i < nL) (hL : L.set i (some (.inl v)) = L') (hp : pc + 2 = pc') (k : wd_V G d own cc nL ret Q pc' L' S μ) : wd_V G d own cc nL ret Q pc L (.inl v :: S) μ := by
  subst hp
  intro p e s m args below meth c H locs ls X hl hP hD hS
  exact lv_istore X.1 X.2.1 hdg hl hn rfl (fun ls' hl' => k p e s m args below meth c H locs ls' X (wd_Lc_put hL hl') hP hD hS)
theorem wv_iinc {i : Nat} {n : Int} {x v : Int32} {L' : List (Option wd_AV)} (hdg : decode cc pc = .ok (.iinc i n, 3)) (h : L[i]? = some (some (.inl x))) (hv : x + Int32.ofInt n = v) (hn : i < nL) (hL : L.set i (some (.inl v)) = L') (hp : pc + 3 = pc') (k : wd_V G d own cc nL ret Q pc' L' S μ) : wd_V G d own cc nL ret Q pc L S μ := by
  subst hp
  intro p e s m args below meth c H locs ls X hl hP hD hS
  obtain ⟨j, hj⟩ := List.getElem?_of_mem (wd_Lc_mem.mpr ⟨Sum.inl x, h, rfl⟩ : (i, wd_cv G.2.2.1 (.inl x)) ∈ wd_Lc G.2.2.1 L)
  exact lv_iinc X.1 X.2.1 hdg hl hj hv hn rfl (fun ls' hl' => k p e s m args below meth c H locs ls' X (wd_Lc_put hL hl') hP hD hS)
theorem wv_iadd {x y : Int32} (hdg : decode cc pc = .ok (.iadd, 1)) (hp : pc + 1 = pc') (k : wd_V G d own cc nL ret Q pc' L (.inl (x + y) :: S) μ) : wd_V G d own cc nL ret Q pc L (.inl y :: .inl x :: S) μ := by
  subst hp
  intro p e s m args below meth c H locs ls X hl hP hD hS
  exact lv_iadd X.1 X.2.1 hdg (k p e s m args below meth c H locs ls X hl hP hD hS)
theorem wv_isub {x y : Int32} (hdg : decode cc pc = .ok (.isub, 1)) (hp : pc + 1 = pc') (k : wd_V G d own cc nL ret Q pc' L (.inl (x - y) :: S) μ) : wd_V G d own cc nL ret Q pc L (.inl y :: .inl x :: S) μ := by
  subst hp
  intro p e s m args below meth c H locs ls X hl hP hD hS
  exact lv_isub X.1 X.2.1 hdg (k p e s m args below meth c H locs ls X hl hP hD hS)
theorem wv_imul {x y : Int32} (hdg : decode cc pc = .ok (.imul, 1)) (hp : pc + 1 = pc') (k : wd_V G d own cc nL ret Q pc' L (.inl (x * y) :: S) μ) : wd_V G d own cc nL ret Q pc L (.inl y :: .inl x :: S) μ := by
  subst hp
  intro p e s m args below meth c H locs ls X hl hP hD hS
  exact lv_imul X.1 X.2.1 hdg (k p e s m args below meth c H locs ls X hl hP hD hS)
theorem wv_iand {x y : Int32} (hdg : decode cc pc = .ok (.iand, 1)) (hp : pc + 1 = pc') (k : wd_V G d own cc nL ret Q pc' L (.inl (x &&& y) :: S) μ) : wd_V G d own cc nL ret Q pc L (.inl y :: .inl x :: S) μ := by
  subst hp
  intro p e s m args below meth c H locs ls X hl hP hD hS
  exact lv_iand X.1 X.2.1 hdg (k p e s m args below meth c H locs ls X hl hP hD hS)
theorem wv_ior {x y : Int32} (hdg : decode cc pc = .ok (.ior, 1)) (hp : pc + 1 = pc') (k : wd_V G d own cc nL ret Q pc' L (.inl (x ||| y) :: S) μ) : wd_V G d own cc nL ret Q pc L (.inl y :: .inl x :: S) μ := by
  subst hp
  intro p e s m args below meth c H locs ls X hl hP hD hS
  exact lv_ior X.1 X.2.1 hdg (k p e s m args below meth c H locs ls X hl hP hD hS)
theorem wv_ishl {x y : Int32} (hdg : decode cc pc = .ok (.ishl, 1)) (hp : pc + 1 = pc') (k : wd_V G d own cc nL ret Q pc' L (.inl (x <<< (y &&& 31)) :: S) μ) : wd_V G d own cc nL ret Q pc L (.inl y :: .inl x :: S) μ := by
  subst hp
  intro p e s m args below meth c H locs ls X hl hP hD hS
  exact lv_ishl X.1 X.2.1 hdg (k p e s m args below meth c H locs ls X hl hP hD hS)
theorem wv_ishr {x y : Int32} (hdg : decode cc pc = .ok (.ishr, 1)) (hp : pc + 1 = pc') (k : wd_V G d own cc nL ret Q pc' L (.inl (x >>> (y &&& 31)) :: S) μ) : wd_V G d own cc nL ret Q pc L (.inl y :: .inl x :: S) μ := by
  subst hp
  intro p e s m args below meth c H locs ls X hl hP hD hS
  exact lv_ishr X.1 X.2.1 hdg (k p e s m args below meth c H locs ls X hl hP hD hS)
theorem wv_idiv {x y : Int32} (hdg : decode cc pc = .ok (.idiv, 1)) (hne : ¬ y = 0) (hp : pc + 1 = pc') (k : wd_V G d own cc nL ret Q pc' L (.inl (x / y) :: S) μ) : wd_V G d own cc nL ret Q pc L (.inl y :: .inl x :: S) μ := by
  subst hp
  intro p e s m args below meth c H locs ls X hl hP hD hS
  exact lv_idiv X.1 X.2.1 hdg hne (k p e s m args below meth c H locs ls X hl hP hD hS)
theorem wv_irem {x y : Int32} (hdg : decode cc pc = .ok (.irem, 1)) (hne : ¬ y = 0) (hp : pc + 1 = pc') (k : wd_V G d own cc nL ret Q pc' L (.inl (x - x / y * y) :: S) μ) : wd_V G d own cc nL ret Q pc L (.inl y :: .inl x :: S) μ := by
  subst hp
  intro p e s m args below meth c H locs ls X hl hP hD hS
  exact lv_irem X.1 X.2.1 hdg hne (k p e s m args below meth c H locs ls X hl hP hD hS)
theorem wv_iushr {x y : Int32} (hdg : decode cc pc = .ok (.iushr, 1)) (hp : pc + 1 = pc') (k : wd_V G d own cc nL ret Q pc' L (.inl ((x.toUInt32 >>> (y.toUInt32 &&& Int32.toUInt32 31)).toInt32) :: S) μ) : wd_V G d own cc nL ret Q pc L (.inl y :: .inl x :: S) μ := by
  subst hp
  intro p e s m args below meth c H locs ls X hl hP hD hS
  exact lv_iushr X.1 X.2.1 hdg rfl (k p e s m args below meth c H locs ls X hl hP hD hS)
theorem wv_ineg {x : Int32} (hdg : decode cc pc = .ok (.ineg, 1)) (hp : pc + 1 = pc') (k : wd_V G d own cc nL ret Q pc' L (.inl (-x) :: S) μ) : wd_V G d own cc nL ret Q pc L (.inl x :: S) μ := by
  subst hp
  intro p e s m args below meth c H locs ls X hl hP hD hS
  exact lv_ineg X.1 X.2.1 hdg (k p e s m args below meth c H locs ls X hl hP hD hS)
theorem wv_dup {v : wd_AV} (hdg : decode cc pc = .ok (.dup, 1)) (hp : pc + 1 = pc') (k : wd_V G d own cc nL ret Q pc' L (v :: v :: S) μ) : wd_V G d own cc nL ret Q pc L (v :: S) μ := by
  subst hp
  intro p e s m args below meth c H locs ls X hl hP hD hS
  exact lv_dup X.1 X.2.1 hdg (wd_cv_cat _ v) (k p e s m args below meth c H locs ls X hl hP hD hS)
theorem wv_dup2 {v w : wd_AV} (hdg : decode cc pc = .ok (.dup2, 1)) (hp : pc + 1 = pc') (k : wd_V G d own cc nL ret Q pc' L (v :: w :: v :: w :: S) μ) : wd_V G d own cc nL ret Q pc L (v :: w :: S) μ := by
  subst hp
  intro p e s m args below meth c H locs ls X hl hP hD hS
  exact lv_dup2_11 X.1 X.2.1 hdg (wd_cv_cat _ v) (wd_cv_cat _ w) (k p e s m args below meth c H locs ls X hl hP hD hS)
theorem wv_pop {v : wd_AV} (hdg : decode cc pc = .ok (.pop, 1)) (hp : pc + 1 = pc') (k : wd_V G d own cc nL ret Q pc' L S μ) : wd_V G d own cc nL ret Q pc L (v :: S) μ := by
  subst hp
  intro p e s m args below meth c H locs ls X hl hP hD hS
  exact lv_pop X.1 X.2.1 hdg (wd_cv_cat _ v) (k p e s m args below meth c H locs ls X hl hP hD hS)
theorem wv_goto {off : Int} (hdg : decode cc pc = .ok (.goto off, 3)) (ht : (pc : Int) + off = (pc' : Int)) (k : wd_V G d own cc nL ret Q pc' L S μ) : wd_V G d own cc nL ret Q pc L S μ := by
  intro p e s m args below meth c H locs ls X hl hP hD hS
  exact lv_goto X.1 X.2.1 hdg ht (k p e s m args below meth c H locs ls X hl hP hD hS)
theorem wv_icmp_eq {x y : Int32} {off : Int} {tgt : Nat} (hdg : decode cc pc = .ok (.if_icmp .eq off, 3)) (ht : (pc : Int) + off = (tgt : Int)) (hp : pc + 3 = pc') (kt : x = y → wd_V G d own cc nL ret Q tgt L S μ) (kf : ¬ x = y → wd_V G d own cc nL ret Q pc' L S μ) : wd_V G d own cc nL ret Q pc L (.inl y :: .inl x :: S) μ := by
  subst hp
  intro p e s m args below meth c H locs ls X hl hP hD hS
  exact lv_icmp_eq X.1 X.2.1 hdg ht (fun h => kt h p e s m args below meth c H locs ls X hl hP hD hS) (fun h => kf h p e s m args below meth c H locs ls X hl hP hD hS)
theorem wv_icmp_ne {x y : Int32} {off : Int} {tgt : Nat} (hdg : decode cc pc = .ok (.if_icmp .ne off, 3)) (ht : (pc : Int) + off = (tgt : Int)) (hp : pc + 3 = pc') (kt : ¬ x = y → wd_V G d own cc nL ret Q tgt L S μ) (kf : x = y → wd_V G d own cc nL ret Q pc' L S μ) : wd_V G d own cc nL ret Q pc L (.inl y :: .inl x :: S) μ := by
  subst hp
  intro p e s m args below meth c H locs ls X hl hP hD hS
  exact lv_icmp_ne X.1 X.2.1 hdg ht (fun h => kt h p e s m args below meth c H locs ls X hl hP hD hS) (fun h => kf h p e s m args below meth c H locs ls X hl hP hD hS)
theorem wv_icmp_lt {x y : Int32} {off : Int} {tgt : Nat} (hdg : decode cc pc = .ok (.if_icmp .lt off, 3)) (ht : (pc : Int) + off = (tgt : Int)) (hp : pc + 3 = pc') (kt : x < y → wd_V G d own cc nL ret Q tgt L S μ) (kf : ¬ x < y → wd_V G d own cc nL ret Q pc' L S μ) : wd_V G d own cc nL ret Q pc L (.inl y :: .inl x :: S) μ := by
  subst hp
  intro p e s m args below meth c H locs ls X hl hP hD hS
  exact lv_icmp_lt X.1 X.2.1 hdg ht (fun h => kt h p e s m args below meth c H locs ls X hl hP hD hS) (fun h => kf h p e s m args below meth c H locs ls X hl hP hD hS)
theorem wv_icmp_ge {x y : Int32} {off : Int} {tgt : Nat} (hdg : decode cc pc = .ok (.if_icmp .ge off, 3)) (ht : (pc : Int) + off = (tgt : Int)) (hp : pc + 3 = pc') (kt : y ≤ x → wd_V G d own cc nL ret Q tgt L S μ) (kf : ¬ y ≤ x → wd_V G d own cc nL ret Q pc' L S μ) : wd_V G d own cc nL ret Q pc L (.inl y :: .inl x :: S) μ := by
  subst hp
  intro p e s m args below meth c H locs ls X hl hP hD hS
  exact lv_icmp_ge X.1 X.2.1 hdg ht (fun h => kt h p e s m args below meth c H locs ls X hl hP hD hS) (fun h => kf h p e s m args below meth c H locs ls X hl hP hD hS)
theorem wv_icmp_gt {x y : Int32} {off : Int} {tgt : Nat} (hdg : decode cc pc = .ok (.if_icmp .gt off, 3)) (ht : (pc : Int) + off = (tgt : Int)) (hp : pc + 3 = pc') (kt : y < x → wd_V G d own cc nL ret Q tgt L S μ) (kf : ¬ y < x → wd_V G d own cc nL ret Q pc' L S μ) : wd_V G d own cc nL ret Q pc L (.inl y :: .inl x :: S) μ := by
  subst hp
  intro p e s m args below meth c H locs ls X hl hP hD hS
  exact lv_icmp_gt X.1 X.2.1 hdg ht (fun h => kt h p e s m args below meth c H locs ls X hl hP hD hS) (fun h => kf h p e s m args below meth c H locs ls X hl hP hD hS)
theorem wv_icmp_le {x y : Int32} {off : Int} {tgt : Nat} (hdg : decode cc pc = .ok (.if_icmp .le off, 3)) (ht : (pc : Int) + off = (tgt : Int)) (hp : pc + 3 = pc') (kt : x ≤ y → wd_V G d own cc nL ret Q tgt L S μ) (kf : ¬ x ≤ y → wd_V G d own cc nL ret Q pc' L S μ) : wd_V G d own cc nL ret Q pc L (.inl y :: .inl x :: S) μ := by
  subst hp
  intro p e s m args below meth c H locs ls X hl hP hD hS
  exact lv_icmp_le X.1 X.2.1 hdg ht (fun h => kt h p e s m args below meth c H locs ls X hl hP hD hS) (fun h => kf h p e s m args below meth c H locs ls X hl hP hD hS)
theorem wv_if_eq {x : Int32} {off : Int} {tgt : Nat} (hdg : decode cc pc = .ok (.ifCond .eq off, 3)) (ht : (pc : Int) + off = (tgt : Int)) (hp : pc + 3 = pc') (kt : x = 0 → wd_V G d own cc nL ret Q tgt L S μ) (kf : ¬ x = 0 → wd_V G d own cc nL ret Q pc' L S μ) : wd_V G d own cc nL ret Q pc L (.inl x :: S) μ := by
  subst hp
  intro p e s m args below meth c H locs ls X hl hP hD hS
  exact lv_if_eq X.1 X.2.1 hdg ht (fun h => kt h p e s m args below meth c H locs ls X hl hP hD hS) (fun h => kf h p e s m args below meth c H locs ls X hl hP hD hS)
theorem wv_if_ne {x : Int32} {off : Int} {tgt : Nat} (hdg : decode cc pc = .ok (.ifCond .ne off, 3)) (ht : (pc : Int) + off = (tgt : Int)) (hp : pc + 3 = pc') (kt : ¬ x = 0 → wd_V G d own cc nL ret Q tgt L S μ) (kf : x = 0 → wd_V G d own cc nL ret Q pc' L S μ) : wd_V G d own cc nL ret Q pc L (.inl x :: S) μ := by
  subst hp
  intro p e s m args below meth c H locs ls X hl hP hD hS
  exact lv_if_ne X.1 X.2.1 hdg ht (fun h => kt h p e s m args below meth c H locs ls X hl hP hD hS) (fun h => kf h p e s m args below meth c H locs ls X hl hP hD hS)
theorem wv_if_lt {x : Int32} {off : Int} {tgt : Nat} (hdg : decode cc pc = .ok (.ifCond .lt off, 3)) (ht : (pc : Int) + off = (tgt : Int)) (hp : pc + 3 = pc') (kt : x < 0 → wd_V G d own cc nL ret Q tgt L S μ) (kf : ¬ x < 0 → wd_V G d own cc nL ret Q pc' L S μ) : wd_V G d own cc nL ret Q pc L (.inl x :: S) μ := by
  subst hp
  intro p e s m args below meth c H locs ls X hl hP hD hS
  exact lv_if_lt X.1 X.2.1 hdg ht (fun h => kt h p e s m args below meth c H locs ls X hl hP hD hS) (fun h => kf h p e s m args below meth c H locs ls X hl hP hD hS)
theorem wv_if_ge {x : Int32} {off : Int} {tgt : Nat} (hdg : decode cc pc = .ok (.ifCond .ge off, 3)) (ht : (pc : Int) + off = (tgt : Int)) (hp : pc + 3 = pc') (kt : 0 ≤ x → wd_V G d own cc nL ret Q tgt L S μ) (kf : ¬ 0 ≤ x → wd_V G d own cc nL ret Q pc' L S μ) : wd_V G d own cc nL ret Q pc L (.inl x :: S) μ := by
  subst hp
  intro p e s m args below meth c H locs ls X hl hP hD hS
  exact lv_if_ge X.1 X.2.1 hdg ht (fun h => kt h p e s m args below meth c H locs ls X hl hP hD hS) (fun h => kf h p e s m args below meth c H locs ls X hl hP hD hS)
theorem wv_if_gt {x : Int32} {off : Int} {tgt : Nat} (hdg : decode cc pc = .ok (.ifCond .gt off, 3)) (ht : (pc : Int) + off = (tgt : Int)) (hp : pc + 3 = pc') (kt : 0 < x → wd_V G d own cc nL ret Q tgt L S μ) (kf : ¬ 0 < x → wd_V G d own cc nL ret Q pc' L S μ) : wd_V G d own cc nL ret Q pc L (.inl x :: S) μ := by
  subst hp
  intro p e s m args below meth c H locs ls X hl hP hD hS
  exact lv_if_gt X.1 X.2.1 hdg ht (fun h => kt h p e s m args below meth c H locs ls X hl hP hD hS) (fun h => kf h p e s m args below meth c H locs ls X hl hP hD hS)
theorem wv_if_le {x : Int32} {off : Int} {tgt : Nat} (hdg : decode cc pc = .ok (.ifCond .le off, 3)) (ht : (pc : Int) + off = (tgt : Int)) (hp : pc + 3 = pc') (kt : x ≤ 0 → wd_V G d own cc nL ret Q tgt L S μ) (kf : ¬ x ≤ 0 → wd_V G d own cc nL ret Q pc' L S μ) : wd_V G d own cc nL ret Q pc L (.inl x :: S) μ := by
  subst hp
  intro p e s m args below meth c H locs ls X hl hP hD hS
  exact lv_if_le X.1 X.2.1 hdg ht (fun h => kt h p e s m args below meth c H locs ls X hl hP hD hS) (fun h => kf h p e s m args below meth c H locs ls X hl hP hD hS)
theorem wv_ldcw {idx : Nat} {v : Int32} (hw : Cond.constant own idx v ∈ wd_tab) (hdg : decode cc pc = .ok (.ldc_w idx, 3)) (hp : pc + 3 = pc') (k : wd_V G d own cc nL ret Q pc' L (.inl v :: S) μ) : wd_V G d own cc nL ret Q pc L S μ := by
  subst hp
  intro p e s m args below meth c H locs ls X hl hP hD hS
  exact lv_ldcw X.1 X.2.1 X.2.2.2.1 (X.2.2.2.2.1 _ hw) hdg (k p e s m args below meth c H locs ls X hl hP hD hS)
theorem wv_case {dflt hi off : Int} {offs : Array Int} {len i tgt : Nat} {x : Int32} (hdg : decode cc pc = .ok (.tableswitch dflt 0 hi offs, len)) (hx : x = nI i) (hi' : (i : Int) ≤ hi) (hsm : i < 2 ^ 31) (ho : offs[i]? = some off) (ht : (pc : Int) + off = (tgt : Int)) (k : wd_V G d own cc nL ret Q tgt L S μ) : wd_V G d own cc nL ret Q pc L (.inl x :: S) μ := by
  intro p e s m args below meth c H locs ls X hl hP hD hS
  have hxi : x.toInt = (i : Int) := by rw [hx]; exact nI_toInt hsm
  exact lv_tableIn X.1 X.2.1 hdg (by rw [hxi]; omega) (by rw [hxi]; omega) (by rw [hxi]; simpa using ho) ht (k p e s m args below meth c H locs ls X hl hP hD hS)
theorem wv_dflt {dflt hi : Int} {offs : Array Int} {len N tgt : Nat} {x : Int32} (hdg : decode cc pc = .ok (.tableswitch dflt 0 hi offs, len)) (hN : hi + 1 = (N : Int)) (hx : ∀ i, i < N → ¬ x = nI i) (ht : (pc : Int) + dflt = (tgt : Int)) (k : wd_V G d own cc nL ret Q tgt L S μ) : wd_V G d own cc nL ret Q pc L (.inl x :: S) μ := by
  intro p e s m args below meth c H locs ls X hl hP hD hS
  refine lv_tableOut X.1 X.2.1 hdg ?_ ht (k p e s m args below meth c H locs ls X hl hP hD hS)
  by_cases h0 : x < 0
  · left
    simpa [Int32.lt_iff_toInt_lt] using h0
  · obtain ⟨j, hj, e⟩ := nI_of h0
    right
    have : N ≤ j := Nat.le_of_not_lt (fun h => hx j h e)
    rw [e, nI_toInt hj]
    omega
/-! fields -/
theorem wv_geti {idx k j ci : Nat} {sl : List (Option Nat)} (F : wd_FL own idx ci j) (hs : wd_sh[k]? = some (.inr (.inr (ci, sl)))) (hj : sl[j]? = some none) (hdg : decode cc pc = .ok (.getfield idx, 3)) (hp : pc + 3 = pc') (kk : wd_V G d own cc nL ret Q pc' L (.inl (μ k j) :: S) μ) : wd_V G d own cc nL ret Q pc L (.inr k :: S) μ := by
  subst hp
  intro p e s m args below meth c H locs ls X hl hP hD hS
  obtain ⟨C, T, N, ⟨hc, hin, -, -⟩, hjN, hlink⟩ := F
  exact va_get X.1 X.2.1 X.2.2.2.2.1 hin X.2.2.2.1 X.2.2.2.2.2.2.2.1 hP k (wd_W_get G μ hs) hc j hjN (X.2.2.2.2.1 _ hlink) (fun _ h => h) (v := .int (μ k j)) (by simp [List.getElem?_mapIdx, hj]) hdg (kk p e s m args below meth c H locs ls X hl hP hD hS)
theorem wv_getr {idx k j ci h : Nat} {sl : List (Option Nat)} (F : wd_FL own idx ci j) (hs : wd_sh[k]? = some (.inr (.inr (ci, sl)))) (hj : sl[j]? = some (some h)) (hdg : decode cc pc = .ok (.getfield idx, 3)) (hp : pc + 3 = pc') (kk : wd_V G d own cc nL ret Q pc' L (.inr h :: S) μ) : wd_V G d own cc nL ret Q pc L (.inr k :: S) μ := by
  subst hp
  intro p e s m args below meth c H locs ls X hl hP hD hS
  obtain ⟨C, T, N, ⟨hc, hin, -, -⟩, hjN, hlink⟩ := F
  exact va_get X.1 X.2.1 X.2.2.2.2.1 hin X.2.2.2.1 X.2.2.2.2.2.2.2.1 hP k (wd_W_get G μ hs) hc j hjN (X.2.2.2.2.1 _ hlink) (fun _ h => h) (v := .ref (G.2.2.1 h)) (by simp [List.getElem?_mapIdx, hj]) hdg (kk p e s m args below meth c H locs ls X hl hP hD hS)
theorem mset_ne {ν : wd_Mem} {a k j : Nat} {x : Int32} (h : a ≠ k) : mset ν k j x a = ν a := by
  funext b
  simp [mset, h]
theorem mset_upd {ν : wd_Mem} {k j : Nat} {x : Int32} : mset ν k j x k = upd (ν k) j x := by
  funext b
  simp [mset, upd]
theorem wd_cell_put {ad : Nat → Nat} {ca : Nat → ClassId} {ν : wd_Mem} {k j ci : Nat} {x : Int32} {sl : List (Option Nat)} (hj : sl[j]? = some none) : (Sum.inr (ci, (sl.mapIdx (fun j o => match o with
    | none => Value.int (ν k j)
    | some h => Value.ref (ad h))).set j (.int x)) : va_E) = wd_cell ad ca (mset ν k j x) k (.inr (.inr (ci, sl))) := by
  simp only [wd_cell]
  congr 2
  apply List.ext_getElem?
  intro i
  rw [List.getElem?_set]
  have hlen := (List.getElem?_eq_some_iff.mp hj).1
  by_cases hi : j = i
  · subst hi
    rw [if_pos rfl, if_pos (by simpa using hlen)]
    simp [List.getElem?_mapIdx, hj, mset]
  · rw [if_neg hi]
    simp only [List.getElem?_mapIdx]
    cases hs : sl[i]? with
    | none => rfl
    | some o =>
      cases o with
      | none => simp [mset, Ne.symm hi]
      | some h => rfl
theorem wv_puti {idx k j ci : Nat} {x : Int32} {sl : List (Option Nat)} (F : wd_FP own idx ci j) (hs : wd_sh[k]? = some (.inr (.inr (ci, sl)))) (hj : sl[j]? = some none) (hdg : decode cc pc = .ok (.putfield idx, 3)) (hp : pc + 3 = pc') (kk : wd_V G d own cc nL ret Q pc' L S (mset μ k j x)) : wd_V G d own cc nL ret Q pc L (.inl x :: .inr k :: S) μ := by
  subst hp
  intro p e s m args below meth c H locs ls X hl hP hD hS
  obtain ⟨C, T, N, ⟨hc, hin, ⟨ty0, hty⟩, hnm⟩, hjN, hlink, hfin, hd⟩ := F
  have e1 : (wd_W G μ).set k (G.2.2.1 k, .inr (ci, (sl.mapIdx (fun j o => match o with
    | none => Value.int (μ k j)
    | some h => Value.ref (G.2.2.1 h))).set j (.int x))) = wd_W G (mset μ k j x) := by
    rw [wd_cell_put (ca := G.2.2.2) hj]
    exact wd_W_set G hs (fun a ha => mset_ne ha)
  refine va_put X.1 X.2.1 X.2.2.2.2.1 hin ty0 hty hnm X.2.2.2.1 X.2.2.2.2.2.2.2.1 hP hD hS k (wd_W_get G μ hs) hc j hjN (X.2.2.2.2.1 _ hlink) (fun _ h => h) hfin (v := .int x) hd rfl rfl (by simpa using (List.getElem?_eq_some_iff.mp hj).1) hdg (fun H1 locs1 hP1 hD1 hS1 => ?_)
  exact kk p e s m args below meth c H1 locs1 ls X hl (e1 ▸ hP1) (e1 ▸ hD1) hS1
/-! rows of numbers and of references -/
theorem wv_iald {k n : Nat} {i : Int32} (hs : wd_sh[k]? = some (.inl (.int, n))) (hin : vp_in i n) (hdg : decode cc pc = .ok (.iaload, 1)) (hp : pc + 1 = pc') (kk : wd_V G d own cc nL ret Q pc' L (.inl (μ k i.toNatClampNeg) :: S) μ) : wd_V G d own cc nL ret Q pc L (.inl i :: .inr k :: S) μ := by
  subst hp
  intro p e s m args below meth c H locs ls X hl hP hD hS
  exact va_iald X.1 X.2.1 (X.2.2.2.2.2.2.2.2.1 k _ hs) hP k 0 (wd_W_get G μ hs) rfl hin hdg (kk p e s m args below meth c H locs ls X hl hP hD hS)
theorem wv_zald {k n : Nat} {i : Int32} (hs : wd_sh[k]? = some (.inl (.boolean, n))) (hin : vp_in i n) (hdg : decode cc pc = .ok (.baload, 1)) (hp : pc + 1 = pc') (kk : wd_V G d own cc nL ret Q pc' L (.inl (μ k i.toNatClampNeg) :: S) μ) : wd_V G d own cc nL ret Q pc L (.inl i :: .inr k :: S) μ := by
  subst hp
  intro p e s m args below meth c H locs ls X hl hP hD hS
  exact va_zald X.1 X.2.1 (X.2.2.2.2.2.2.2.2.1 k _ hs) hP k 0 (wd_W_get G μ hs) rfl hin hdg (kk p e s m args below meth c H locs ls X hl hP hD hS)
theorem wd_W_row {ν : wd_Mem} {k j : Nat} {x : Int32} {q : FieldType × Nat} (hs : wd_sh[k]? = some (.inl q)) : (wd_W G ν).set k (G.2.2.1 k, .inl (G.2.2.2 k, q.2, .inl (upd (ν k) j x))) = wd_W G (mset ν k j x) := by
  have e1 : (Sum.inl (G.2.2.2 k, q.2, Sum.inl (upd (ν k) j x)) : va_E) = wd_cell G.2.2.1 G.2.2.2 (mset ν k j x) k (.inl q) := by simp only [wd_cell, mset_upd]
  rw [e1]
  exact wd_W_set G hs (fun a ha => mset_ne ha)
theorem wv_iast {k n : Nat} {i x : Int32} (hs : wd_sh[k]? = some (.inl (.int, n))) (hin : vp_in i n) (hdg : decode cc pc = .ok (.iastore, 1)) (hp : pc + 1 = pc') (kk : wd_V G d own cc nL ret Q pc' L S (mset μ k i.toNatClampNeg x)) : wd_V G d own cc nL ret Q pc L (.inl x :: .inl i :: .inr k :: S) μ := by
  subst hp
  intro p e s m args below meth c H locs ls X hl hP hD hS
  have e1 := wd_W_row (G := G) (ν := μ) (j := i.toNatClampNeg) (x := x) hs
  exact va_iast X.1 X.2.1 (X.2.2.2.2.2.2.2.2.1 k _ hs) hP hD hS k 0 (wd_W_get G μ hs) rfl hin hdg (fun H1 locs1 hP1 hD1 hS1 => kk p e s m args below meth c H1 locs1 ls X hl (e1 ▸ hP1) (e1 ▸ hD1) hS1)
theorem wv_zast {k n : Nat} {i x : Int32} (hs : wd_sh[k]? = some (.inl (.boolean, n))) (hin : vp_in i n) (hdg : decode cc pc = .ok (.bastore, 1)) (hp : pc + 1 = pc') (kk : wd_V G d own cc nL ret Q pc' L S (mset μ k i.toNatClampNeg (vp_nar .boolean x))) : wd_V G d own cc nL ret Q pc L (.inl x :: .inl i :: .inr k :: S) μ := by
  subst hp
  intro p e s m args below meth c H locs ls X hl hP hD hS
  have e1 := wd_W_row (G := G) (ν := μ) (j := i.toNatClampNeg) (x := vp_nar .boolean x) hs
  exact va_zast X.1 X.2.1 (X.2.2.2.2.2.2.2.2.1 k _ hs) hP hD hS k 0 (wd_W_get G μ hs) rfl hin hdg (fun H1 locs1 hP1 hD1 hS1 => kk p e s m args below meth c H1 locs1 ls X hl (e1 ▸ hP1) (e1 ▸ hD1) hS1)
theorem wv_aald {k h : Nat} {i : Int32} {hs : List Nat} (hs' : wd_sh[k]? = some (.inr (.inl hs))) (hin : vp_in i hs.length) (hh : hs[i.toNatClampNeg]? = some h) (hdg : decode cc pc = .ok (.aaload, 1)) (hp : pc + 1 = pc') (kk : wd_V G d own cc nL ret Q pc' L (.inr h :: S) μ) : wd_V G d own cc nL ret Q pc L (.inl i :: .inr k :: S) μ := by
  subst hp
  intro p e s m args below meth c H locs ls X hl hP hD hS
  refine va_aldq X.1 X.2.1 (X.2.2.2.2.2.2.2.2.2.1 k _ hs') hP k 0 (wd_W_get G μ hs') rfl hin hdg ?_
  rw [hh]
  exact kk p e s m args below meth c H locs ls X hl hP hD hS
/-! ends -/
theorem wv_ireturn {v : Int32} (hr : ret = some .int) (hdg : decode cc pc = .ok (.ireturn, 1)) (hQ : Q (some (.inl v)) μ) : wd_V G d own cc nL ret Q pc L [.inl v] μ := by
  intro p e s m args below meth c H locs ls X hl hP hD hS
  exact W.iret X.1 X.2.1 (X.2.2.2.2.2.1.trans hr) (fun t ht hW => ⟨⟨some (.inl v), μ, rfl, hQ, by rw [ht]; exact hP⟩, hS.F ht⟩) hS.2.2 hdg X.2.2.2.2.2.2.1
theorem wv_zreturn {v : Int32} (hr : ret = some .boolean) (hb : narrow .boolean (.int v) = .int v) (hdg : decode cc pc = .ok (.ireturn, 1)) (hQ : Q (some (.inl v)) μ) : wd_V G d own cc nL ret Q pc L [.inl v] μ := by
  intro p e s m args below meth c H locs ls X hl hP hD hS
  exact W.zret X.1 X.2.1 (X.2.2.2.2.2.1.trans hr) hb (fun t ht hW => ⟨⟨some (.inl v), μ, rfl, hQ, by rw [ht]; exact hP⟩, hS.F ht⟩) hS.2.2 hdg X.2.2.2.2.2.2.1
theorem wv_return (hr : ret = none) (hdg : decode cc pc = .ok (.return_, 1)) (hQ : Q none μ) : wd_V G d own cc nL ret Q pc L [] μ := by
  intro p e s m args below meth c H locs ls X hl hP hD hS
  exact W.vret X.1 X.2.1 (X.2.2.2.2.2.1.trans hr) (fun t ht hW => ⟨⟨none, μ, rfl, hQ, by rw [ht]; exact hP⟩, hS.F ht⟩) hS.2.2 hdg X.2.2.2.2.2.2.1
theorem wv_areturn {k : Nat} {C : String} (hr : ret = some (.object C)) (hdg : decode cc pc = .ok (.areturn, 1)) (hQ : Q (some (.inr k)) μ) : wd_V G d own cc nL ret Q pc L [.inr k] μ := by
  intro p e s m args below meth c H locs ls X hl hP hD hS
  exact W.aret X.1 X.2.1 (X.2.2.2.2.2.1.trans hr) (Or.inl ⟨_, rfl⟩) (Or.inr ⟨_, rfl⟩) (fun t ht hW => ⟨⟨some (.inr k), μ, rfl, hQ, by rw [ht]; exact hP⟩, hS.F ht⟩) hS.2.2 hdg X.2.2.2.2.2.2.1
/-! Math -/
theorem wv_min {idx : Nat} {x y : Int32} (hw : wd_MM own idx Lib.Math.min.name Lib.Math.min.code) (h8 : S.length ≤ 8) (hdg : decode cc pc = .ok (.invokestatic idx, 3)) (hp : pc + 3 = pc') (k : wd_V G (d + 1) own cc nL ret Q pc' L (.inl (if y < x then y else x) :: S) μ) : wd_V G (d + 1) own cc nL ret Q pc L (.inl y :: .inl x :: S) μ := by
  subst hp
  intro p e s m args below meth c H locs ls X hl hP hD hS
  obtain ⟨h1, h2, h3, h4⟩ := hw
  have hts := X.2.2.2.2.1
  exact va_mmin X.1 X.2.1 (X.2.2.1.trans hl.1.symm) X.2.2.2.1 (hts _ h1) (hts _ h2) (hts _ h3) (hts _ h4) (by simp [wd_room]) (by rw [wd_cats]; simp only [wd_room]; omega) (Nat.le_refl _) (Nat.le_refl _) hdg (k p e s m args below meth c H locs ls X hl hP hD hS)
theorem wv_max {idx : Nat} {x y : Int32} (hw : wd_MM own idx Lib.Math.max.name Lib.Math.max.code) (h8 : S.length ≤ 8) (hdg : decode cc pc = .ok (.invokestatic idx, 3)) (hp : pc + 3 = pc') (k : wd_V G (d + 1) own cc nL ret Q pc' L (.inl (if x < y then y else x) :: S) μ) : wd_V G (d + 1) own cc nL ret Q pc L (.inl y :: .inl x :: S) μ := by
  subst hp
  intro p e s m args below meth c H locs ls X hl hP hD hS
  obtain ⟨h1, h2, h3, h4⟩ := hw
  have hts := X.2.2.2.2.1
  exact va_mmax X.1 X.2.1 (X.2.2.1.trans hl.1.symm) X.2.2.2.1 (hts _ h1) (hts _ h2) (hts _ h3) (hts _ h4) (by simp [wd_room]) (by rw [wd_cats]; simp only [wd_room]; omega) (Nat.le_refl _) (Nat.le_refl _) hdg (k p e s m args below meth c H locs ls X hl hP hD hS)
end WV
section WC
variable {p : Program} {l : Launch} {e : Env} {R : Room} {s : State} {m : MethodId} {args : Array Value} {below : List Frame} {meth : Method} {c : Code} {H : Heap} {locs : List Loc}
/-- behind a call -/
theorem wd_goes {G : wd_G} {Qw : State → Prop} {Q' : Option wd_AV → wd_Mem → Prop} {a : Array Value} {pc cells slots : Nat} {ls : Array Slot} {st0 rest : List Value} {A0 : Nat → Prop} {H0 : Heap} (hr : va_Run p l e R s m args below meth c H locs cells slots 0 0 (F0 m pc ls st0) rest (wd_Post G Q' H.size a) (wd_A G H.size)) (hS : va_S A0 H0 H locs) (hA0 : ∀ k, k < wd_sh.length → A0 (G.2.2.1 k)) (hA1 : ∀ q, H0.size ≤ q → A0 q)
    (kk : ∀ (r : Option wd_AV) (u : wd_Mem) (H1 : Heap) (locs1 : List Loc), Q' r u → va_P G.2.1 vwCl (wd_W G u) H1 → H.size ≤ H1.size → (∀ q : Nat, q < H.size → ¬ wd_A G H.size q → H1[q]? = H[q]?) → va_S A0 H0 H1 locs1 → W p l e R s m args below meth c H1 locs1 cells slots Qw (F0 m (pc + 3) ls ((r.map (wd_cv G.2.2.1)).toList ++ rest))) : W p l e R s m args below meth c H locs cells slots Qw (F0 m pc ls st0) := by
  intro T hT X
  obtain ⟨v, st₀, t, T', L, h0, X', hL, e1, e2, ⟨⟨r, u, hv, hp, hb⟩, hz, hk⟩, st⟩ := hr T hT X
  simp only [Outcome.returned.injEq] at hv
  subst hv
  rw [h0] at hz hk
  have hAA : ∀ q, wd_A G H.size q → A0 q := fun q h => by
    rcases h with ⟨k, hk, rfl⟩ | h
    · exact hA0 k hk
    · exact hA1 q (Nat.le_trans hS.1 h)
  obtain ⟨t2, a1, b1⟩ := kk r u T'.heap (locs ++ L) hp (by rw [e1]; exact hb) (by rw [e1]; exact hz) (fun q h1 h2 => by rw [e1]; exact hk q h1 h2)
    ⟨Nat.le_trans hS.1 (by rw [e1]; exact hz), fun q h1 h2 => by rw [e1, hk q (Nat.lt_of_lt_of_le h1 hS.1) (fun z => h2 (hAA q z))]; exact hS.2.1 q h1 h2, fun q hq => by
      rcases List.mem_append.mp hq with h | h
      · exact hS.2.2 q h
      · exact hAA _ (hL q h)⟩ T' rfl X'
  exact ⟨t2, st t2 a1, b1⟩
theorem wd_blind (G : wd_G) (as : List wd_AV) (μ : wd_Mem) (sz : Nat) : FrameBlind (wd_Pre G as μ sz) := fun a U g mk q => by
  obtain ⟨q0, q1, qP, qK, qD⟩ := q
  exact ⟨q0, q1, qP, wd_KK.same rfl qK, qD⟩
/-- a call of an object's method, at any room that has place for it -/
theorem wd_runV {G : wd_G} {own : String} {cc : ByteArray} {nL idx k ci pc d cells slots : Nat} {sl : List (Option Nat)} {y : MethodName} {as : List wd_AV} {μ : wd_Mem} {Q' : Option wd_AV → wd_Mem → Prop} {ls : Array Slot} {st0 rest : List Value} {A : Nat → Prop}
    (X : p.tables.exec = Jvm.exec ∧ c.code = cc ∧ c.maxLocals = nL ∧ s.vm.findClass own = some m.cls ∧ (∀ w ∈ wd_tab, w.before args s = true)) (hKK : wd_KK G s) (hz : ls.size = nL) (hP : va_P G.2.1 vwCl (wd_W G μ) H) (hD : va_D A (wd_W G μ)) (M : wd_MV own idx y as.length) (hs : wd_sh[k]? = some (.inr (.inr (ci, sl)))) (hcl : (vwCl[ci]?).map (fun q => q.1) = some y.cls)
    (hst : st0 = (as.map (wd_cv G.2.2.1)).reverse ++ .ref (G.2.2.1 k) :: rest) (h8 : (rest.map fun v => v.category).sum ≤ 8) (hdg : decode cc pc = .ok (.invokevirtual idx, 3)) (hC : wd_C G d y (.inr k :: as) μ Q') (hR1 : d + 1 ≤ R.frames) (hR2 : 40 * (d + 1) ≤ R.locals) (hR3 : cells ≤ R.cells) (hR4 : slots ≤ R.slots) :
    va_Run p G.1 e R s m args below meth c H locs cells slots 0 0 (F0 m pc ls st0) rest (wd_Post G Q' H.size (Value.ref (G.2.2.1 k) :: as.map (wd_cv G.2.2.1)).toArray) (wd_A G H.size) := by
  obtain ⟨bytes, n, rt, hcode, hn, hM⟩ := hC
  obtain ⟨⟨m1, m2, m3⟩, m4, m5⟩ := M
  have hts := X.2.2.2.2
  have cw : CallW R s args own y.cls idx y bytes n rt (wd_ws y bytes n rt) (wd_room d) 0 0 as.length := ⟨callB_of _ hts (wd_goodT hcode) rfl rfl rfl (hts _ m2) (hts _ m1) m3 ⟨hR1, by simp only [wd_room]; omega⟩, hts _ m4, hts _ m5⟩
  have hrc : ∃ cellB : Cell, H[G.2.2.1 k]? = some cellB ∧ cellB.vm.isStatics = false ∧ s.vm.findClass y.cls = some cellB.cls := by
    cases hq : vwCl[ci]? with
    | none => rw [hq] at hcl; cases hcl
    | some q =>
      rw [hq] at hcl
      simp only [Option.map_some, Option.some.injEq] at hcl
      rw [← hcl]
      exact va_recv hKK.1 hP hq (wd_W_get G μ hs)
  exact va_runV (As := as.map (wd_cv G.2.2.1)) (rest := rest) ⟨X.1, X.2.1, X.2.2.1, X.2.2.2.1, hts⟩ (hM H.size) cw ⟨wd_blind G _ μ _, hrc, fun U hU hW => ⟨rfl, by rw [hU], by rw [hU]; exact hP, wd_KK.warm hW hKK, wd_D_any G hD (fun _ _ => trivial)⟩⟩ rfl (by simp) hz hst (lv_room h8) hdg ⟨hR3, hR4⟩
theorem wd_runS {G : wd_G} {own : String} {cc : ByteArray} {nL idx pc d cells slots : Nat} {y : MethodName} {as : List wd_AV} {μ : wd_Mem} {Q' : Option wd_AV → wd_Mem → Prop} {ls : Array Slot} {st0 rest : List Value} {A : Nat → Prop}
    (X : p.tables.exec = Jvm.exec ∧ c.code = cc ∧ c.maxLocals = nL ∧ s.vm.findClass own = some m.cls ∧ (∀ w ∈ wd_tab, w.before args s = true)) (hKK : wd_KK G s) (hz : ls.size = nL) (hP : va_P G.2.1 vwCl (wd_W G μ) H) (hD : va_D A (wd_W G μ)) (M : wd_MS own idx y as.length)
    (hst : st0 = (as.map (wd_cv G.2.2.1)).reverse ++ rest) (h8 : (rest.map fun v => v.category).sum ≤ 8) (hdg : decode cc pc = .ok (.invokestatic idx, 3)) (hC : wd_C G d y as μ Q') (hR1 : d + 1 ≤ R.frames) (hR2 : 40 * (d + 1) ≤ R.locals) (hR3 : cells ≤ R.cells) (hR4 : slots ≤ R.slots) :
    va_Run p G.1 e R s m args below meth c H locs cells slots 0 0 (F0 m pc ls st0) rest (wd_Post G Q' H.size (as.map (wd_cv G.2.2.1)).toArray) (wd_A G H.size) := by
  obtain ⟨bytes, n, rt, hcode, hn, hM⟩ := hC
  obtain ⟨⟨m1, m2, m3⟩, m4⟩ := M
  have hts := X.2.2.2.2
  have cw : CallB R s args own idx y bytes n rt (wd_ws y bytes n rt) (wd_room d) 0 0 as.length ∧ (Cond.static y).before args s = true := ⟨callB_of _ hts (wd_goodT hcode) rfl rfl rfl (hts _ m2) (hts _ m1) m3 ⟨hR1, by simp only [wd_room]; omega⟩, hts _ m4⟩
  exact va_runS (As := as.map (wd_cv G.2.2.1)) (rest := rest) ⟨X.1, X.2.1, X.2.2.1, X.2.2.2.1, hts⟩ (hM H.size) cw ⟨wd_blind G _ μ _, fun U hU hW => ⟨rfl, by rw [hU], by rw [hU]; exact hP, wd_KK.warm hW hKK, wd_D_any G hD (fun _ _ => trivial)⟩⟩ rfl (by simp) hz hst (lv_room h8) hdg ⟨hR3, hR4⟩
theorem wd_runSN {G : wd_G} {cc : ByteArray} {nL pc d cells slots : Nat} {as : List wd_AV} {μ : wd_Mem} {Q' : Option wd_AV → wd_Mem → Prop} {ls : Array Slot} {st0 rest : List Value} {A : Nat → Prop}
    (X : p.tables.exec = Jvm.exec ∧ c.code = cc ∧ c.maxLocals = nL ∧ s.vm.findClass RX2 = some m.cls ∧ (∀ w ∈ wd_tab, w.before args s = true)) (hKK : wd_KK G s) (hz : ls.size = nL) (hP : va_P G.2.1 vwCl (wd_W G μ) H) (hD : va_D A (wd_W G μ)) (m2 : Cond.initialized yX7_power.cls ∈ wd_tab) (m4 : Cond.static yX7_power ∈ wd_tab) (m3 : yX7_power.cls ≠ "java/lang/invoke/MethodHandle" ∧ yX7_power.cls ≠ "java/lang/invoke/VarHandle" ∧ (parseMethodDescriptor yX7_power.desc).map (fun d => d.parameters.length) = some as.length)
    (hst : st0 = (as.map (wd_cv G.2.2.1)).reverse ++ rest) (h8 : (rest.map fun v => v.category).sum ≤ 8) (hdg : decode cc pc = .ok (.invokestatic 100, 3)) (hC : wd_C G d yX7_power as μ Q') (hR1 : d + 1 ≤ R.frames) (hR2 : 40 * (d + 1) ≤ R.locals) (hR3 : cells ≤ R.cells) (hR4 : slots ≤ R.slots) :
    va_Run p G.1 e R s m args below meth c H locs cells slots 0 0 (F0 m pc ls st0) rest (wd_Post G Q' H.size (as.map (wd_cv G.2.2.1)).toArray) (wd_A G H.size) := by
  obtain ⟨bytes, n, rt, hcode, hn, hM⟩ := hC
  have hts := X.2.2.2.2
  have cw : va_CN R s args RX2 100 yX7_power "WindowDesk" bytes n rt (wd_ws yX7_power bytes n rt) (wd_room d) 0 0 as.length ∧ (Cond.static yX7_power).before args s = true ∧ True := ⟨va_cnB _ hts (wd_goodT hcode) rfl rfl rfl hKK.2.2.2 (hts _ m2) m3 ⟨hR1, by simp only [wd_room]; omega⟩, hts _ m4, trivial⟩
  exact va_runSN (As := as.map (wd_cv G.2.2.1)) (rest := rest) ⟨X.1, X.2.1, X.2.2.1, X.2.2.2.1, hts⟩ (hM H.size) cw ⟨wd_blind G _ μ _, fun U hU hW => ⟨rfl, by rw [hU], by rw [hU]; exact hP, wd_KK.warm hW hKK, wd_D_any G hD (fun _ _ => trivial)⟩⟩ rfl (by simp) hz hst (lv_room h8) hdg ⟨hR3, hR4⟩
end WC
section WD
variable {G : wd_G} {d : Nat} {own : String} {cc : ByteArray} {nL : Nat} {ret : Option FieldType} {Q : Option wd_AV → wd_Mem → Prop} {pc pc' : Nat} {L : List (Option wd_AV)} {S : List wd_AV} {μ : wd_Mem}
theorem wd_back (r : Option wd_AV) (ad : Nat → Nat) (S : List wd_AV) : (r.map (wd_cv ad)).toList ++ S.map (wd_cv ad) = (r.toList ++ S).map (wd_cv ad) := by
  cases r <;> simp
theorem wv_callV {idx k ci : Nat} {sl : List (Option Nat)} {y : MethodName} {St : List wd_AV} (as : List wd_AV) {Q' : Option wd_AV → wd_Mem → Prop} (M : wd_MV own idx y as.length) (hs : wd_sh[k]? = some (.inr (.inr (ci, sl)))) (hcl : (vwCl[ci]?).map (fun q => q.1) = some y.cls) (hst : as.reverse ++ .inr k :: S = St) (h8 : S.length ≤ 8) (hdg : decode cc pc = .ok (.invokevirtual idx, 3)) (hp : pc + 3 = pc') (hC : wd_C G d y (.inr k :: as) μ Q')
    (kk : ∀ (r : Option wd_AV) (u : wd_Mem), Q' r u → wd_V G (d + 1) own cc nL ret Q pc' L (r.toList ++ S) u) : wd_V G (d + 1) own cc nL ret Q pc L St μ := by
  subst hp
  intro p e s m args below meth c H locs ls X hl hP hD hS
  refine wd_goes (G := G) (Q' := Q') (a := (Value.ref (G.2.2.1 k) :: as.map (wd_cv G.2.2.1)).toArray) (rest := S.map (wd_cv G.2.2.1)) (wd_runV ⟨X.1, X.2.1, X.2.2.1, X.2.2.2.1, X.2.2.2.2.1⟩ X.2.2.2.2.2.2.2 hl.1 hP hD M hs hcl ?_ ?_ hdg hC ?_ ?_ ?_ ?_) hS (fun k hk => Or.inl ⟨k, hk, rfl⟩) (fun q h => Or.inr h) (fun r u H1 locs1 hq hP1 _ _ hS1 => ?_)
  · rw [← hst]; simp [wd_cv]
  · rw [wd_cats]; exact h8
  · exact Nat.le_refl _
  · exact Nat.le_refl _
  · exact Nat.le_refl _
  · exact Nat.le_refl _
  · rw [wd_back]
    exact kk r u hq p e s m args below meth c H1 locs1 ls X hl hP1 (wd_D_A G _ hD) hS1
theorem wv_callS {idx : Nat} {y : MethodName} {St : List wd_AV} (as : List wd_AV) {Q' : Option wd_AV → wd_Mem → Prop} (M : wd_MS own idx y as.length) (hst : as.reverse ++ S = St) (h8 : S.length ≤ 8) (hdg : decode cc pc = .ok (.invokestatic idx, 3)) (hp : pc + 3 = pc') (hC : wd_C G d y as μ Q')
    (kk : ∀ (r : Option wd_AV) (u : wd_Mem), Q' r u → wd_V G (d + 1) own cc nL ret Q pc' L (r.toList ++ S) u) : wd_V G (d + 1) own cc nL ret Q pc L St μ := by
  subst hp
  intro p e s m args below meth c H locs ls X hl hP hD hS
  refine wd_goes (G := G) (Q' := Q') (a := (as.map (wd_cv G.2.2.1)).toArray) (rest := S.map (wd_cv G.2.2.1)) (wd_runS ⟨X.1, X.2.1, X.2.2.1, X.2.2.2.1, X.2.2.2.2.1⟩ X.2.2.2.2.2.2.2 hl.1 hP hD M ?_ ?_ hdg hC ?_ ?_ ?_ ?_) hS (fun k hk => Or.inl ⟨k, hk, rfl⟩) (fun q h => Or.inr h) (fun r u H1 locs1 hq hP1 _ _ hS1 => ?_)
  · rw [← hst]; simp
  · rw [wd_cats]; exact h8
  · exact Nat.le_refl _
  · exact Nat.le_refl _
  · exact Nat.le_refl _
  · exact Nat.le_refl _
  · rw [wd_back]
    exact kk r u hq p e s m args below meth c H1 locs1 ls X hl hP1 (wd_D_A G _ hD) hS1
theorem wv_callSN {St : List wd_AV} (as : List wd_AV) {Q' : Option wd_AV → wd_Mem → Prop} (hown : own = RX2) (m2 : Cond.initialized yX7_power.cls ∈ wd_tab) (m4 : Cond.static yX7_power ∈ wd_tab) (m3 : yX7_power.cls ≠ "java/lang/invoke/MethodHandle" ∧ yX7_power.cls ≠ "java/lang/invoke/VarHandle" ∧ (parseMethodDescriptor yX7_power.desc).map (fun d => d.parameters.length) = some as.length) (hst : as.reverse ++ S = St) (h8 : S.length ≤ 8) (hdg : decode cc pc = .ok (.invokestatic 100, 3)) (hp : pc + 3 = pc') (hC : wd_C G d yX7_power as μ Q')
    (kk : ∀ (r : Option wd_AV) (u : wd_Mem), Q' r u → wd_V G (d + 1) own cc nL ret Q pc' L (r.toList ++ S) u) : wd_V G (d + 1) own cc nL ret Q pc L St μ := by
  subst hp
  subst hown
  intro p e s m args below meth c H locs ls X hl hP hD hS
  refine wd_goes (G := G) (Q' := Q') (a := (as.map (wd_cv G.2.2.1)).toArray) (rest := S.map (wd_cv G.2.2.1)) (wd_runSN ⟨X.1, X.2.1, X.2.2.1, X.2.2.2.1, X.2.2.2.2.1⟩ X.2.2.2.2.2.2.2 hl.1 hP hD m2 m4 m3 ?_ ?_ hdg hC ?_ ?_ ?_ ?_) hS (fun k hk => Or.inl ⟨k, hk, rfl⟩) (fun q h => Or.inr h) (fun r u H1 locs1 hq hP1 _ _ hS1 => ?_)
  · rw [← hst]; simp
  · rw [wd_cats]; exact h8
  · exact Nat.le_refl _
  · exact Nat.le_refl _
  · exact Nat.le_refl _
  · exact Nat.le_refl _
  · rw [wd_back]
    exact kk r u hq p e s m args below meth c H1 locs1 ls X hl hP1 (wd_D_A G _ hD) hS1
theorem wd_args_mem (ad : Nat → Nat) : ∀ (as : List wd_AV) (i j : Nat) (v : wd_AV), as[j]? = some v → (i + j, wd_cv ad v) ∈ lv_args i (as.map (wd_cv ad)) := by
  intro as
  induction as with
  | nil => intro i j v h; simp at h
  | cons a t ih =>
    intro i j v h
    simp only [List.map_cons, lv_args, wd_cv_cat]
    cases j with
    | zero =>
      simp only [List.getElem?_cons_zero, Option.some.injEq] at h
      subst h
      exact List.mem_cons_self
    | succ j =>
      simp only [List.getElem?_cons_succ] at h
      refine List.mem_cons_of_mem _ ?_
      have := ih (i + 1) j v h
      rw [show i + (j + 1) = i + 1 + j by omega]
      simpa using this
theorem wd_sl_len (ad : Nat → Nat) (as : List wd_AV) : (lg_sl (as.map (wd_cv ad))).length = as.length := by
  induction as with
  | nil => rfl
  | cons a t ih =>
    simp only [lg_sl, List.map_cons, List.flatMap_cons, List.length_append, wd_cv_cat] at ih ⊢
    simp only [ih, List.length_cons]
    simp
    omega
/-- a contract out of a walk from the entry -/
theorem wd_enter {y : MethodName} {as : List wd_AV} {L0 : List (Option wd_AV)} (hcode : Cond.code y cc nL ret ∈ wd_tab) (hn : nL ≤ 20) (hpl : plainName y.cls = true) (hown : y.cls = own) (hlen : as.length ≤ nL) (hL : as.map some ++ List.replicate (nL - as.length) none = L0) (k : wd_V G d own cc nL ret Q 0 L0 [] μ) : wd_C G d y as μ Q := by
  refine ⟨cc, nL, ret, hcode, hn, fun sz => ?_⟩
  subst hown
  refine Met.ofW (cc := cc) (maxL := nL) (ret := ret) hpl rfl ?_
  intro p e s m args below meth c s₁ B hml hv
  obtain ⟨rfl, hsz, hP, hK, hD0⟩ := hv
  subst hsz
  have hts := atoms_spec (ws := wd_ws y cc nL ret) B.pre
  have hown : s.vm.findClass y.cls = some m.cls := findClass_of_methodNamed B.named
  have hl := lv_entry (as.map (wd_cv G.2.2.1)) (n := nL) (by rw [wd_sl_len]; exact hlen)
  rw [lg_entry_eq]
  refine k p e s m _ below meth c s.heap [] _ ⟨B.exec, B.bytes, hml, hown, fun w hw => hts w (List.mem_cons_of_mem _ hw), B.returns, B.notSynchronized, hK⟩ ⟨hl.1, hl.2.1, ?_⟩ hP (wd_D_A G _ hD0) va_S.rf
  rintro ⟨j, w⟩ hq
  obtain ⟨v, hv, rfl⟩ := wd_Lc_mem.mp hq
  have hj : as[j]? = some v := by
    rw [← hL, List.getElem?_append] at hv
    split at hv
    · simpa using hv
    · rw [List.getElem?_replicate] at hv
      split at hv <;> simp at hv
  have := wd_args_mem G.2.2.1 as 0 j v hj
  rw [Nat.zero_add] at this
  exact hl.2.2 _ this
end WD
end
