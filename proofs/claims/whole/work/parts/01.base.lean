-- ===== PART A: goes FIRST, ahead of the names: the tables' words, and 'selects' of the private methods out of them =====
/-- a private method of a class that the tables say can be made, by its rows of tables_1 -/
def lw_okq (q : MethodName × Nat) : Prop := (q.1.cls ≠ "java/lang/invoke/MethodHandle" ∧ q.1.cls ≠ "java/lang/invoke/VarHandle") ∧ Cond.instantiable q.1.cls q.2 ∈ tables_1 ∧ Cond.privateMethod q.1 ∈ tables_1 ∧ Cond.instanceMethod q.1 ∈ tables_1
theorem lw_p0 : lw_okq (⟨"StyliteOverheard", "shelfAt", "(I)LStyliteOverheard$Shelf;"⟩, 12) := ⟨⟨by decide +kernel, by decide +kernel⟩, List.mem_of_getElem? (i := 18) (by decide +kernel), List.mem_of_getElem? (i := 437) (by decide +kernel), List.mem_of_getElem? (i := 438) (by decide +kernel)⟩
theorem lw_p1 : lw_okq (⟨"StyliteOverheard", "hasCome", "(LStyliteOverheard$Shelf;II)Z"⟩, 12) := ⟨⟨by decide +kernel, by decide +kernel⟩, List.mem_of_getElem? (i := 18) (by decide +kernel), List.mem_of_getElem? (i := 445) (by decide +kernel), List.mem_of_getElem? (i := 446) (by decide +kernel)⟩
theorem lw_p2 : lw_okq (⟨"StyliteOverheard", "isTold", "(II)Z"⟩, 12) := ⟨⟨by decide +kernel, by decide +kernel⟩, List.mem_of_getElem? (i := 18) (by decide +kernel), List.mem_of_getElem? (i := 465) (by decide +kernel), List.mem_of_getElem? (i := 466) (by decide +kernel)⟩
theorem lw_p3 : lw_okq (⟨"StyliteOverheard", "toldOf", "(II)I"⟩, 12) := ⟨⟨by decide +kernel, by decide +kernel⟩, List.mem_of_getElem? (i := 18) (by decide +kernel), List.mem_of_getElem? (i := 477) (by decide +kernel), List.mem_of_getElem? (i := 478) (by decide +kernel)⟩
theorem lw_p4 : lw_okq (⟨"StyliteOverheard", "rowOf", "(I)[I"⟩, 12) := ⟨⟨by decide +kernel, by decide +kernel⟩, List.mem_of_getElem? (i := 18) (by decide +kernel), List.mem_of_getElem? (i := 485) (by decide +kernel), List.mem_of_getElem? (i := 486) (by decide +kernel)⟩
theorem lw_p5 : lw_okq (⟨"StyliteOverheard", "tell", "(III)V"⟩, 12) := ⟨⟨by decide +kernel, by decide +kernel⟩, List.mem_of_getElem? (i := 18) (by decide +kernel), List.mem_of_getElem? (i := 489) (by decide +kernel), List.mem_of_getElem? (i := 490) (by decide +kernel)⟩
theorem lw_p6 : lw_okq (⟨"StyliteOverheard$Law", "parsed", "()Z"⟩, 6) := ⟨⟨by decide +kernel, by decide +kernel⟩, List.mem_of_getElem? (i := 71) (by decide +kernel), List.mem_of_getElem? (i := 524) (by decide +kernel), List.mem_of_getElem? (i := 525) (by decide +kernel)⟩
theorem lw_p7 : lw_okq (⟨"StyliteOverheard$Law", "hasLine", "()Z"⟩, 6) := ⟨⟨by decide +kernel, by decide +kernel⟩, List.mem_of_getElem? (i := 71) (by decide +kernel), List.mem_of_getElem? (i := 532) (by decide +kernel), List.mem_of_getElem? (i := 533) (by decide +kernel)⟩
theorem lw_p8 : lw_okq (⟨"StyliteOverheard$Law", "hasEither", "(I)Z"⟩, 6) := ⟨⟨by decide +kernel, by decide +kernel⟩, List.mem_of_getElem? (i := 71) (by decide +kernel), List.mem_of_getElem? (i := 536) (by decide +kernel), List.mem_of_getElem? (i := 537) (by decide +kernel)⟩
theorem lw_p9 : lw_okq (⟨"StyliteOverheard$Law", "hasBoth", "(I)Z"⟩, 6) := ⟨⟨by decide +kernel, by decide +kernel⟩, List.mem_of_getElem? (i := 71) (by decide +kernel), List.mem_of_getElem? (i := 540) (by decide +kernel), List.mem_of_getElem? (i := 541) (by decide +kernel)⟩
theorem lw_p10 : lw_okq (⟨"StyliteOverheard$Law", "hasCompared", "(I)Z"⟩, 6) := ⟨⟨by decide +kernel, by decide +kernel⟩, List.mem_of_getElem? (i := 71) (by decide +kernel), List.mem_of_getElem? (i := 544) (by decide +kernel), List.mem_of_getElem? (i := 545) (by decide +kernel)⟩
theorem lw_p11 : lw_okq (⟨"StyliteOverheard$Law", "hasSum", "(I)Z"⟩, 6) := ⟨⟨by decide +kernel, by decide +kernel⟩, List.mem_of_getElem? (i := 71) (by decide +kernel), List.mem_of_getElem? (i := 548) (by decide +kernel), List.mem_of_getElem? (i := 549) (by decide +kernel)⟩
theorem lw_p12 : lw_okq (⟨"StyliteOverheard$Law", "hasProduct", "(I)Z"⟩, 6) := ⟨⟨by decide +kernel, by decide +kernel⟩, List.mem_of_getElem? (i := 71) (by decide +kernel), List.mem_of_getElem? (i := 552) (by decide +kernel), List.mem_of_getElem? (i := 553) (by decide +kernel)⟩
theorem lw_p13 : lw_okq (⟨"StyliteOverheard$Law", "hasOperand", "(I)Z"⟩, 6) := ⟨⟨by decide +kernel, by decide +kernel⟩, List.mem_of_getElem? (i := 71) (by decide +kernel), List.mem_of_getElem? (i := 556) (by decide +kernel), List.mem_of_getElem? (i := 557) (by decide +kernel)⟩
theorem lw_p14 : lw_okq (⟨"StyliteOverheard$Law", "byteHere", "()I"⟩, 6) := ⟨⟨by decide +kernel, by decide +kernel⟩, List.mem_of_getElem? (i := 71) (by decide +kernel), List.mem_of_getElem? (i := 560) (by decide +kernel), List.mem_of_getElem? (i := 561) (by decide +kernel)⟩
theorem lw_p15 : lw_okq (⟨"StyliteOverheard$Law", "addNumber", "()V"⟩, 6) := ⟨⟨by decide +kernel, by decide +kernel⟩, List.mem_of_getElem? (i := 71) (by decide +kernel), List.mem_of_getElem? (i := 567) (by decide +kernel), List.mem_of_getElem? (i := 568) (by decide +kernel)⟩
def lw_privs_1 : List (MethodName × Nat) := [(⟨"StyliteOverheard", "shelfAt", "(I)LStyliteOverheard$Shelf;"⟩, 12), (⟨"StyliteOverheard", "hasCome", "(LStyliteOverheard$Shelf;II)Z"⟩, 12), (⟨"StyliteOverheard", "isTold", "(II)Z"⟩, 12), (⟨"StyliteOverheard", "toldOf", "(II)I"⟩, 12), (⟨"StyliteOverheard", "rowOf", "(I)[I"⟩, 12), (⟨"StyliteOverheard", "tell", "(III)V"⟩, 12), (⟨"StyliteOverheard$Law", "parsed", "()Z"⟩, 6), (⟨"StyliteOverheard$Law", "hasLine", "()Z"⟩, 6), (⟨"StyliteOverheard$Law", "hasEither", "(I)Z"⟩, 6), (⟨"StyliteOverheard$Law", "hasBoth", "(I)Z"⟩, 6), (⟨"StyliteOverheard$Law", "hasCompared", "(I)Z"⟩, 6), (⟨"StyliteOverheard$Law", "hasSum", "(I)Z"⟩, 6), (⟨"StyliteOverheard$Law", "hasProduct", "(I)Z"⟩, 6), (⟨"StyliteOverheard$Law", "hasOperand", "(I)Z"⟩, 6), (⟨"StyliteOverheard$Law", "byteHere", "()I"⟩, 6), (⟨"StyliteOverheard$Law", "addNumber", "()V"⟩, 6)]
theorem lw_r1 : ∀ q ∈ lw_privs_1, lw_okq q := List.forall_mem_cons.mpr ⟨lw_p0, List.forall_mem_cons.mpr ⟨lw_p1, List.forall_mem_cons.mpr ⟨lw_p2, List.forall_mem_cons.mpr ⟨lw_p3, List.forall_mem_cons.mpr ⟨lw_p4, List.forall_mem_cons.mpr ⟨lw_p5, List.forall_mem_cons.mpr ⟨lw_p6, List.forall_mem_cons.mpr ⟨lw_p7, List.forall_mem_cons.mpr ⟨lw_p8, List.forall_mem_cons.mpr ⟨lw_p9, List.forall_mem_cons.mpr ⟨lw_p10, List.forall_mem_cons.mpr ⟨lw_p11, List.forall_mem_cons.mpr ⟨lw_p12, List.forall_mem_cons.mpr ⟨lw_p13, List.forall_mem_cons.mpr ⟨lw_p14, List.forall_mem_cons.mpr ⟨lw_p15, fun _ h => absurd h List.not_mem_nil⟩⟩⟩⟩⟩⟩⟩⟩⟩⟩⟩⟩⟩⟩⟩⟩
theorem lw_p16 : lw_okq (⟨"StyliteOverheard$Law", "hasNested", "(II)Z"⟩, 6) := ⟨⟨by decide +kernel, by decide +kernel⟩, List.mem_of_getElem? (i := 71) (by decide +kernel), List.mem_of_getElem? (i := 578) (by decide +kernel), List.mem_of_getElem? (i := 579) (by decide +kernel)⟩
theorem lw_p17 : lw_okq (⟨"StyliteOverheard$Law", "hasSeen", "(I)Z"⟩, 6) := ⟨⟨by decide +kernel, by decide +kernel⟩, List.mem_of_getElem? (i := 71) (by decide +kernel), List.mem_of_getElem? (i := 582) (by decide +kernel), List.mem_of_getElem? (i := 583) (by decide +kernel)⟩
theorem lw_p18 : lw_okq (⟨"StyliteOverheard$Law", "signSeen", "(III)I"⟩, 6) := ⟨⟨by decide +kernel, by decide +kernel⟩, List.mem_of_getElem? (i := 71) (by decide +kernel), List.mem_of_getElem? (i := 586) (by decide +kernel), List.mem_of_getElem? (i := 587) (by decide +kernel)⟩
theorem lw_p19 : lw_okq (⟨"StyliteOverheard$Law", "worked", "(IILStyliteOverheard$Him;I)I"⟩, 6) := ⟨⟨by decide +kernel, by decide +kernel⟩, List.mem_of_getElem? (i := 71) (by decide +kernel), List.mem_of_getElem? (i := 605) (by decide +kernel), List.mem_of_getElem? (i := 606) (by decide +kernel)⟩
theorem lw_p20 : lw_okq (⟨"StyliteOverheard", "think", "(LStyliteOverheard$Shelf;I)V"⟩, 12) := ⟨⟨by decide +kernel, by decide +kernel⟩, List.mem_of_getElem? (i := 18) (by decide +kernel), List.mem_of_getElem? (i := 626) (by decide +kernel), List.mem_of_getElem? (i := 627) (by decide +kernel)⟩
theorem lw_p21 : lw_okq (⟨"StyliteOverheard", "lumpsIn", "(I)I"⟩, 12) := ⟨⟨by decide +kernel, by decide +kernel⟩, List.mem_of_getElem? (i := 18) (by decide +kernel), List.mem_of_getElem? (i := 660) (by decide +kernel), List.mem_of_getElem? (i := 661) (by decide +kernel)⟩
theorem lw_p22 : lw_okq (⟨"StyliteOverheard", "firstLumpIn", "(I)I"⟩, 12) := ⟨⟨by decide +kernel, by decide +kernel⟩, List.mem_of_getElem? (i := 18) (by decide +kernel), List.mem_of_getElem? (i := 664) (by decide +kernel), List.mem_of_getElem? (i := 665) (by decide +kernel)⟩
theorem lw_p23 : lw_okq (⟨"StyliteOverheard", "saidIn", "(II)I"⟩, 12) := ⟨⟨by decide +kernel, by decide +kernel⟩, List.mem_of_getElem? (i := 18) (by decide +kernel), List.mem_of_getElem? (i := 678) (by decide +kernel), List.mem_of_getElem? (i := 679) (by decide +kernel)⟩
theorem lw_p24 : lw_okq (⟨"StyliteOverheard", "firstIn", "(II)I"⟩, 12) := ⟨⟨by decide +kernel, by decide +kernel⟩, List.mem_of_getElem? (i := 18) (by decide +kernel), List.mem_of_getElem? (i := 682) (by decide +kernel), List.mem_of_getElem? (i := 683) (by decide +kernel)⟩
theorem lw_p25 : lw_okq (⟨"StyliteOverheard", "sameAhead", "(I)I"⟩, 12) := ⟨⟨by decide +kernel, by decide +kernel⟩, List.mem_of_getElem? (i := 18) (by decide +kernel), List.mem_of_getElem? (i := 694) (by decide +kernel), List.mem_of_getElem? (i := 695) (by decide +kernel)⟩
theorem lw_p26 : lw_okq (⟨"StyliteOverheard$Planner", "setWorth", "(II)V"⟩, 8) := ⟨⟨by decide +kernel, by decide +kernel⟩, List.mem_of_getElem? (i := 292) (by decide +kernel), List.mem_of_getElem? (i := 707) (by decide +kernel), List.mem_of_getElem? (i := 708) (by decide +kernel)⟩
theorem lw_p27 : lw_okq (⟨"StyliteOverheard$Planner", "spread", "(LStyliteOverheard$Him;LStyliteOverheard$Law;)V"⟩, 8) := ⟨⟨by decide +kernel, by decide +kernel⟩, List.mem_of_getElem? (i := 292) (by decide +kernel), List.mem_of_getElem? (i := 711) (by decide +kernel), List.mem_of_getElem? (i := 712) (by decide +kernel)⟩
theorem lw_p28 : lw_okq (⟨"StyliteOverheard$Planner", "worthAt", "(I)I"⟩, 8) := ⟨⟨by decide +kernel, by decide +kernel⟩, List.mem_of_getElem? (i := 292) (by decide +kernel), List.mem_of_getElem? (i := 716) (by decide +kernel), List.mem_of_getElem? (i := 717) (by decide +kernel)⟩
theorem lw_p29 : lw_okq (⟨"StyliteOverheard$Planner", "saysFrom", "(IILStyliteOverheard$Law;)Z"⟩, 8) := ⟨⟨by decide +kernel, by decide +kernel⟩, List.mem_of_getElem? (i := 292) (by decide +kernel), List.mem_of_getElem? (i := 720) (by decide +kernel), List.mem_of_getElem? (i := 721) (by decide +kernel)⟩
theorem lw_p30 : lw_okq (⟨"StyliteOverheard$Planner", "keepSaid", "(III)V"⟩, 8) := ⟨⟨by decide +kernel, by decide +kernel⟩, List.mem_of_getElem? (i := 292) (by decide +kernel), List.mem_of_getElem? (i := 725) (by decide +kernel), List.mem_of_getElem? (i := 726) (by decide +kernel)⟩
theorem lw_p31 : lw_okq (⟨"StyliteOverheard$Planner", "weigh", "(LStyliteOverheard$Him;)V"⟩, 8) := ⟨⟨by decide +kernel, by decide +kernel⟩, List.mem_of_getElem? (i := 292) (by decide +kernel), List.mem_of_getElem? (i := 735) (by decide +kernel), List.mem_of_getElem? (i := 736) (by decide +kernel)⟩
def lw_privs_2 : List (MethodName × Nat) := [(⟨"StyliteOverheard$Law", "hasNested", "(II)Z"⟩, 6), (⟨"StyliteOverheard$Law", "hasSeen", "(I)Z"⟩, 6), (⟨"StyliteOverheard$Law", "signSeen", "(III)I"⟩, 6), (⟨"StyliteOverheard$Law", "worked", "(IILStyliteOverheard$Him;I)I"⟩, 6), (⟨"StyliteOverheard", "think", "(LStyliteOverheard$Shelf;I)V"⟩, 12), (⟨"StyliteOverheard", "lumpsIn", "(I)I"⟩, 12), (⟨"StyliteOverheard", "firstLumpIn", "(I)I"⟩, 12), (⟨"StyliteOverheard", "saidIn", "(II)I"⟩, 12), (⟨"StyliteOverheard", "firstIn", "(II)I"⟩, 12), (⟨"StyliteOverheard", "sameAhead", "(I)I"⟩, 12), (⟨"StyliteOverheard$Planner", "setWorth", "(II)V"⟩, 8), (⟨"StyliteOverheard$Planner", "spread", "(LStyliteOverheard$Him;LStyliteOverheard$Law;)V"⟩, 8), (⟨"StyliteOverheard$Planner", "worthAt", "(I)I"⟩, 8), (⟨"StyliteOverheard$Planner", "saysFrom", "(IILStyliteOverheard$Law;)Z"⟩, 8), (⟨"StyliteOverheard$Planner", "keepSaid", "(III)V"⟩, 8), (⟨"StyliteOverheard$Planner", "weigh", "(LStyliteOverheard$Him;)V"⟩, 8)]
theorem lw_r2 : ∀ q ∈ lw_privs_2, lw_okq q := List.forall_mem_cons.mpr ⟨lw_p16, List.forall_mem_cons.mpr ⟨lw_p17, List.forall_mem_cons.mpr ⟨lw_p18, List.forall_mem_cons.mpr ⟨lw_p19, List.forall_mem_cons.mpr ⟨lw_p20, List.forall_mem_cons.mpr ⟨lw_p21, List.forall_mem_cons.mpr ⟨lw_p22, List.forall_mem_cons.mpr ⟨lw_p23, List.forall_mem_cons.mpr ⟨lw_p24, List.forall_mem_cons.mpr ⟨lw_p25, List.forall_mem_cons.mpr ⟨lw_p26, List.forall_mem_cons.mpr ⟨lw_p27, List.forall_mem_cons.mpr ⟨lw_p28, List.forall_mem_cons.mpr ⟨lw_p29, List.forall_mem_cons.mpr ⟨lw_p30, List.forall_mem_cons.mpr ⟨lw_p31, fun _ h => absurd h List.not_mem_nil⟩⟩⟩⟩⟩⟩⟩⟩⟩⟩⟩⟩⟩⟩⟩⟩
theorem lw_p32 : lw_okq (⟨"StyliteOverheard$Planner", "ageTo", "(LStyliteOverheard$Him;I)V"⟩, 8) := ⟨⟨by decide +kernel, by decide +kernel⟩, List.mem_of_getElem? (i := 292) (by decide +kernel), List.mem_of_getElem? (i := 739) (by decide +kernel), List.mem_of_getElem? (i := 740) (by decide +kernel)⟩
theorem lw_p33 : lw_okq (⟨"StyliteOverheard$Planner", "worthBy", "(III)I"⟩, 8) := ⟨⟨by decide +kernel, by decide +kernel⟩, List.mem_of_getElem? (i := 292) (by decide +kernel), List.mem_of_getElem? (i := 743) (by decide +kernel), List.mem_of_getElem? (i := 744) (by decide +kernel)⟩
theorem lw_p34 : lw_okq (⟨"StyliteOverheard$Planner", "saidAt", "(II)I"⟩, 8) := ⟨⟨by decide +kernel, by decide +kernel⟩, List.mem_of_getElem? (i := 292) (by decide +kernel), List.mem_of_getElem? (i := 747) (by decide +kernel), List.mem_of_getElem? (i := 748) (by decide +kernel)⟩
theorem lw_p35 : lw_okq (⟨"StyliteOverheard$Planner", "pointsOf", "(II)I"⟩, 8) := ⟨⟨by decide +kernel, by decide +kernel⟩, List.mem_of_getElem? (i := 292) (by decide +kernel), List.mem_of_getElem? (i := 751) (by decide +kernel), List.mem_of_getElem? (i := 752) (by decide +kernel)⟩
theorem lw_p36 : lw_okq (⟨"StyliteOverheard$Planner", "walk", "(LStyliteOverheard$Him;I)V"⟩, 8) := ⟨⟨by decide +kernel, by decide +kernel⟩, List.mem_of_getElem? (i := 292) (by decide +kernel), List.mem_of_getElem? (i := 759) (by decide +kernel), List.mem_of_getElem? (i := 760) (by decide +kernel)⟩
theorem lw_p37 : lw_okq (⟨"StyliteOverheard$Reciter", "fit", "(IILStyliteOverheard$Law;)V"⟩, 5) := ⟨⟨by decide +kernel, by decide +kernel⟩, List.mem_of_getElem? (i := 327) (by decide +kernel), List.mem_of_getElem? (i := 779) (by decide +kernel), List.mem_of_getElem? (i := 780) (by decide +kernel)⟩
theorem lw_p38 : lw_okq (⟨"StyliteOverheard$Reciter", "setWays", "(IIJ)V"⟩, 5) := ⟨⟨by decide +kernel, by decide +kernel⟩, List.mem_of_getElem? (i := 327) (by decide +kernel), List.mem_of_getElem? (i := 786) (by decide +kernel), List.mem_of_getElem? (i := 787) (by decide +kernel)⟩
theorem lw_p39 : lw_okq (⟨"StyliteOverheard$Reciter", "waysFrom", "(II)J"⟩, 5) := ⟨⟨by decide +kernel, by decide +kernel⟩, List.mem_of_getElem? (i := 327) (by decide +kernel), List.mem_of_getElem? (i := 790) (by decide +kernel), List.mem_of_getElem? (i := 791) (by decide +kernel)⟩
theorem lw_p40 : lw_okq (⟨"StyliteOverheard$Reciter", "waysBy", "(III)J"⟩, 5) := ⟨⟨by decide +kernel, by decide +kernel⟩, List.mem_of_getElem? (i := 327) (by decide +kernel), List.mem_of_getElem? (i := 794) (by decide +kernel), List.mem_of_getElem? (i := 795) (by decide +kernel)⟩
theorem lw_p41 : lw_okq (⟨"StyliteOverheard$Reciter", "moodBehind", "(III)I"⟩, 5) := ⟨⟨by decide +kernel, by decide +kernel⟩, List.mem_of_getElem? (i := 327) (by decide +kernel), List.mem_of_getElem? (i := 798) (by decide +kernel), List.mem_of_getElem? (i := 799) (by decide +kernel)⟩
theorem lw_p42 : lw_okq (⟨"StyliteOverheard$Reciter", "waysAt", "(II)J"⟩, 5) := ⟨⟨by decide +kernel, by decide +kernel⟩, List.mem_of_getElem? (i := 327) (by decide +kernel), List.mem_of_getElem? (i := 802) (by decide +kernel), List.mem_of_getElem? (i := 803) (by decide +kernel)⟩
theorem lw_p43 : lw_okq (⟨"StyliteOverheard", "agreeing", "(II)I"⟩, 12) := ⟨⟨by decide +kernel, by decide +kernel⟩, List.mem_of_getElem? (i := 18) (by decide +kernel), List.mem_of_getElem? (i := 841) (by decide +kernel), List.mem_of_getElem? (i := 842) (by decide +kernel)⟩
theorem lw_p44 : lw_okq (⟨"StyliteOverheard", "salesOf", "(III)I"⟩, 12) := ⟨⟨by decide +kernel, by decide +kernel⟩, List.mem_of_getElem? (i := 18) (by decide +kernel), List.mem_of_getElem? (i := 849) (by decide +kernel), List.mem_of_getElem? (i := 850) (by decide +kernel)⟩
theorem lw_p45 : lw_okq (⟨"StyliteOverheard", "penceOf", "(III)I"⟩, 12) := ⟨⟨by decide +kernel, by decide +kernel⟩, List.mem_of_getElem? (i := 18) (by decide +kernel), List.mem_of_getElem? (i := 853) (by decide +kernel), List.mem_of_getElem? (i := 854) (by decide +kernel)⟩
theorem lw_p46 : lw_okq (⟨"StyliteOverheard$Village", "hasNextOrder", "()Z"⟩, 8) := ⟨⟨by decide +kernel, by decide +kernel⟩, List.mem_of_getElem? (i := 125) (by decide +kernel), List.mem_of_getElem? (i := 878) (by decide +kernel), List.mem_of_getElem? (i := 879) (by decide +kernel)⟩
theorem lw_p47 : lw_okq (⟨"StyliteOverheard$Village", "swap", "(II)V"⟩, 8) := ⟨⟨by decide +kernel, by decide +kernel⟩, List.mem_of_getElem? (i := 125) (by decide +kernel), List.mem_of_getElem? (i := 882) (by decide +kernel), List.mem_of_getElem? (i := 883) (by decide +kernel)⟩
def lw_privs_3 : List (MethodName × Nat) := [(⟨"StyliteOverheard$Planner", "ageTo", "(LStyliteOverheard$Him;I)V"⟩, 8), (⟨"StyliteOverheard$Planner", "worthBy", "(III)I"⟩, 8), (⟨"StyliteOverheard$Planner", "saidAt", "(II)I"⟩, 8), (⟨"StyliteOverheard$Planner", "pointsOf", "(II)I"⟩, 8), (⟨"StyliteOverheard$Planner", "walk", "(LStyliteOverheard$Him;I)V"⟩, 8), (⟨"StyliteOverheard$Reciter", "fit", "(IILStyliteOverheard$Law;)V"⟩, 5), (⟨"StyliteOverheard$Reciter", "setWays", "(IIJ)V"⟩, 5), (⟨"StyliteOverheard$Reciter", "waysFrom", "(II)J"⟩, 5), (⟨"StyliteOverheard$Reciter", "waysBy", "(III)J"⟩, 5), (⟨"StyliteOverheard$Reciter", "moodBehind", "(III)I"⟩, 5), (⟨"StyliteOverheard$Reciter", "waysAt", "(II)J"⟩, 5), (⟨"StyliteOverheard", "agreeing", "(II)I"⟩, 12), (⟨"StyliteOverheard", "salesOf", "(III)I"⟩, 12), (⟨"StyliteOverheard", "penceOf", "(III)I"⟩, 12), (⟨"StyliteOverheard$Village", "hasNextOrder", "()Z"⟩, 8), (⟨"StyliteOverheard$Village", "swap", "(II)V"⟩, 8)]
theorem lw_r3 : ∀ q ∈ lw_privs_3, lw_okq q := List.forall_mem_cons.mpr ⟨lw_p32, List.forall_mem_cons.mpr ⟨lw_p33, List.forall_mem_cons.mpr ⟨lw_p34, List.forall_mem_cons.mpr ⟨lw_p35, List.forall_mem_cons.mpr ⟨lw_p36, List.forall_mem_cons.mpr ⟨lw_p37, List.forall_mem_cons.mpr ⟨lw_p38, List.forall_mem_cons.mpr ⟨lw_p39, List.forall_mem_cons.mpr ⟨lw_p40, List.forall_mem_cons.mpr ⟨lw_p41, List.forall_mem_cons.mpr ⟨lw_p42, List.forall_mem_cons.mpr ⟨lw_p43, List.forall_mem_cons.mpr ⟨lw_p44, List.forall_mem_cons.mpr ⟨lw_p45, List.forall_mem_cons.mpr ⟨lw_p46, List.forall_mem_cons.mpr ⟨lw_p47, fun _ h => absurd h List.not_mem_nil⟩⟩⟩⟩⟩⟩⟩⟩⟩⟩⟩⟩⟩⟩⟩⟩
theorem lw_p48 : lw_okq (⟨"StyliteOverheard$Schools", "clearPhrase", "(I)V"⟩, 11) := ⟨⟨by decide +kernel, by decide +kernel⟩, List.mem_of_getElem? (i := 162) (by decide +kernel), List.mem_of_getElem? (i := 902) (by decide +kernel), List.mem_of_getElem? (i := 903) (by decide +kernel)⟩
theorem lw_p49 : lw_okq (⟨"StyliteOverheard$Schools", "addThing", "(II)V"⟩, 11) := ⟨⟨by decide +kernel, by decide +kernel⟩, List.mem_of_getElem? (i := 162) (by decide +kernel), List.mem_of_getElem? (i := 908) (by decide +kernel), List.mem_of_getElem? (i := 909) (by decide +kernel)⟩
theorem lw_p50 : lw_okq (⟨"StyliteOverheard$Schools", "maySucceed", "()Z"⟩, 11) := ⟨⟨by decide +kernel, by decide +kernel⟩, List.mem_of_getElem? (i := 162) (by decide +kernel), List.mem_of_getElem? (i := 950) (by decide +kernel), List.mem_of_getElem? (i := 951) (by decide +kernel)⟩
theorem lw_p51 : lw_okq (⟨"StyliteOverheard$Schools", "decide", "(III)V"⟩, 11) := ⟨⟨by decide +kernel, by decide +kernel⟩, List.mem_of_getElem? (i := 162) (by decide +kernel), List.mem_of_getElem? (i := 954) (by decide +kernel), List.mem_of_getElem? (i := 955) (by decide +kernel)⟩
theorem lw_p52 : lw_okq (⟨"StyliteOverheard$Acts", "note", "(I)V"⟩, 4) := ⟨⟨by decide +kernel, by decide +kernel⟩, List.mem_of_getElem? (i := 269) (by decide +kernel), List.mem_of_getElem? (i := 1046) (by decide +kernel), List.mem_of_getElem? (i := 1047) (by decide +kernel)⟩
theorem lw_p53 : lw_okq (⟨"StyliteOverheard$Shelf", "cut", "(J)J"⟩, 5) := ⟨⟨by decide +kernel, by decide +kernel⟩, List.mem_of_getElem? (i := 352) (by decide +kernel), List.mem_of_getElem? (i := 1076) (by decide +kernel), List.mem_of_getElem? (i := 1077) (by decide +kernel)⟩
theorem lw_p54 : lw_okq (⟨"StyliteOverheardModel", "addStall", "(III)I"⟩, 65) := ⟨⟨by decide +kernel, by decide +kernel⟩, List.mem_of_getElem? (i := 1105) (by decide +kernel), List.mem_of_getElem? (i := 1316) (by decide +kernel), List.mem_of_getElem? (i := 1317) (by decide +kernel)⟩
theorem lw_p55 : lw_okq (⟨"StyliteOverheardModel", "lays", "(III)V"⟩, 65) := ⟨⟨by decide +kernel, by decide +kernel⟩, List.mem_of_getElem? (i := 1105) (by decide +kernel), List.mem_of_getElem? (i := 1336) (by decide +kernel), List.mem_of_getElem? (i := 1337) (by decide +kernel)⟩
theorem lw_p56 : lw_okq (⟨"StyliteOverheardModel", "isOne", "(II)Z"⟩, 65) := ⟨⟨by decide +kernel, by decide +kernel⟩, List.mem_of_getElem? (i := 1105) (by decide +kernel), List.mem_of_getElem? (i := 1348) (by decide +kernel), List.mem_of_getElem? (i := 1349) (by decide +kernel)⟩
theorem lw_p57 : lw_okq (⟨"StyliteOverheardModel", "isStall", "(I)Z"⟩, 65) := ⟨⟨by decide +kernel, by decide +kernel⟩, List.mem_of_getElem? (i := 1105) (by decide +kernel), List.mem_of_getElem? (i := 1352) (by decide +kernel), List.mem_of_getElem? (i := 1353) (by decide +kernel)⟩
theorem lw_p58 : lw_okq (⟨"StyliteOverheardModel", "isSchool", "(I)Z"⟩, 65) := ⟨⟨by decide +kernel, by decide +kernel⟩, List.mem_of_getElem? (i := 1105) (by decide +kernel), List.mem_of_getElem? (i := 1356) (by decide +kernel), List.mem_of_getElem? (i := 1357) (by decide +kernel)⟩
theorem lw_p59 : lw_okq (⟨"StyliteOverheardModel", "changes", "(III)I"⟩, 65) := ⟨⟨by decide +kernel, by decide +kernel⟩, List.mem_of_getElem? (i := 1105) (by decide +kernel), List.mem_of_getElem? (i := 1366) (by decide +kernel), List.mem_of_getElem? (i := 1367) (by decide +kernel)⟩
theorem lw_p60 : lw_okq (⟨"StyliteOverheardModel", "valueAt", "(II)I"⟩, 65) := ⟨⟨by decide +kernel, by decide +kernel⟩, List.mem_of_getElem? (i := 1105) (by decide +kernel), List.mem_of_getElem? (i := 1370) (by decide +kernel), List.mem_of_getElem? (i := 1371) (by decide +kernel)⟩
theorem lw_p61 : lw_okq (⟨"StyliteOverheardModel", "readText", "(I)I"⟩, 65) := ⟨⟨by decide +kernel, by decide +kernel⟩, List.mem_of_getElem? (i := 1105) (by decide +kernel), List.mem_of_getElem? (i := 1386) (by decide +kernel), List.mem_of_getElem? (i := 1387) (by decide +kernel)⟩
theorem lw_p62 : lw_okq (⟨"StyliteOverheardModel", "line", "()V"⟩, 65) := ⟨⟨by decide +kernel, by decide +kernel⟩, List.mem_of_getElem? (i := 1105) (by decide +kernel), List.mem_of_getElem? (i := 1390) (by decide +kernel), List.mem_of_getElem? (i := 1391) (by decide +kernel)⟩
theorem lw_p63 : lw_okq (⟨"StyliteOverheardModel", "either", "()V"⟩, 65) := ⟨⟨by decide +kernel, by decide +kernel⟩, List.mem_of_getElem? (i := 1105) (by decide +kernel), List.mem_of_getElem? (i := 1394) (by decide +kernel), List.mem_of_getElem? (i := 1395) (by decide +kernel)⟩
def lw_privs_4 : List (MethodName × Nat) := [(⟨"StyliteOverheard$Schools", "clearPhrase", "(I)V"⟩, 11), (⟨"StyliteOverheard$Schools", "addThing", "(II)V"⟩, 11), (⟨"StyliteOverheard$Schools", "maySucceed", "()Z"⟩, 11), (⟨"StyliteOverheard$Schools", "decide", "(III)V"⟩, 11), (⟨"StyliteOverheard$Acts", "note", "(I)V"⟩, 4), (⟨"StyliteOverheard$Shelf", "cut", "(J)J"⟩, 5), (⟨"StyliteOverheardModel", "addStall", "(III)I"⟩, 65), (⟨"StyliteOverheardModel", "lays", "(III)V"⟩, 65), (⟨"StyliteOverheardModel", "isOne", "(II)Z"⟩, 65), (⟨"StyliteOverheardModel", "isStall", "(I)Z"⟩, 65), (⟨"StyliteOverheardModel", "isSchool", "(I)Z"⟩, 65), (⟨"StyliteOverheardModel", "changes", "(III)I"⟩, 65), (⟨"StyliteOverheardModel", "valueAt", "(II)I"⟩, 65), (⟨"StyliteOverheardModel", "readText", "(I)I"⟩, 65), (⟨"StyliteOverheardModel", "line", "()V"⟩, 65), (⟨"StyliteOverheardModel", "either", "()V"⟩, 65)]
theorem lw_r4 : ∀ q ∈ lw_privs_4, lw_okq q := List.forall_mem_cons.mpr ⟨lw_p48, List.forall_mem_cons.mpr ⟨lw_p49, List.forall_mem_cons.mpr ⟨lw_p50, List.forall_mem_cons.mpr ⟨lw_p51, List.forall_mem_cons.mpr ⟨lw_p52, List.forall_mem_cons.mpr ⟨lw_p53, List.forall_mem_cons.mpr ⟨lw_p54, List.forall_mem_cons.mpr ⟨lw_p55, List.forall_mem_cons.mpr ⟨lw_p56, List.forall_mem_cons.mpr ⟨lw_p57, List.forall_mem_cons.mpr ⟨lw_p58, List.forall_mem_cons.mpr ⟨lw_p59, List.forall_mem_cons.mpr ⟨lw_p60, List.forall_mem_cons.mpr ⟨lw_p61, List.forall_mem_cons.mpr ⟨lw_p62, List.forall_mem_cons.mpr ⟨lw_p63, fun _ h => absurd h List.not_mem_nil⟩⟩⟩⟩⟩⟩⟩⟩⟩⟩⟩⟩⟩⟩⟩⟩
theorem lw_p64 : lw_okq (⟨"StyliteOverheardModel", "both", "()V"⟩, 65) := ⟨⟨by decide +kernel, by decide +kernel⟩, List.mem_of_getElem? (i := 1105) (by decide +kernel), List.mem_of_getElem? (i := 1398) (by decide +kernel), List.mem_of_getElem? (i := 1399) (by decide +kernel)⟩
theorem lw_p65 : lw_okq (⟨"StyliteOverheardModel", "compared", "()V"⟩, 65) := ⟨⟨by decide +kernel, by decide +kernel⟩, List.mem_of_getElem? (i := 1105) (by decide +kernel), List.mem_of_getElem? (i := 1402) (by decide +kernel), List.mem_of_getElem? (i := 1403) (by decide +kernel)⟩
theorem lw_p66 : lw_okq (⟨"StyliteOverheardModel", "sum", "()V"⟩, 65) := ⟨⟨by decide +kernel, by decide +kernel⟩, List.mem_of_getElem? (i := 1105) (by decide +kernel), List.mem_of_getElem? (i := 1406) (by decide +kernel), List.mem_of_getElem? (i := 1407) (by decide +kernel)⟩
theorem lw_p67 : lw_okq (⟨"StyliteOverheardModel", "product", "()V"⟩, 65) := ⟨⟨by decide +kernel, by decide +kernel⟩, List.mem_of_getElem? (i := 1105) (by decide +kernel), List.mem_of_getElem? (i := 1410) (by decide +kernel), List.mem_of_getElem? (i := 1411) (by decide +kernel)⟩
theorem lw_p68 : lw_okq (⟨"StyliteOverheardModel", "operand", "()V"⟩, 65) := ⟨⟨by decide +kernel, by decide +kernel⟩, List.mem_of_getElem? (i := 1105) (by decide +kernel), List.mem_of_getElem? (i := 1414) (by decide +kernel), List.mem_of_getElem? (i := 1415) (by decide +kernel)⟩
theorem lw_p69 : lw_okq (⟨"StyliteOverheardModel", "look", "()I"⟩, 65) := ⟨⟨by decide +kernel, by decide +kernel⟩, List.mem_of_getElem? (i := 1105) (by decide +kernel), List.mem_of_getElem? (i := 1418) (by decide +kernel), List.mem_of_getElem? (i := 1419) (by decide +kernel)⟩
theorem lw_p70 : lw_okq (⟨"StyliteOverheardModel", "addStep", "(II)V"⟩, 65) := ⟨⟨by decide +kernel, by decide +kernel⟩, List.mem_of_getElem? (i := 1105) (by decide +kernel), List.mem_of_getElem? (i := 1425) (by decide +kernel), List.mem_of_getElem? (i := 1426) (by decide +kernel)⟩
theorem lw_p71 : lw_okq (⟨"StyliteOverheardModel", "opens", "()Z"⟩, 65) := ⟨⟨by decide +kernel, by decide +kernel⟩, List.mem_of_getElem? (i := 1105) (by decide +kernel), List.mem_of_getElem? (i := 1429) (by decide +kernel), List.mem_of_getElem? (i := 1430) (by decide +kernel)⟩
theorem lw_p72 : lw_okq (⟨"StyliteOverheardModel", "wrong", "()V"⟩, 65) := ⟨⟨by decide +kernel, by decide +kernel⟩, List.mem_of_getElem? (i := 1105) (by decide +kernel), List.mem_of_getElem? (i := 1433) (by decide +kernel), List.mem_of_getElem? (i := 1434) (by decide +kernel)⟩
theorem lw_p73 : lw_okq (⟨"StyliteOverheardModel", "figure", "()V"⟩, 65) := ⟨⟨by decide +kernel, by decide +kernel⟩, List.mem_of_getElem? (i := 1105) (by decide +kernel), List.mem_of_getElem? (i := 1437) (by decide +kernel), List.mem_of_getElem? (i := 1438) (by decide +kernel)⟩
theorem lw_p74 : lw_okq (⟨"StyliteOverheardModel", "saysBy", "(IIIII)I"⟩, 65) := ⟨⟨by decide +kernel, by decide +kernel⟩, List.mem_of_getElem? (i := 1105) (by decide +kernel), List.mem_of_getElem? (i := 1448) (by decide +kernel), List.mem_of_getElem? (i := 1449) (by decide +kernel)⟩
theorem lw_p75 : lw_okq (⟨"StyliteOverheardModel", "gives", "(I)I"⟩, 65) := ⟨⟨by decide +kernel, by decide +kernel⟩, List.mem_of_getElem? (i := 1105) (by decide +kernel), List.mem_of_getElem? (i := 1452) (by decide +kernel), List.mem_of_getElem? (i := 1453) (by decide +kernel)⟩
theorem lw_p76 : lw_okq (⟨"StyliteOverheardModel", "worked", "(III)I"⟩, 65) := ⟨⟨by decide +kernel, by decide +kernel⟩, List.mem_of_getElem? (i := 1105) (by decide +kernel), List.mem_of_getElem? (i := 1456) (by decide +kernel), List.mem_of_getElem? (i := 1457) (by decide +kernel)⟩
theorem lw_p77 : lw_okq (⟨"StyliteOverheardModel", "rowFault", "(II)I"⟩, 65) := ⟨⟨by decide +kernel, by decide +kernel⟩, List.mem_of_getElem? (i := 1105) (by decide +kernel), List.mem_of_getElem? (i := 1470) (by decide +kernel), List.mem_of_getElem? (i := 1471) (by decide +kernel)⟩
theorem lw_p78 : lw_okq (⟨"StyliteOverheardModel", "beginHours", "()V"⟩, 65) := ⟨⟨by decide +kernel, by decide +kernel⟩, List.mem_of_getElem? (i := 1105) (by decide +kernel), List.mem_of_getElem? (i := 1474) (by decide +kernel), List.mem_of_getElem? (i := 1475) (by decide +kernel)⟩
theorem lw_p79 : lw_okq (⟨"StyliteOverheardModel", "remarkAt", "(II)I"⟩, 65) := ⟨⟨by decide +kernel, by decide +kernel⟩, List.mem_of_getElem? (i := 1105) (by decide +kernel), List.mem_of_getElem? (i := 1478) (by decide +kernel), List.mem_of_getElem? (i := 1479) (by decide +kernel)⟩
def lw_privs_5 : List (MethodName × Nat) := [(⟨"StyliteOverheardModel", "both", "()V"⟩, 65), (⟨"StyliteOverheardModel", "compared", "()V"⟩, 65), (⟨"StyliteOverheardModel", "sum", "()V"⟩, 65), (⟨"StyliteOverheardModel", "product", "()V"⟩, 65), (⟨"StyliteOverheardModel", "operand", "()V"⟩, 65), (⟨"StyliteOverheardModel", "look", "()I"⟩, 65), (⟨"StyliteOverheardModel", "addStep", "(II)V"⟩, 65), (⟨"StyliteOverheardModel", "opens", "()Z"⟩, 65), (⟨"StyliteOverheardModel", "wrong", "()V"⟩, 65), (⟨"StyliteOverheardModel", "figure", "()V"⟩, 65), (⟨"StyliteOverheardModel", "saysBy", "(IIIII)I"⟩, 65), (⟨"StyliteOverheardModel", "gives", "(I)I"⟩, 65), (⟨"StyliteOverheardModel", "worked", "(III)I"⟩, 65), (⟨"StyliteOverheardModel", "rowFault", "(II)I"⟩, 65), (⟨"StyliteOverheardModel", "beginHours", "()V"⟩, 65), (⟨"StyliteOverheardModel", "remarkAt", "(II)I"⟩, 65)]
theorem lw_r5 : ∀ q ∈ lw_privs_5, lw_okq q := List.forall_mem_cons.mpr ⟨lw_p64, List.forall_mem_cons.mpr ⟨lw_p65, List.forall_mem_cons.mpr ⟨lw_p66, List.forall_mem_cons.mpr ⟨lw_p67, List.forall_mem_cons.mpr ⟨lw_p68, List.forall_mem_cons.mpr ⟨lw_p69, List.forall_mem_cons.mpr ⟨lw_p70, List.forall_mem_cons.mpr ⟨lw_p71, List.forall_mem_cons.mpr ⟨lw_p72, List.forall_mem_cons.mpr ⟨lw_p73, List.forall_mem_cons.mpr ⟨lw_p74, List.forall_mem_cons.mpr ⟨lw_p75, List.forall_mem_cons.mpr ⟨lw_p76, List.forall_mem_cons.mpr ⟨lw_p77, List.forall_mem_cons.mpr ⟨lw_p78, List.forall_mem_cons.mpr ⟨lw_p79, fun _ h => absurd h List.not_mem_nil⟩⟩⟩⟩⟩⟩⟩⟩⟩⟩⟩⟩⟩⟩⟩⟩
theorem lw_p80 : lw_okq (⟨"StyliteOverheardModel", "at", "(II)I"⟩, 65) := ⟨⟨by decide +kernel, by decide +kernel⟩, List.mem_of_getElem? (i := 1105) (by decide +kernel), List.mem_of_getElem? (i := 1482) (by decide +kernel), List.mem_of_getElem? (i := 1483) (by decide +kernel)⟩
theorem lw_p81 : lw_okq (⟨"StyliteOverheardModel", "goHour", "(I)V"⟩, 65) := ⟨⟨by decide +kernel, by decide +kernel⟩, List.mem_of_getElem? (i := 1105) (by decide +kernel), List.mem_of_getElem? (i := 1486) (by decide +kernel), List.mem_of_getElem? (i := 1487) (by decide +kernel)⟩
theorem lw_p82 : lw_okq (⟨"StyliteOverheardModel", "isLumpBy", "(III)Z"⟩, 65) := ⟨⟨by decide +kernel, by decide +kernel⟩, List.mem_of_getElem? (i := 1105) (by decide +kernel), List.mem_of_getElem? (i := 1490) (by decide +kernel), List.mem_of_getElem? (i := 1491) (by decide +kernel)⟩
theorem lw_p83 : lw_okq (⟨"StyliteOverheardModel", "stateNow", "()I"⟩, 65) := ⟨⟨by decide +kernel, by decide +kernel⟩, List.mem_of_getElem? (i := 1105) (by decide +kernel), List.mem_of_getElem? (i := 1502) (by decide +kernel), List.mem_of_getElem? (i := 1503) (by decide +kernel)⟩
theorem lw_p84 : lw_okq (⟨"StyliteOverheardModel", "remarksOf", "(I)I"⟩, 65) := ⟨⟨by decide +kernel, by decide +kernel⟩, List.mem_of_getElem? (i := 1105) (by decide +kernel), List.mem_of_getElem? (i := 1510) (by decide +kernel), List.mem_of_getElem? (i := 1511) (by decide +kernel)⟩
theorem lw_p85 : lw_okq (⟨"StyliteOverheardModel", "findPlan", "(II)V"⟩, 65) := ⟨⟨by decide +kernel, by decide +kernel⟩, List.mem_of_getElem? (i := 1105) (by decide +kernel), List.mem_of_getElem? (i := 1514) (by decide +kernel), List.mem_of_getElem? (i := 1515) (by decide +kernel)⟩
theorem lw_p86 : lw_okq (⟨"StyliteOverheardModel", "hadBy", "(IIII)I"⟩, 65) := ⟨⟨by decide +kernel, by decide +kernel⟩, List.mem_of_getElem? (i := 1105) (by decide +kernel), List.mem_of_getElem? (i := 1518) (by decide +kernel), List.mem_of_getElem? (i := 1519) (by decide +kernel)⟩
theorem lw_p87 : lw_okq (⟨"StyliteOverheardModel", "hungerIn", "(I)I"⟩, 65) := ⟨⟨by decide +kernel, by decide +kernel⟩, List.mem_of_getElem? (i := 1105) (by decide +kernel), List.mem_of_getElem? (i := 1522) (by decide +kernel), List.mem_of_getElem? (i := 1523) (by decide +kernel)⟩
theorem lw_p88 : lw_okq (⟨"StyliteOverheardModel", "hourIn", "(I)I"⟩, 65) := ⟨⟨by decide +kernel, by decide +kernel⟩, List.mem_of_getElem? (i := 1105) (by decide +kernel), List.mem_of_getElem? (i := 1526) (by decide +kernel), List.mem_of_getElem? (i := 1527) (by decide +kernel)⟩
theorem lw_p89 : lw_okq (⟨"StyliteOverheardModel", "countsAt", "(III)I"⟩, 65) := ⟨⟨by decide +kernel, by decide +kernel⟩, List.mem_of_getElem? (i := 1105) (by decide +kernel), List.mem_of_getElem? (i := 1530) (by decide +kernel), List.mem_of_getElem? (i := 1531) (by decide +kernel)⟩
theorem lw_p90 : lw_okq (⟨"StyliteOverheardModel", "leftAt", "(III)I"⟩, 65) := ⟨⟨by decide +kernel, by decide +kernel⟩, List.mem_of_getElem? (i := 1105) (by decide +kernel), List.mem_of_getElem? (i := 1534) (by decide +kernel), List.mem_of_getElem? (i := 1535) (by decide +kernel)⟩
theorem lw_p91 : lw_okq (⟨"StyliteOverheardModel", "plannedAt", "(II)I"⟩, 65) := ⟨⟨by decide +kernel, by decide +kernel⟩, List.mem_of_getElem? (i := 1105) (by decide +kernel), List.mem_of_getElem? (i := 1538) (by decide +kernel), List.mem_of_getElem? (i := 1539) (by decide +kernel)⟩
theorem lw_p92 : lw_okq (⟨"StyliteOverheardModel", "layThings", "(I)V"⟩, 65) := ⟨⟨by decide +kernel, by decide +kernel⟩, List.mem_of_getElem? (i := 1105) (by decide +kernel), List.mem_of_getElem? (i := 1558) (by decide +kernel), List.mem_of_getElem? (i := 1559) (by decide +kernel)⟩
theorem lw_p93 : lw_okq (⟨"StyliteOverheardModel", "findRecite", "()V"⟩, 65) := ⟨⟨by decide +kernel, by decide +kernel⟩, List.mem_of_getElem? (i := 1105) (by decide +kernel), List.mem_of_getElem? (i := 1562) (by decide +kernel), List.mem_of_getElem? (i := 1563) (by decide +kernel)⟩
theorem lw_p94 : lw_okq (⟨"StyliteOverheardModel", "waysBy", "(III)J"⟩, 65) := ⟨⟨by decide +kernel, by decide +kernel⟩, List.mem_of_getElem? (i := 1105) (by decide +kernel), List.mem_of_getElem? (i := 1566) (by decide +kernel), List.mem_of_getElem? (i := 1567) (by decide +kernel)⟩
theorem lw_p95 : lw_okq (⟨"StyliteOverheardModel", "recitesBy", "(III)Z"⟩, 65) := ⟨⟨by decide +kernel, by decide +kernel⟩, List.mem_of_getElem? (i := 1105) (by decide +kernel), List.mem_of_getElem? (i := 1570) (by decide +kernel), List.mem_of_getElem? (i := 1571) (by decide +kernel)⟩
def lw_privs_6 : List (MethodName × Nat) := [(⟨"StyliteOverheardModel", "at", "(II)I"⟩, 65), (⟨"StyliteOverheardModel", "goHour", "(I)V"⟩, 65), (⟨"StyliteOverheardModel", "isLumpBy", "(III)Z"⟩, 65), (⟨"StyliteOverheardModel", "stateNow", "()I"⟩, 65), (⟨"StyliteOverheardModel", "remarksOf", "(I)I"⟩, 65), (⟨"StyliteOverheardModel", "findPlan", "(II)V"⟩, 65), (⟨"StyliteOverheardModel", "hadBy", "(IIII)I"⟩, 65), (⟨"StyliteOverheardModel", "hungerIn", "(I)I"⟩, 65), (⟨"StyliteOverheardModel", "hourIn", "(I)I"⟩, 65), (⟨"StyliteOverheardModel", "countsAt", "(III)I"⟩, 65), (⟨"StyliteOverheardModel", "leftAt", "(III)I"⟩, 65), (⟨"StyliteOverheardModel", "plannedAt", "(II)I"⟩, 65), (⟨"StyliteOverheardModel", "layThings", "(I)V"⟩, 65), (⟨"StyliteOverheardModel", "findRecite", "()V"⟩, 65), (⟨"StyliteOverheardModel", "waysBy", "(III)J"⟩, 65), (⟨"StyliteOverheardModel", "recitesBy", "(III)Z"⟩, 65)]
theorem lw_r6 : ∀ q ∈ lw_privs_6, lw_okq q := List.forall_mem_cons.mpr ⟨lw_p80, List.forall_mem_cons.mpr ⟨lw_p81, List.forall_mem_cons.mpr ⟨lw_p82, List.forall_mem_cons.mpr ⟨lw_p83, List.forall_mem_cons.mpr ⟨lw_p84, List.forall_mem_cons.mpr ⟨lw_p85, List.forall_mem_cons.mpr ⟨lw_p86, List.forall_mem_cons.mpr ⟨lw_p87, List.forall_mem_cons.mpr ⟨lw_p88, List.forall_mem_cons.mpr ⟨lw_p89, List.forall_mem_cons.mpr ⟨lw_p90, List.forall_mem_cons.mpr ⟨lw_p91, List.forall_mem_cons.mpr ⟨lw_p92, List.forall_mem_cons.mpr ⟨lw_p93, List.forall_mem_cons.mpr ⟨lw_p94, List.forall_mem_cons.mpr ⟨lw_p95, fun _ h => absurd h List.not_mem_nil⟩⟩⟩⟩⟩⟩⟩⟩⟩⟩⟩⟩⟩⟩⟩⟩
theorem lw_p96 : lw_okq (⟨"StyliteOverheardModel", "lastAt", "(I)I"⟩, 65) := ⟨⟨by decide +kernel, by decide +kernel⟩, List.mem_of_getElem? (i := 1105) (by decide +kernel), List.mem_of_getElem? (i := 1574) (by decide +kernel), List.mem_of_getElem? (i := 1575) (by decide +kernel)⟩
theorem lw_p97 : lw_okq (⟨"StyliteOverheardModel", "sureMany", "()I"⟩, 65) := ⟨⟨by decide +kernel, by decide +kernel⟩, List.mem_of_getElem? (i := 1105) (by decide +kernel), List.mem_of_getElem? (i := 1582) (by decide +kernel), List.mem_of_getElem? (i := 1583) (by decide +kernel)⟩
theorem lw_p98 : lw_okq (⟨"StyliteOverheardModel", "recitedAt", "(I)I"⟩, 65) := ⟨⟨by decide +kernel, by decide +kernel⟩, List.mem_of_getElem? (i := 1105) (by decide +kernel), List.mem_of_getElem? (i := 1589) (by decide +kernel), List.mem_of_getElem? (i := 1590) (by decide +kernel)⟩
theorem lw_p99 : lw_okq (⟨"StyliteOverheardModel", "firstBy", "(II)I"⟩, 65) := ⟨⟨by decide +kernel, by decide +kernel⟩, List.mem_of_getElem? (i := 1105) (by decide +kernel), List.mem_of_getElem? (i := 1593) (by decide +kernel), List.mem_of_getElem? (i := 1594) (by decide +kernel)⟩
theorem lw_p100 : lw_okq (⟨"StyliteOverheardModel", "findPlain", "(I)V"⟩, 65) := ⟨⟨by decide +kernel, by decide +kernel⟩, List.mem_of_getElem? (i := 1105) (by decide +kernel), List.mem_of_getElem? (i := 1601) (by decide +kernel), List.mem_of_getElem? (i := 1602) (by decide +kernel)⟩
theorem lw_p101 : lw_okq (⟨"StyliteOverheardModel", "findHits", "(II)V"⟩, 65) := ⟨⟨by decide +kernel, by decide +kernel⟩, List.mem_of_getElem? (i := 1105) (by decide +kernel), List.mem_of_getElem? (i := 1609) (by decide +kernel), List.mem_of_getElem? (i := 1610) (by decide +kernel)⟩
theorem lw_p102 : lw_okq (⟨"StyliteOverheardModel", "soldBy", "(I)I"⟩, 65) := ⟨⟨by decide +kernel, by decide +kernel⟩, List.mem_of_getElem? (i := 1105) (by decide +kernel), List.mem_of_getElem? (i := 1613) (by decide +kernel), List.mem_of_getElem? (i := 1614) (by decide +kernel)⟩
theorem lw_p103 : lw_okq (⟨"StyliteOverheardModel", "goOrders", "(III)V"⟩, 65) := ⟨⟨by decide +kernel, by decide +kernel⟩, List.mem_of_getElem? (i := 1105) (by decide +kernel), List.mem_of_getElem? (i := 1625) (by decide +kernel), List.mem_of_getElem? (i := 1626) (by decide +kernel)⟩
theorem lw_p104 : lw_okq (⟨"StyliteOverheardModel", "verdictOf", "(II)I"⟩, 65) := ⟨⟨by decide +kernel, by decide +kernel⟩, List.mem_of_getElem? (i := 1105) (by decide +kernel), List.mem_of_getElem? (i := 1637) (by decide +kernel), List.mem_of_getElem? (i := 1638) (by decide +kernel)⟩
theorem lw_p105 : lw_okq (⟨"StyliteOverheardModel", "layVerdicts", "(I)V"⟩, 65) := ⟨⟨by decide +kernel, by decide +kernel⟩, List.mem_of_getElem? (i := 1105) (by decide +kernel), List.mem_of_getElem? (i := 1652) (by decide +kernel), List.mem_of_getElem? (i := 1653) (by decide +kernel)⟩
theorem lw_p106 : lw_okq (⟨"StyliteOverheardModel", "clearPhrase", "()V"⟩, 65) := ⟨⟨by decide +kernel, by decide +kernel⟩, List.mem_of_getElem? (i := 1105) (by decide +kernel), List.mem_of_getElem? (i := 1656) (by decide +kernel), List.mem_of_getElem? (i := 1657) (by decide +kernel)⟩
theorem lw_p107 : lw_okq (⟨"StyliteOverheardModel", "isSoBy", "(II)Z"⟩, 65) := ⟨⟨by decide +kernel, by decide +kernel⟩, List.mem_of_getElem? (i := 1105) (by decide +kernel), List.mem_of_getElem? (i := 1660) (by decide +kernel), List.mem_of_getElem? (i := 1661) (by decide +kernel)⟩
theorem lw_p108 : lw_okq (⟨"StyliteOverheardModel", "allSo", "(I)Z"⟩, 65) := ⟨⟨by decide +kernel, by decide +kernel⟩, List.mem_of_getElem? (i := 1105) (by decide +kernel), List.mem_of_getElem? (i := 1668) (by decide +kernel), List.mem_of_getElem? (i := 1669) (by decide +kernel)⟩
theorem lw_p109 : lw_okq (⟨"StyliteOverheardModel", "isBody", "(I)Z"⟩, 65) := ⟨⟨by decide +kernel, by decide +kernel⟩, List.mem_of_getElem? (i := 1105) (by decide +kernel), List.mem_of_getElem? (i := 1709) (by decide +kernel), List.mem_of_getElem? (i := 1710) (by decide +kernel)⟩
theorem lw_p110 : lw_okq (⟨"StyliteOverheardModel", "saying", "(II)I"⟩, 65) := ⟨⟨by decide +kernel, by decide +kernel⟩, List.mem_of_getElem? (i := 1105) (by decide +kernel), List.mem_of_getElem? (i := 1713) (by decide +kernel), List.mem_of_getElem? (i := 1714) (by decide +kernel)⟩
theorem lw_p111 : lw_okq (⟨"StyliteOverheardModel", "ran", "(I)V"⟩, 65) := ⟨⟨by decide +kernel, by decide +kernel⟩, List.mem_of_getElem? (i := 1105) (by decide +kernel), List.mem_of_getElem? (i := 1720) (by decide +kernel), List.mem_of_getElem? (i := 1721) (by decide +kernel)⟩
def lw_privs_7 : List (MethodName × Nat) := [(⟨"StyliteOverheardModel", "lastAt", "(I)I"⟩, 65), (⟨"StyliteOverheardModel", "sureMany", "()I"⟩, 65), (⟨"StyliteOverheardModel", "recitedAt", "(I)I"⟩, 65), (⟨"StyliteOverheardModel", "firstBy", "(II)I"⟩, 65), (⟨"StyliteOverheardModel", "findPlain", "(I)V"⟩, 65), (⟨"StyliteOverheardModel", "findHits", "(II)V"⟩, 65), (⟨"StyliteOverheardModel", "soldBy", "(I)I"⟩, 65), (⟨"StyliteOverheardModel", "goOrders", "(III)V"⟩, 65), (⟨"StyliteOverheardModel", "verdictOf", "(II)I"⟩, 65), (⟨"StyliteOverheardModel", "layVerdicts", "(I)V"⟩, 65), (⟨"StyliteOverheardModel", "clearPhrase", "()V"⟩, 65), (⟨"StyliteOverheardModel", "isSoBy", "(II)Z"⟩, 65), (⟨"StyliteOverheardModel", "allSo", "(I)Z"⟩, 65), (⟨"StyliteOverheardModel", "isBody", "(I)Z"⟩, 65), (⟨"StyliteOverheardModel", "saying", "(II)I"⟩, 65), (⟨"StyliteOverheardModel", "ran", "(I)V"⟩, 65)]
theorem lw_r7 : ∀ q ∈ lw_privs_7, lw_okq q := List.forall_mem_cons.mpr ⟨lw_p96, List.forall_mem_cons.mpr ⟨lw_p97, List.forall_mem_cons.mpr ⟨lw_p98, List.forall_mem_cons.mpr ⟨lw_p99, List.forall_mem_cons.mpr ⟨lw_p100, List.forall_mem_cons.mpr ⟨lw_p101, List.forall_mem_cons.mpr ⟨lw_p102, List.forall_mem_cons.mpr ⟨lw_p103, List.forall_mem_cons.mpr ⟨lw_p104, List.forall_mem_cons.mpr ⟨lw_p105, List.forall_mem_cons.mpr ⟨lw_p106, List.forall_mem_cons.mpr ⟨lw_p107, List.forall_mem_cons.mpr ⟨lw_p108, List.forall_mem_cons.mpr ⟨lw_p109, List.forall_mem_cons.mpr ⟨lw_p110, List.forall_mem_cons.mpr ⟨lw_p111, fun _ h => absurd h List.not_mem_nil⟩⟩⟩⟩⟩⟩⟩⟩⟩⟩⟩⟩⟩⟩⟩⟩
theorem lw_p112 : lw_okq (⟨"StyliteOverheardModel", "plainSays", "(II)I"⟩, 65) := ⟨⟨by decide +kernel, by decide +kernel⟩, List.mem_of_getElem? (i := 1105) (by decide +kernel), List.mem_of_getElem? (i := 1724) (by decide +kernel), List.mem_of_getElem? (i := 1725) (by decide +kernel)⟩
theorem lw_p113 : lw_okq (⟨"StyliteOverheardModel", "wellSays", "(II)I"⟩, 65) := ⟨⟨by decide +kernel, by decide +kernel⟩, List.mem_of_getElem? (i := 1105) (by decide +kernel), List.mem_of_getElem? (i := 1728) (by decide +kernel), List.mem_of_getElem? (i := 1729) (by decide +kernel)⟩
theorem lw_p114 : lw_okq (⟨"StyliteOverheardModel", "falling", "(II)I"⟩, 65) := ⟨⟨by decide +kernel, by decide +kernel⟩, List.mem_of_getElem? (i := 1105) (by decide +kernel), List.mem_of_getElem? (i := 1732) (by decide +kernel), List.mem_of_getElem? (i := 1733) (by decide +kernel)⟩
theorem lw_p115 : lw_okq (⟨"StyliteOverheardModel", "mutterFalls", "(II)I"⟩, 65) := ⟨⟨by decide +kernel, by decide +kernel⟩, List.mem_of_getElem? (i := 1105) (by decide +kernel), List.mem_of_getElem? (i := 1736) (by decide +kernel), List.mem_of_getElem? (i := 1737) (by decide +kernel)⟩
theorem lw_p116 : lw_okq (⟨"StyliteOverheardModel", "plainFalls", "(II)I"⟩, 65) := ⟨⟨by decide +kernel, by decide +kernel⟩, List.mem_of_getElem? (i := 1105) (by decide +kernel), List.mem_of_getElem? (i := 1740) (by decide +kernel), List.mem_of_getElem? (i := 1741) (by decide +kernel)⟩
theorem lw_p117 : lw_okq (⟨"StyliteOverheardModel", "selling", "(II)I"⟩, 65) := ⟨⟨by decide +kernel, by decide +kernel⟩, List.mem_of_getElem? (i := 1105) (by decide +kernel), List.mem_of_getElem? (i := 1744) (by decide +kernel), List.mem_of_getElem? (i := 1745) (by decide +kernel)⟩
theorem lw_p118 : lw_okq (⟨"StyliteOverheardModel", "curseSells", "(II)I"⟩, 65) := ⟨⟨by decide +kernel, by decide +kernel⟩, List.mem_of_getElem? (i := 1105) (by decide +kernel), List.mem_of_getElem? (i := 1748) (by decide +kernel), List.mem_of_getElem? (i := 1749) (by decide +kernel)⟩
theorem lw_p119 : lw_okq (⟨"StyliteOverheardModel", "plainSells", "(II)I"⟩, 65) := ⟨⟨by decide +kernel, by decide +kernel⟩, List.mem_of_getElem? (i := 1105) (by decide +kernel), List.mem_of_getElem? (i := 1752) (by decide +kernel), List.mem_of_getElem? (i := 1753) (by decide +kernel)⟩
theorem lw_p120 : lw_okq (⟨"StyliteOverheardModel", "telling", "(II)I"⟩, 65) := ⟨⟨by decide +kernel, by decide +kernel⟩, List.mem_of_getElem? (i := 1105) (by decide +kernel), List.mem_of_getElem? (i := 1756) (by decide +kernel), List.mem_of_getElem? (i := 1757) (by decide +kernel)⟩
theorem lw_p121 : lw_okq (⟨"StyliteOverheardModel", "plainTells", "(II)I"⟩, 65) := ⟨⟨by decide +kernel, by decide +kernel⟩, List.mem_of_getElem? (i := 1105) (by decide +kernel), List.mem_of_getElem? (i := 1760) (by decide +kernel), List.mem_of_getElem? (i := 1761) (by decide +kernel)⟩
theorem lw_p122 : lw_okq (⟨"StyliteOverheardModel", "whyNoPlace", "(II)I"⟩, 65) := ⟨⟨by decide +kernel, by decide +kernel⟩, List.mem_of_getElem? (i := 1105) (by decide +kernel), List.mem_of_getElem? (i := 1780) (by decide +kernel), List.mem_of_getElem? (i := 1781) (by decide +kernel)⟩
def lw_privs_8 : List (MethodName × Nat) := [(⟨"StyliteOverheardModel", "plainSays", "(II)I"⟩, 65), (⟨"StyliteOverheardModel", "wellSays", "(II)I"⟩, 65), (⟨"StyliteOverheardModel", "falling", "(II)I"⟩, 65), (⟨"StyliteOverheardModel", "mutterFalls", "(II)I"⟩, 65), (⟨"StyliteOverheardModel", "plainFalls", "(II)I"⟩, 65), (⟨"StyliteOverheardModel", "selling", "(II)I"⟩, 65), (⟨"StyliteOverheardModel", "curseSells", "(II)I"⟩, 65), (⟨"StyliteOverheardModel", "plainSells", "(II)I"⟩, 65), (⟨"StyliteOverheardModel", "telling", "(II)I"⟩, 65), (⟨"StyliteOverheardModel", "plainTells", "(II)I"⟩, 65), (⟨"StyliteOverheardModel", "whyNoPlace", "(II)I"⟩, 65)]
theorem lw_r8 : ∀ q ∈ lw_privs_8, lw_okq q := List.forall_mem_cons.mpr ⟨lw_p112, List.forall_mem_cons.mpr ⟨lw_p113, List.forall_mem_cons.mpr ⟨lw_p114, List.forall_mem_cons.mpr ⟨lw_p115, List.forall_mem_cons.mpr ⟨lw_p116, List.forall_mem_cons.mpr ⟨lw_p117, List.forall_mem_cons.mpr ⟨lw_p118, List.forall_mem_cons.mpr ⟨lw_p119, List.forall_mem_cons.mpr ⟨lw_p120, List.forall_mem_cons.mpr ⟨lw_p121, List.forall_mem_cons.mpr ⟨lw_p122, fun _ h => absurd h List.not_mem_nil⟩⟩⟩⟩⟩⟩⟩⟩⟩⟩⟩
def lw_privs : List (MethodName × Nat) := lw_privs_1 ++ (lw_privs_2 ++ (lw_privs_3 ++ (lw_privs_4 ++ (lw_privs_5 ++ (lw_privs_6 ++ (lw_privs_7 ++ (lw_privs_8)))))))
def lw_tbl : List Cond := k2_sels lw_privs ++ tables_1
theorem lw_privs_ok : ∀ q ∈ lw_privs, lw_okq q := by
  show ∀ q ∈ lw_privs_1 ++ (lw_privs_2 ++ (lw_privs_3 ++ (lw_privs_4 ++ (lw_privs_5 ++ (lw_privs_6 ++ (lw_privs_7 ++ (lw_privs_8))))))), lw_okq q
  exact List.forall_mem_append.mpr ⟨lw_r1, List.forall_mem_append.mpr ⟨lw_r2, List.forall_mem_append.mpr ⟨lw_r3, List.forall_mem_append.mpr ⟨lw_r4, List.forall_mem_append.mpr ⟨lw_r5, List.forall_mem_append.mpr ⟨lw_r6, List.forall_mem_append.mpr ⟨lw_r7, lw_r8⟩⟩⟩⟩⟩⟩⟩
-- ===== end of PART A; then your names; then what follows =====
def RX0 : String := "StyliteOverheard$Acts"
def TX0 : u_T := fun k => match k with
  | 0 => ("StyliteOverheard$Acts", "count", "I", false)
  | 1 => ("StyliteOverheard$Acts", "ran", "I", false)
  | 2 => ("StyliteOverheard$Acts", "kinds", "[I", true)
  | _ => ("StyliteOverheard$Acts", "traced", "[I", true)
def tyX0 : Nat → FieldType := fun k => match k with
  | 0 => .int
  | 1 => .int
  | 2 => .array .int
  | _ => .array .int
theorem nmX0 : ∀ a, a < 4 → ∀ b, b < 4 → a ≠ b → (TX0 a).2.1 ≠ (TX0 b).2.1 := by decide +kernel
theorem tyX0_ok : ∀ k, k < 4 → parseFieldDescriptor (TX0 k).2.2.1 = some (tyX0 k) := by decide +kernel
def RX1 : String := "StyliteOverheard$Changes"
def TX1 : u_T := fun k => match k with
  | 0 => ("StyliteOverheard$Changes", "done", "I", false)
  | 1 => ("StyliteOverheard$Changes", "kept", "I", false)
  | 2 => ("StyliteOverheard$Changes", "number", "[I", true)
  | 3 => ("StyliteOverheard$Changes", "what", "[I", true)
  | 4 => ("StyliteOverheard$Changes", "was", "[I", true)
  | _ => ("StyliteOverheard$Changes", "becomes", "[I", true)
def tyX1 : Nat → FieldType := fun k => match k with
  | 0 => .int
  | 1 => .int
  | 2 => .array .int
  | 3 => .array .int
  | 4 => .array .int
  | _ => .array .int
theorem nmX1 : ∀ a, a < 6 → ∀ b, b < 6 → a ≠ b → (TX1 a).2.1 ≠ (TX1 b).2.1 := by decide +kernel
theorem tyX1_ok : ∀ k, k < 6 → parseFieldDescriptor (TX1 k).2.2.1 = some (tyX1 k) := by decide +kernel
def RX2 : String := "StyliteOverheard$Code"
def TX2 : u_T := fun k => match k with
  | 0 => ("StyliteOverheard$Code", "signs", "[I", true)
  | 1 => ("StyliteOverheard$Code", "asked", "[I", true)
  | 2 => ("StyliteOverheard$Code", "ends", "[I", true)
  | 3 => ("StyliteOverheard$Code", "length", "I", false)
  | _ => ("StyliteOverheard$Code", "lines", "I", false)
def tyX2 : Nat → FieldType := fun k => match k with
  | 0 => .array .int
  | 1 => .array .int
  | 2 => .array .int
  | 3 => .int
  | _ => .int
theorem nmX2 : ∀ a, a < 5 → ∀ b, b < 5 → a ≠ b → (TX2 a).2.1 ≠ (TX2 b).2.1 := by decide +kernel
theorem tyX2_ok : ∀ k, k < 5 → parseFieldDescriptor (TX2 k).2.2.1 = some (tyX2 k) := by decide +kernel
def RX3 : String := "StyliteOverheard$Him"
def TX3 : u_T := fun k => match k with
  | 0 => ("StyliteOverheard$Him", "mood", "I", false)
  | 1 => ("StyliteOverheard$Him", "hunger", "I", false)
  | 2 => ("StyliteOverheard$Him", "last", "I", false)
  | 3 => ("StyliteOverheard$Him", "hour", "I", false)
  | 4 => ("StyliteOverheard$Him", "grows", "I", false)
  | 5 => ("StyliteOverheard$Him", "loud", "I", false)
  | _ => ("StyliteOverheard$Him", "temper", "I", false)
def tyX3 : Nat → FieldType := fun k => match k with
  | 0 => .int
  | 1 => .int
  | 2 => .int
  | 3 => .int
  | 4 => .int
  | 5 => .int
  | _ => .int
theorem nmX3 : ∀ a, a < 7 → ∀ b, b < 7 → a ≠ b → (TX3 a).2.1 ≠ (TX3 b).2.1 := by decide +kernel
theorem tyX3_ok : ∀ k, k < 7 → parseFieldDescriptor (TX3 k).2.2.1 = some (tyX3 k) := by decide +kernel
def RX4 : String := "StyliteOverheard$Law"
def TX4 : u_T := fun k => match k with
  | 0 => ("StyliteOverheard$Law", "fed", "I", false)
  | 1 => ("StyliteOverheard$Law", "tape", "[I", true)
  | 2 => ("StyliteOverheard$Law", "place", "I", false)
  | 3 => ("StyliteOverheard$Law", "now", "LStyliteOverheard$Code;", false)
  | 4 => ("StyliteOverheard$Law", "draft", "LStyliteOverheard$Code;", false)
  | _ => ("StyliteOverheard$Law", "stack", "[I", true)
def tyX4 : Nat → FieldType := fun k => match k with
  | 0 => .int
  | 1 => .array .int
  | 2 => .int
  | 3 => .object "StyliteOverheard$Code"
  | 4 => .object "StyliteOverheard$Code"
  | _ => .array .int
theorem nmX4 : ∀ a, a < 6 → ∀ b, b < 6 → a ≠ b → (TX4 a).2.1 ≠ (TX4 b).2.1 := by decide +kernel
theorem tyX4_ok : ∀ k, k < 6 → parseFieldDescriptor (TX4 k).2.2.1 = some (tyX4 k) := by decide +kernel
def RX5 : String := "StyliteOverheard$Ledger"
def TX5 : u_T := fun k => match k with
  | 0 => ("StyliteOverheard$Ledger", "hours", "I", false)
  | 1 => ("StyliteOverheard$Ledger", "lumps", "I", false)
  | 2 => ("StyliteOverheard$Ledger", "remarks", "I", false)
  | 3 => ("StyliteOverheard$Ledger", "pence", "I", false)
  | 4 => ("StyliteOverheard$Ledger", "feedings", "I", false)
  | 5 => ("StyliteOverheard$Ledger", "imaged", "Z", false)
  | _ => ("StyliteOverheard$Ledger", "image", "[I", true)
def tyX5 : Nat → FieldType := fun k => match k with
  | 0 => .int
  | 1 => .int
  | 2 => .int
  | 3 => .int
  | 4 => .int
  | 5 => .boolean
  | _ => .array .int
theorem nmX5 : ∀ a, a < 7 → ∀ b, b < 7 → a ≠ b → (TX5 a).2.1 ≠ (TX5 b).2.1 := by decide +kernel
theorem tyX5_ok : ∀ k, k < 7 → parseFieldDescriptor (TX5 k).2.2.1 = some (tyX5 k) := by decide +kernel
def RX6 : String := "StyliteOverheard$Planner"
def TX6 : u_T := fun k => match k with
  | 0 => ("StyliteOverheard$Planner", "then", "LStyliteOverheard$Him;", true)
  | 1 => ("StyliteOverheard$Planner", "chosen", "[I", true)
  | 2 => ("StyliteOverheard$Planner", "said", "[J", true)
  | 3 => ("StyliteOverheard$Planner", "worth", "[I", true)
  | 4 => ("StyliteOverheard$Planner", "hours", "I", false)
  | 5 => ("StyliteOverheard$Planner", "bits", "I", false)
  | 6 => ("StyliteOverheard$Planner", "aim", "I", false)
  | _ => ("StyliteOverheard$Planner", "set", "I", false)
def tyX6 : Nat → FieldType := fun k => match k with
  | 0 => .object "StyliteOverheard$Him"
  | 1 => .array .int
  | 2 => .array .long
  | 3 => .array .int
  | 4 => .int
  | 5 => .int
  | 6 => .int
  | _ => .int
theorem nmX6 : ∀ a, a < 8 → ∀ b, b < 8 → a ≠ b → (TX6 a).2.1 ≠ (TX6 b).2.1 := by decide +kernel
theorem tyX6_ok : ∀ k, k < 8 → parseFieldDescriptor (TX6 k).2.2.1 = some (tyX6 k) := by decide +kernel
def RX7 : String := "StyliteOverheard$Reciter"
def TX7 : u_T := fun k => match k with
  | 0 => ("StyliteOverheard$Reciter", "then", "LStyliteOverheard$Him;", true)
  | 1 => ("StyliteOverheard$Reciter", "phrase", "[I", true)
  | 2 => ("StyliteOverheard$Reciter", "fits", "[I", true)
  | 3 => ("StyliteOverheard$Reciter", "ways", "[J", true)
  | _ => ("StyliteOverheard$Reciter", "hours", "I", false)
def tyX7 : Nat → FieldType := fun k => match k with
  | 0 => .object "StyliteOverheard$Him"
  | 1 => .array .int
  | 2 => .array .int
  | 3 => .array .long
  | _ => .int
theorem nmX7 : ∀ a, a < 5 → ∀ b, b < 5 → a ≠ b → (TX7 a).2.1 ≠ (TX7 b).2.1 := by decide +kernel
theorem tyX7_ok : ∀ k, k < 5 → parseFieldDescriptor (TX7 k).2.2.1 = some (tyX7 k) := by decide +kernel
def RX8 : String := "StyliteOverheard$Schools"
def TX8 : u_T := fun k => match k with
  | 0 => ("StyliteOverheard$Schools", "count", "I", false)
  | 1 => ("StyliteOverheard$Schools", "reads", "[I", true)
  | 2 => ("StyliteOverheard$Schools", "phrases", "I", false)
  | 3 => ("StyliteOverheard$Schools", "times", "[I", true)
  | 4 => ("StyliteOverheard$Schools", "size", "[I", true)
  | 5 => ("StyliteOverheard$Schools", "due", "[I", true)
  | 6 => ("StyliteOverheard$Schools", "yes", "[I", true)
  | 7 => ("StyliteOverheard$Schools", "left", "[I", true)
  | 8 => ("StyliteOverheard$Schools", "useful", "I", false)
  | 9 => ("StyliteOverheard$Schools", "fewest", "I", false)
  | _ => ("StyliteOverheard$Schools", "found", "I", false)
def tyX8 : Nat → FieldType := fun k => match k with
  | 0 => .int
  | 1 => .array .int
  | 2 => .int
  | 3 => .array .int
  | 4 => .array .int
  | 5 => .array .int
  | 6 => .array .int
  | 7 => .array .int
  | 8 => .int
  | 9 => .int
  | _ => .int
theorem nmX8 : ∀ a, a < 11 → ∀ b, b < 11 → a ≠ b → (TX8 a).2.1 ≠ (TX8 b).2.1 := by decide +kernel
theorem tyX8_ok : ∀ k, k < 11 → parseFieldDescriptor (TX8 k).2.2.1 = some (tyX8 k) := by decide +kernel
def RX9 : String := "StyliteOverheard$Shelf"
def TX9 : u_T := fun k => match k with
  | 0 => ("StyliteOverheard$Shelf", "holds", "I", false)
  | 1 => ("StyliteOverheard$Shelf", "body", "I", false)
  | 2 => ("StyliteOverheard$Shelf", "sort", "I", false)
  | 3 => ("StyliteOverheard$Shelf", "size", "I", false)
  | _ => ("StyliteOverheard$Shelf", "items", "[J", true)
def tyX9 : Nat → FieldType := fun k => match k with
  | 0 => .int
  | 1 => .int
  | 2 => .int
  | 3 => .int
  | _ => .array .long
theorem nmX9 : ∀ a, a < 5 → ∀ b, b < 5 → a ≠ b → (TX9 a).2.1 ≠ (TX9 b).2.1 := by decide +kernel
theorem tyX9_ok : ∀ k, k < 5 → parseFieldDescriptor (TX9 k).2.2.1 = some (tyX9 k) := by decide +kernel
def RX10 : String := "StyliteOverheard$Village"
def TX10 : u_T := fun k => match k with
  | 0 => ("StyliteOverheard$Village", "count", "I", false)
  | 1 => ("StyliteOverheard$Village", "likes", "[I", true)
  | 2 => ("StyliteOverheard$Village", "price", "[I", true)
  | 3 => ("StyliteOverheard$Village", "cell", "[I", true)
  | 4 => ("StyliteOverheard$Village", "sold", "[I", true)
  | 5 => ("StyliteOverheard$Village", "best", "[I", true)
  | 6 => ("StyliteOverheard$Village", "order", "[I", true)
  | _ => ("StyliteOverheard$Village", "weight", "[I", true)
def tyX10 : Nat → FieldType := fun k => match k with
  | 0 => .int
  | 1 => .array .int
  | 2 => .array .int
  | 3 => .array .int
  | 4 => .array .int
  | 5 => .array .int
  | 6 => .array .int
  | _ => .array .int
theorem nmX10 : ∀ a, a < 8 → ∀ b, b < 8 → a ≠ b → (TX10 a).2.1 ≠ (TX10 b).2.1 := by decide +kernel
theorem tyX10_ok : ∀ k, k < 8 → parseFieldDescriptor (TX10 k).2.2.1 = some (tyX10 k) := by decide +kernel
def RX11 : String := "StyliteOverheard"
def TX11 : u_T := fun k => match k with
  | 0 => ("StyliteOverheard", "him", "LStyliteOverheard$Him;", true)
  | 1 => ("StyliteOverheard", "thought", "LStyliteOverheard$Him;", true)
  | 2 => ("StyliteOverheard", "law", "LStyliteOverheard$Law;", true)
  | 3 => ("StyliteOverheard", "village", "LStyliteOverheard$Village;", true)
  | 4 => ("StyliteOverheard", "schools", "LStyliteOverheard$Schools;", true)
  | 5 => ("StyliteOverheard", "ledger", "LStyliteOverheard$Ledger;", true)
  | 6 => ("StyliteOverheard", "changes", "LStyliteOverheard$Changes;", true)
  | 7 => ("StyliteOverheard", "acts", "LStyliteOverheard$Acts;", true)
  | 8 => ("StyliteOverheard", "planner", "LStyliteOverheard$Planner;", true)
  | 9 => ("StyliteOverheard", "reciter", "LStyliteOverheard$Reciter;", true)
  | 10 => ("StyliteOverheard", "shelves", "[LStyliteOverheard$Shelf;", true)
  | _ => ("StyliteOverheard", "track", "[I", true)
def tyX11 : Nat → FieldType := fun k => match k with
  | 0 => .object "StyliteOverheard$Him"
  | 1 => .object "StyliteOverheard$Him"
  | 2 => .object "StyliteOverheard$Law"
  | 3 => .object "StyliteOverheard$Village"
  | 4 => .object "StyliteOverheard$Schools"
  | 5 => .object "StyliteOverheard$Ledger"
  | 6 => .object "StyliteOverheard$Changes"
  | 7 => .object "StyliteOverheard$Acts"
  | 8 => .object "StyliteOverheard$Planner"
  | 9 => .object "StyliteOverheard$Reciter"
  | 10 => .array (.object "StyliteOverheard$Shelf")
  | _ => .array .int
theorem nmX11 : ∀ a, a < 12 → ∀ b, b < 12 → a ≠ b → (TX11 a).2.1 ≠ (TX11 b).2.1 := by decide +kernel
theorem tyX11_ok : ∀ k, k < 12 → parseFieldDescriptor (TX11 k).2.2.1 = some (tyX11 k) := by decide +kernel
def RX12 : String := "StyliteOverheardModel"
def TX12 : u_T := fun k => match k with
  | 0 => ("StyliteOverheardModel", "code", "I", false)
  | 1 => ("StyliteOverheardModel", "him", "[I", true)
  | 2 => ("StyliteOverheardModel", "stalls1", "I", false)
  | 3 => ("StyliteOverheardModel", "likes", "[I", true)
  | 4 => ("StyliteOverheardModel", "price", "[I", true)
  | 5 => ("StyliteOverheardModel", "cellOf", "[I", true)
  | 6 => ("StyliteOverheardModel", "soldNow", "[I", true)
  | 7 => ("StyliteOverheardModel", "schools", "I", false)
  | 8 => ("StyliteOverheardModel", "reads1", "[I", true)
  | 9 => ("StyliteOverheardModel", "doneMany", "I", false)
  | 10 => ("StyliteOverheardModel", "undoneMany", "I", false)
  | 11 => ("StyliteOverheardModel", "changeOf", "[I", true)
  | 12 => ("StyliteOverheardModel", "changeAt", "[I", true)
  | 13 => ("StyliteOverheardModel", "before", "[I", true)
  | 14 => ("StyliteOverheardModel", "behind", "[I", true)
  | 15 => ("StyliteOverheardModel", "tape", "[B", true)
  | 16 => ("StyliteOverheardModel", "taped", "I", false)
  | 17 => ("StyliteOverheardModel", "here", "I", false)
  | 18 => ("StyliteOverheardModel", "fault", "I", false)
  | 19 => ("StyliteOverheardModel", "open", "I", false)
  | 20 => ("StyliteOverheardModel", "laid", "I", false)
  | 21 => ("StyliteOverheardModel", "act", "[B", true)
  | 22 => ("StyliteOverheardModel", "with", "[I", true)
  | 23 => ("StyliteOverheardModel", "lineMany", "[I", true)
  | 24 => ("StyliteOverheardModel", "testEnd", "[S", true)
  | 25 => ("StyliteOverheardModel", "lineEnd", "[S", true)
  | 26 => ("StyliteOverheardModel", "facts", "[I", true)
  | 27 => ("StyliteOverheardModel", "pile", "[I", true)
  | 28 => ("StyliteOverheardModel", "hasLaw", "Z", false)
  | 29 => ("StyliteOverheardModel", "mood1", "I", false)
  | 30 => ("StyliteOverheardModel", "hunger1", "I", false)
  | 31 => ("StyliteOverheardModel", "last1", "I", false)
  | 32 => ("StyliteOverheardModel", "hour1", "I", false)
  | 33 => ("StyliteOverheardModel", "said1", "I", false)
  | 34 => ("StyliteOverheardModel", "isLump", "Z", false)
  | 35 => ("StyliteOverheardModel", "states", "[I", true)
  | 36 => ("StyliteOverheardModel", "left1", "[I", true)
  | 37 => ("StyliteOverheardModel", "sought", "I", false)
  | 38 => ("StyliteOverheardModel", "kindOf", "I", false)
  | 39 => ("StyliteOverheardModel", "planned", "I", false)
  | 40 => ("StyliteOverheardModel", "row1", "[I", true)
  | 41 => ("StyliteOverheardModel", "long1", "I", false)
  | 42 => ("StyliteOverheardModel", "ways1", "[J", true)
  | 43 => ("StyliteOverheardModel", "plain", "[I", true)
  | 44 => ("StyliteOverheardModel", "hits", "[I", true)
  | 45 => ("StyliteOverheardModel", "orderOf", "[I", true)
  | 46 => ("StyliteOverheardModel", "bestOrder", "[I", true)
  | 47 => ("StyliteOverheardModel", "mostPence", "I", false)
  | 48 => ("StyliteOverheardModel", "things48", "[I", true)
  | 49 => ("StyliteOverheardModel", "inPhrase", "[I", true)
  | 50 => ("StyliteOverheardModel", "longPhrase", "[I", true)
  | 51 => ("StyliteOverheardModel", "saidOf", "[I", true)
  | 52 => ("StyliteOverheardModel", "phrases", "I", false)
  | 53 => ("StyliteOverheardModel", "ledOf", "[I", true)
  | 54 => ("StyliteOverheardModel", "hasImage", "Z", false)
  | 55 => ("StyliteOverheardModel", "keptHim", "[I", true)
  | 56 => ("StyliteOverheardModel", "keptLed", "[I", true)
  | 57 => ("StyliteOverheardModel", "bodies", "I", false)
  | 58 => ("StyliteOverheardModel", "kind", "[I", true)
  | 59 => ("StyliteOverheardModel", "traces", "I", false)
  | 60 => ("StyliteOverheardModel", "traced", "[I", true)
  | 61 => ("StyliteOverheardModel", "holds", "[I", true)
  | 62 => ("StyliteOverheardModel", "size", "[I", true)
  | 63 => ("StyliteOverheardModel", "elements", "[J", true)
  | _ => ("StyliteOverheardModel", "shifted", "[J", true)
def tyX12 : Nat → FieldType := fun k => match k with
  | 0 => .int
  | 1 => .array .int
  | 2 => .int
  | 3 => .array .int
  | 4 => .array .int
  | 5 => .array .int
  | 6 => .array .int
  | 7 => .int
  | 8 => .array .int
  | 9 => .int
  | 10 => .int
  | 11 => .array .int
  | 12 => .array .int
  | 13 => .array .int
  | 14 => .array .int
  | 15 => .array .byte
  | 16 => .int
  | 17 => .int
  | 18 => .int
  | 19 => .int
  | 20 => .int
  | 21 => .array .byte
  | 22 => .array .int
  | 23 => .array .int
  | 24 => .array .short
  | 25 => .array .short
  | 26 => .array .int
  | 27 => .array .int
  | 28 => .boolean
  | 29 => .int
  | 30 => .int
  | 31 => .int
  | 32 => .int
  | 33 => .int
  | 34 => .boolean
  | 35 => .array .int
  | 36 => .array .int
  | 37 => .int
  | 38 => .int
  | 39 => .int
  | 40 => .array .int
  | 41 => .int
  | 42 => .array .long
  | 43 => .array .int
  | 44 => .array .int
  | 45 => .array .int
  | 46 => .array .int
  | 47 => .int
  | 48 => .array .int
  | 49 => .array .int
  | 50 => .array .int
  | 51 => .array .int
  | 52 => .int
  | 53 => .array .int
  | 54 => .boolean
  | 55 => .array .int
  | 56 => .array .int
  | 57 => .int
  | 58 => .array .int
  | 59 => .int
  | 60 => .array .int
  | 61 => .array .int
  | 62 => .array .int
  | 63 => .array .long
  | _ => .array .long
theorem nmX12 : ∀ a, a < 65 → ∀ b, b < 65 → a ≠ b → (TX12 a).2.1 ≠ (TX12 b).2.1 := by decide +kernel
theorem tyX12_ok : ∀ k, k < 65 → parseFieldDescriptor (TX12 k).2.2.1 = some (tyX12 k) := by decide +kernel
def RL : String := "StyliteOverheardLaw"
abbrev vwCl : List vw_C := [(RX0, TX0, 4), (RX1, TX1, 6), (RX2, TX2, 5), (RX3, TX3, 7), (RX4, TX4, 6), (RX5, TX5, 7), (RX6, TX6, 8), (RX7, TX7, 5), (RX8, TX8, 11), (RX9, TX9, 5), (RX10, TX10, 8), (RX11, TX11, 12), (RX12, TX12, 65)]
theorem mem_r {ws : List Cond} (ps : List Nat) (hp : ws = ps.filterMap (fun i => lw_tbl[i]?)) : ∀ w ∈ ws, w ∈ lw_tbl := by
  intro w hw
  rw [hp] at hw
  obtain ⟨i, -, hi⟩ := List.mem_filterMap.mp hw
  exact List.mem_of_getElem? hi
set_option maxRecDepth 100000 in
theorem inX0 : ∀ w ∈ u_ws RX0 TX0 4, w ∈ lw_tbl := mem_r [405, 407, 409, 411] (by decide +kernel)
set_option maxRecDepth 100000 in
theorem inX1 : ∀ w ∈ u_ws RX1 TX1 6, w ∈ lw_tbl := mem_r [378, 380, 382, 384, 386, 388] (by decide +kernel)
set_option maxRecDepth 100000 in
theorem inX2 : ∀ w ∈ u_ws RX2 TX2 5, w ∈ lw_tbl := mem_r [215, 217, 219, 221, 223] (by decide +kernel)
set_option maxRecDepth 100000 in
theorem inX3 : ∀ w ∈ u_ws RX3 TX3 7, w ∈ lw_tbl := mem_r [178, 180, 182, 184, 186, 188, 190] (by decide +kernel)
set_option maxRecDepth 100000 in
theorem inX4 : ∀ w ∈ u_ws RX4 TX4 6, w ∈ lw_tbl := mem_r [234, 236, 238, 240, 242, 244] (by decide +kernel)
set_option maxRecDepth 100000 in
theorem inX5 : ∀ w ∈ u_ws RX5 TX5 7, w ∈ lw_tbl := mem_r [345, 347, 349, 351, 353, 355, 357] (by decide +kernel)
set_option maxRecDepth 100000 in
theorem inX6 : ∀ w ∈ u_ws RX6 TX6 8, w ∈ lw_tbl := mem_r [431, 433, 435, 437, 439, 441, 443, 445] (by decide +kernel)
set_option maxRecDepth 100000 in
theorem inX7 : ∀ w ∈ u_ws RX7 TX7 5, w ∈ lw_tbl := mem_r [462, 464, 466, 468, 470] (by decide +kernel)
set_option maxRecDepth 100000 in
theorem inX8 : ∀ w ∈ u_ws RX8 TX8 11, w ∈ lw_tbl := mem_r [303, 305, 307, 309, 311, 313, 315, 317, 319, 321, 323] (by decide +kernel)
set_option maxRecDepth 100000 in
theorem inX9 : ∀ w ∈ u_ws RX9 TX9 5, w ∈ lw_tbl := mem_r [491, 493, 495, 497, 499] (by decide +kernel)
set_option maxRecDepth 100000 in
theorem inX10 : ∀ w ∈ u_ws RX10 TX10 8, w ∈ lw_tbl := mem_r [267, 269, 271, 273, 275, 277, 279, 281] (by decide +kernel)
set_option maxRecDepth 100000 in
theorem inX11 : ∀ w ∈ u_ws RX11 TX11 12, w ∈ lw_tbl := mem_r [514, 516, 518, 520, 522, 524, 526, 528, 530, 532, 534, 536] (by decide +kernel)
set_option maxRecDepth 100000 in
theorem inX12 : ∀ w ∈ u_ws RX12 TX12 65, w ∈ lw_tbl := mem_r [1297, 1299, 1301, 1303, 1305, 1307, 1309, 1311, 1313, 1315, 1317, 1319, 1321, 1323, 1325, 1327, 1329, 1331, 1333, 1335, 1337, 1339, 1341, 1343, 1345, 1347, 1349, 1351, 1353, 1355, 1357, 1359, 1361, 1363, 1365, 1367, 1369, 1371, 1373, 1375, 1377, 1379, 1381, 1383, 1385, 1387, 1389, 1391, 1393, 1395, 1397, 1399, 1401, 1403, 1405, 1407, 1409, 1411, 1413, 1415, 1417, 1419, 1421, 1423, 1425] (by decide +kernel)
