section
-- ===== PART A: goes FIRST, ahead of the names: the tables' words, and 'selects' of the private methods out of them =====
/-- a private method of a class that the tables say can be made, by its rows of tables_1 -/
def lw_okq (q : MethodName × Nat) : Prop := (q.1.cls ≠ "java/lang/invoke/MethodHandle" ∧ q.1.cls ≠ "java/lang/invoke/VarHandle") ∧ Cond.instantiable q.1.cls q.2 ∈ tables_1 ∧ Cond.privateMethod q.1 ∈ tables_1 ∧ Cond.instanceMethod q.1 ∈ tables_1
theorem lw_p0 : lw_okq (⟨"RailPasses$Table", "place", "(II)I"⟩, 4) := ⟨⟨by decide +kernel, by decide +kernel⟩, List.mem_of_getElem? (i := 30) (by decide +kernel), List.mem_of_getElem? (i := 65) (by decide +kernel), List.mem_of_getElem? (i := 66) (by decide +kernel)⟩
theorem lw_p1 : lw_okq (⟨"RailPasses$Ways", "forget", "()V"⟩, 1) := ⟨⟨by decide +kernel, by decide +kernel⟩, List.mem_of_getElem? (i := 135) (by decide +kernel), List.mem_of_getElem? (i := 141) (by decide +kernel), List.mem_of_getElem? (i := 142) (by decide +kernel)⟩
theorem lw_p2 : lw_okq (⟨"RailPasses$Ways", "better", "(III)V"⟩, 1) := ⟨⟨by decide +kernel, by decide +kernel⟩, List.mem_of_getElem? (i := 135) (by decide +kernel), List.mem_of_getElem? (i := 284) (by decide +kernel), List.mem_of_getElem? (i := 285) (by decide +kernel)⟩
theorem lw_p3 : lw_okq (⟨"RailPasses$Ways", "keyOf", "(II)I"⟩, 1) := ⟨⟨by decide +kernel, by decide +kernel⟩, List.mem_of_getElem? (i := 135) (by decide +kernel), List.mem_of_getElem? (i := 293) (by decide +kernel), List.mem_of_getElem? (i := 294) (by decide +kernel)⟩
theorem lw_p4 : lw_okq (⟨"RailPasses$LawText", "startOver", "()V"⟩, 7) := ⟨⟨by decide +kernel, by decide +kernel⟩, List.mem_of_getElem? (i := 107) (by decide +kernel), List.mem_of_getElem? (i := 341) (by decide +kernel), List.mem_of_getElem? (i := 342) (by decide +kernel)⟩
theorem lw_p5 : lw_okq (⟨"RailPasses$LawText", "setTerm", "(II)V"⟩, 7) := ⟨⟨by decide +kernel, by decide +kernel⟩, List.mem_of_getElem? (i := 107) (by decide +kernel), List.mem_of_getElem? (i := 345) (by decide +kernel), List.mem_of_getElem? (i := 346) (by decide +kernel)⟩
theorem lw_p6 : lw_okq (⟨"RailPasses$LawText", "advance", "()V"⟩, 7) := ⟨⟨by decide +kernel, by decide +kernel⟩, List.mem_of_getElem? (i := 107) (by decide +kernel), List.mem_of_getElem? (i := 349) (by decide +kernel), List.mem_of_getElem? (i := 350) (by decide +kernel)⟩
theorem lw_p7 : lw_okq (⟨"RailPasses$LawText", "byteAt", "(I)I"⟩, 7) := ⟨⟨by decide +kernel, by decide +kernel⟩, List.mem_of_getElem? (i := 107) (by decide +kernel), List.mem_of_getElem? (i := 353) (by decide +kernel), List.mem_of_getElem? (i := 354) (by decide +kernel)⟩
theorem lw_p8 : lw_okq (⟨"RailPasses$LawText", "takeRule", "()Z"⟩, 7) := ⟨⟨by decide +kernel, by decide +kernel⟩, List.mem_of_getElem? (i := 107) (by decide +kernel), List.mem_of_getElem? (i := 363) (by decide +kernel), List.mem_of_getElem? (i := 364) (by decide +kernel)⟩
theorem lw_p9 : lw_okq (⟨"RailPasses$LawText", "kindAtHand", "()I"⟩, 7) := ⟨⟨by decide +kernel, by decide +kernel⟩, List.mem_of_getElem? (i := 107) (by decide +kernel), List.mem_of_getElem? (i := 367) (by decide +kernel), List.mem_of_getElem? (i := 368) (by decide +kernel)⟩
theorem lw_p10 : lw_okq (⟨"RailPasses$LawText", "isAtHand", "(Ljava/lang/String;)Z"⟩, 7) := ⟨⟨by decide +kernel, by decide +kernel⟩, List.mem_of_getElem? (i := 107) (by decide +kernel), List.mem_of_getElem? (i := 384) (by decide +kernel), List.mem_of_getElem? (i := 385) (by decide +kernel)⟩
theorem lw_p11 : lw_okq (⟨"RailPasses$LawText", "isSeen", "(I)Z"⟩, 7) := ⟨⟨by decide +kernel, by decide +kernel⟩, List.mem_of_getElem? (i := 107) (by decide +kernel), List.mem_of_getElem? (i := 436) (by decide +kernel), List.mem_of_getElem? (i := 437) (by decide +kernel)⟩
theorem lw_p12 : lw_okq (⟨"RailPasses$LawText", "takeDays", "()Z"⟩, 7) := ⟨⟨by decide +kernel, by decide +kernel⟩, List.mem_of_getElem? (i := 107) (by decide +kernel), List.mem_of_getElem? (i := 443) (by decide +kernel), List.mem_of_getElem? (i := 444) (by decide +kernel)⟩
theorem lw_p13 : lw_okq (⟨"RailPasses$LawText", "numberAtHand", "(II)I"⟩, 7) := ⟨⟨by decide +kernel, by decide +kernel⟩, List.mem_of_getElem? (i := 107) (by decide +kernel), List.mem_of_getElem? (i := 447) (by decide +kernel), List.mem_of_getElem? (i := 448) (by decide +kernel)⟩
theorem lw_p14 : lw_okq (⟨"RailPasses$LawText", "takeWord", "(Ljava/lang/String;)Z"⟩, 7) := ⟨⟨by decide +kernel, by decide +kernel⟩, List.mem_of_getElem? (i := 107) (by decide +kernel), List.mem_of_getElem? (i := 453) (by decide +kernel), List.mem_of_getElem? (i := 454) (by decide +kernel)⟩
theorem lw_p15 : lw_okq (⟨"RailPasses$LawText", "takeBit", "(I)Z"⟩, 7) := ⟨⟨by decide +kernel, by decide +kernel⟩, List.mem_of_getElem? (i := 107) (by decide +kernel), List.mem_of_getElem? (i := 457) (by decide +kernel), List.mem_of_getElem? (i := 458) (by decide +kernel)⟩
def lw_privs_1 : List (MethodName × Nat) := [(⟨"RailPasses$Table", "place", "(II)I"⟩, 4), (⟨"RailPasses$Ways", "forget", "()V"⟩, 1), (⟨"RailPasses$Ways", "better", "(III)V"⟩, 1), (⟨"RailPasses$Ways", "keyOf", "(II)I"⟩, 1), (⟨"RailPasses$LawText", "startOver", "()V"⟩, 7), (⟨"RailPasses$LawText", "setTerm", "(II)V"⟩, 7), (⟨"RailPasses$LawText", "advance", "()V"⟩, 7), (⟨"RailPasses$LawText", "byteAt", "(I)I"⟩, 7), (⟨"RailPasses$LawText", "takeRule", "()Z"⟩, 7), (⟨"RailPasses$LawText", "kindAtHand", "()I"⟩, 7), (⟨"RailPasses$LawText", "isAtHand", "(Ljava/lang/String;)Z"⟩, 7), (⟨"RailPasses$LawText", "isSeen", "(I)Z"⟩, 7), (⟨"RailPasses$LawText", "takeDays", "()Z"⟩, 7), (⟨"RailPasses$LawText", "numberAtHand", "(II)I"⟩, 7), (⟨"RailPasses$LawText", "takeWord", "(Ljava/lang/String;)Z"⟩, 7), (⟨"RailPasses$LawText", "takeBit", "(I)Z"⟩, 7)]
theorem lw_r1 : ∀ q ∈ lw_privs_1, lw_okq q := List.forall_mem_cons.mpr ⟨lw_p0, List.forall_mem_cons.mpr ⟨lw_p1, List.forall_mem_cons.mpr ⟨lw_p2, List.forall_mem_cons.mpr ⟨lw_p3, List.forall_mem_cons.mpr ⟨lw_p4, List.forall_mem_cons.mpr ⟨lw_p5, List.forall_mem_cons.mpr ⟨lw_p6, List.forall_mem_cons.mpr ⟨lw_p7, List.forall_mem_cons.mpr ⟨lw_p8, List.forall_mem_cons.mpr ⟨lw_p9, List.forall_mem_cons.mpr ⟨lw_p10, List.forall_mem_cons.mpr ⟨lw_p11, List.forall_mem_cons.mpr ⟨lw_p12, List.forall_mem_cons.mpr ⟨lw_p13, List.forall_mem_cons.mpr ⟨lw_p14, List.forall_mem_cons.mpr ⟨lw_p15, fun _ h => absurd h List.not_mem_nil⟩⟩⟩⟩⟩⟩⟩⟩⟩⟩⟩⟩⟩⟩⟩⟩
theorem lw_p16 : lw_okq (⟨"RailPasses$LawText", "takeTerm", "(I)Z"⟩, 7) := ⟨⟨by decide +kernel, by decide +kernel⟩, List.mem_of_getElem? (i := 107) (by decide +kernel), List.mem_of_getElem? (i := 468) (by decide +kernel), List.mem_of_getElem? (i := 469) (by decide +kernel)⟩
theorem lw_p17 : lw_okq (⟨"RailPasses$LawText", "takeSemicolon", "()Z"⟩, 7) := ⟨⟨by decide +kernel, by decide +kernel⟩, List.mem_of_getElem? (i := 107) (by decide +kernel), List.mem_of_getElem? (i := 473) (by decide +kernel), List.mem_of_getElem? (i := 474) (by decide +kernel)⟩
theorem lw_p18 : lw_okq (⟨"RailPasses$Book", "isCounted", "(III)Z"⟩, 8) := ⟨⟨by decide +kernel, by decide +kernel⟩, List.mem_of_getElem? (i := 24) (by decide +kernel), List.mem_of_getElem? (i := 523) (by decide +kernel), List.mem_of_getElem? (i := 524) (by decide +kernel)⟩
theorem lw_p19 : lw_okq (⟨"RailPasses$Plan", "prepareWish", "(LRailPasses$Book;III)V"⟩, 11) := ⟨⟨by decide +kernel, by decide +kernel⟩, List.mem_of_getElem? (i := 150) (by decide +kernel), List.mem_of_getElem? (i := 628) (by decide +kernel), List.mem_of_getElem? (i := 629) (by decide +kernel)⟩
theorem lw_p20 : lw_okq (⟨"RailPasses$Plan", "placeOf", "(I)I"⟩, 11) := ⟨⟨by decide +kernel, by decide +kernel⟩, List.mem_of_getElem? (i := 150) (by decide +kernel), List.mem_of_getElem? (i := 634) (by decide +kernel), List.mem_of_getElem? (i := 635) (by decide +kernel)⟩
theorem lw_p21 : lw_okq (⟨"RailPasses$Plan", "dayAt", "(I)I"⟩, 11) := ⟨⟨by decide +kernel, by decide +kernel⟩, List.mem_of_getElem? (i := 150) (by decide +kernel), List.mem_of_getElem? (i := 638) (by decide +kernel), List.mem_of_getElem? (i := 639) (by decide +kernel)⟩
theorem lw_p22 : lw_okq (⟨"RailPasses$Plan", "sparedAt", "(I)I"⟩, 11) := ⟨⟨by decide +kernel, by decide +kernel⟩, List.mem_of_getElem? (i := 150) (by decide +kernel), List.mem_of_getElem? (i := 642) (by decide +kernel), List.mem_of_getElem? (i := 643) (by decide +kernel)⟩
theorem lw_p23 : lw_okq (⟨"RailPasses$Plan", "goersAt", "(I)I"⟩, 11) := ⟨⟨by decide +kernel, by decide +kernel⟩, List.mem_of_getElem? (i := 150) (by decide +kernel), List.mem_of_getElem? (i := 646) (by decide +kernel), List.mem_of_getElem? (i := 647) (by decide +kernel)⟩
theorem lw_p24 : lw_okq (⟨"RailPasses$Plan", "put", "(IIII)V"⟩, 11) := ⟨⟨by decide +kernel, by decide +kernel⟩, List.mem_of_getElem? (i := 150) (by decide +kernel), List.mem_of_getElem? (i := 650) (by decide +kernel), List.mem_of_getElem? (i := 651) (by decide +kernel)⟩
theorem lw_p25 : lw_okq (⟨"RailPasses$Plan", "isGood", "(II)Z"⟩, 11) := ⟨⟨by decide +kernel, by decide +kernel⟩, List.mem_of_getElem? (i := 150) (by decide +kernel), List.mem_of_getElem? (i := 659) (by decide +kernel), List.mem_of_getElem? (i := 660) (by decide +kernel)⟩
theorem lw_p26 : lw_okq (⟨"RailPasses$Plan", "isSpent", "(II)Z"⟩, 11) := ⟨⟨by decide +kernel, by decide +kernel⟩, List.mem_of_getElem? (i := 150) (by decide +kernel), List.mem_of_getElem? (i := 667) (by decide +kernel), List.mem_of_getElem? (i := 668) (by decide +kernel)⟩
theorem lw_p27 : lw_okq (⟨"RailPasses$Plan", "betterDays", "(II)I"⟩, 11) := ⟨⟨by decide +kernel, by decide +kernel⟩, List.mem_of_getElem? (i := 150) (by decide +kernel), List.mem_of_getElem? (i := 671) (by decide +kernel), List.mem_of_getElem? (i := 672) (by decide +kernel)⟩
theorem lw_p28 : lw_okq (⟨"RailPasses$Proof", "isRow", "(IIII)Z"⟩, 1) := ⟨⟨by decide +kernel, by decide +kernel⟩, List.mem_of_getElem? (i := 190) (by decide +kernel), List.mem_of_getElem? (i := 742) (by decide +kernel), List.mem_of_getElem? (i := 743) (by decide +kernel)⟩
theorem lw_p29 : lw_okq (⟨"RailPasses", "isPast", "(I)Z"⟩, 8) := ⟨⟨by decide +kernel, by decide +kernel⟩, List.mem_of_getElem? (i := 16) (by decide +kernel), List.mem_of_getElem? (i := 753) (by decide +kernel), List.mem_of_getElem? (i := 754) (by decide +kernel)⟩
theorem lw_p30 : lw_okq (⟨"RailPasses$Ledger", "sortScans", "(LRailPasses$Table;II)V"⟩, 6) := ⟨⟨by decide +kernel, by decide +kernel⟩, List.mem_of_getElem? (i := 203) (by decide +kernel), List.mem_of_getElem? (i := 782) (by decide +kernel), List.mem_of_getElem? (i := 783) (by decide +kernel)⟩
theorem lw_p31 : lw_okq (⟨"RailPasses$Ledger", "insert", "(LRailPasses$Table;I)V"⟩, 6) := ⟨⟨by decide +kernel, by decide +kernel⟩, List.mem_of_getElem? (i := 203) (by decide +kernel), List.mem_of_getElem? (i := 788) (by decide +kernel), List.mem_of_getElem? (i := 789) (by decide +kernel)⟩
def lw_privs_2 : List (MethodName × Nat) := [(⟨"RailPasses$LawText", "takeTerm", "(I)Z"⟩, 7), (⟨"RailPasses$LawText", "takeSemicolon", "()Z"⟩, 7), (⟨"RailPasses$Book", "isCounted", "(III)Z"⟩, 8), (⟨"RailPasses$Plan", "prepareWish", "(LRailPasses$Book;III)V"⟩, 11), (⟨"RailPasses$Plan", "placeOf", "(I)I"⟩, 11), (⟨"RailPasses$Plan", "dayAt", "(I)I"⟩, 11), (⟨"RailPasses$Plan", "sparedAt", "(I)I"⟩, 11), (⟨"RailPasses$Plan", "goersAt", "(I)I"⟩, 11), (⟨"RailPasses$Plan", "put", "(IIII)V"⟩, 11), (⟨"RailPasses$Plan", "isGood", "(II)Z"⟩, 11), (⟨"RailPasses$Plan", "isSpent", "(II)Z"⟩, 11), (⟨"RailPasses$Plan", "betterDays", "(II)I"⟩, 11), (⟨"RailPasses$Proof", "isRow", "(IIII)Z"⟩, 1), (⟨"RailPasses", "isPast", "(I)Z"⟩, 8), (⟨"RailPasses$Ledger", "sortScans", "(LRailPasses$Table;II)V"⟩, 6), (⟨"RailPasses$Ledger", "insert", "(LRailPasses$Table;I)V"⟩, 6)]
theorem lw_r2 : ∀ q ∈ lw_privs_2, lw_okq q := List.forall_mem_cons.mpr ⟨lw_p16, List.forall_mem_cons.mpr ⟨lw_p17, List.forall_mem_cons.mpr ⟨lw_p18, List.forall_mem_cons.mpr ⟨lw_p19, List.forall_mem_cons.mpr ⟨lw_p20, List.forall_mem_cons.mpr ⟨lw_p21, List.forall_mem_cons.mpr ⟨lw_p22, List.forall_mem_cons.mpr ⟨lw_p23, List.forall_mem_cons.mpr ⟨lw_p24, List.forall_mem_cons.mpr ⟨lw_p25, List.forall_mem_cons.mpr ⟨lw_p26, List.forall_mem_cons.mpr ⟨lw_p27, List.forall_mem_cons.mpr ⟨lw_p28, List.forall_mem_cons.mpr ⟨lw_p29, List.forall_mem_cons.mpr ⟨lw_p30, List.forall_mem_cons.mpr ⟨lw_p31, fun _ h => absurd h List.not_mem_nil⟩⟩⟩⟩⟩⟩⟩⟩⟩⟩⟩⟩⟩⟩⟩⟩
theorem lw_p32 : lw_okq (⟨"RailPasses$Ledger", "scanAt", "(I)I"⟩, 6) := ⟨⟨by decide +kernel, by decide +kernel⟩, List.mem_of_getElem? (i := 203) (by decide +kernel), List.mem_of_getElem? (i := 792) (by decide +kernel), List.mem_of_getElem? (i := 793) (by decide +kernel)⟩
theorem lw_p33 : lw_okq (⟨"RailPasses$Ledger", "setScan", "(II)V"⟩, 6) := ⟨⟨by decide +kernel, by decide +kernel⟩, List.mem_of_getElem? (i := 203) (by decide +kernel), List.mem_of_getElem? (i := 799) (by decide +kernel), List.mem_of_getElem? (i := 800) (by decide +kernel)⟩
theorem lw_p34 : lw_okq (⟨"RailPasses$Ledger", "reckonPair", "(LRailPasses$Book;LRailPasses$Ways;II)V"⟩, 6) := ⟨⟨by decide +kernel, by decide +kernel⟩, List.mem_of_getElem? (i := 203) (by decide +kernel), List.mem_of_getElem? (i := 803) (by decide +kernel), List.mem_of_getElem? (i := 804) (by decide +kernel)⟩
theorem lw_p35 : lw_okq (⟨"RailPasses$Ledger", "addMiles", "(LRailPasses$Table;I)V"⟩, 6) := ⟨⟨by decide +kernel, by decide +kernel⟩, List.mem_of_getElem? (i := 203) (by decide +kernel), List.mem_of_getElem? (i := 810) (by decide +kernel), List.mem_of_getElem? (i := 811) (by decide +kernel)⟩
theorem lw_p36 : lw_okq (⟨"RailPassesModel", "isTrain", "(I)Z"⟩, 33) := ⟨⟨by decide +kernel, by decide +kernel⟩, List.mem_of_getElem? (i := 873) (by decide +kernel), List.mem_of_getElem? (i := 998) (by decide +kernel), List.mem_of_getElem? (i := 999) (by decide +kernel)⟩
theorem lw_p37 : lw_okq (⟨"RailPassesModel", "isOver", "(I)Z"⟩, 33) := ⟨⟨by decide +kernel, by decide +kernel⟩, List.mem_of_getElem? (i := 873) (by decide +kernel), List.mem_of_getElem? (i := 1002) (by decide +kernel), List.mem_of_getElem? (i := 1003) (by decide +kernel)⟩
theorem lw_p38 : lw_okq (⟨"RailPassesModel", "advance", "()V"⟩, 33) := ⟨⟨by decide +kernel, by decide +kernel⟩, List.mem_of_getElem? (i := 873) (by decide +kernel), List.mem_of_getElem? (i := 1022) (by decide +kernel), List.mem_of_getElem? (i := 1023) (by decide +kernel)⟩
theorem lw_p39 : lw_okq (⟨"RailPassesModel", "isGood", "()Z"⟩, 33) := ⟨⟨by decide +kernel, by decide +kernel⟩, List.mem_of_getElem? (i := 873) (by decide +kernel), List.mem_of_getElem? (i := 1032) (by decide +kernel), List.mem_of_getElem? (i := 1033) (by decide +kernel)⟩
theorem lw_p40 : lw_okq (⟨"RailPassesModel", "wantRule", "()V"⟩, 33) := ⟨⟨by decide +kernel, by decide +kernel⟩, List.mem_of_getElem? (i := 873) (by decide +kernel), List.mem_of_getElem? (i := 1036) (by decide +kernel), List.mem_of_getElem? (i := 1037) (by decide +kernel)⟩
theorem lw_p41 : lw_okq (⟨"RailPassesModel", "kindOf", "(I)I"⟩, 33) := ⟨⟨by decide +kernel, by decide +kernel⟩, List.mem_of_getElem? (i := 873) (by decide +kernel), List.mem_of_getElem? (i := 1040) (by decide +kernel), List.mem_of_getElem? (i := 1041) (by decide +kernel)⟩
theorem lw_p42 : lw_okq (⟨"RailPassesModel", "wrong", "()V"⟩, 33) := ⟨⟨by decide +kernel, by decide +kernel⟩, List.mem_of_getElem? (i := 873) (by decide +kernel), List.mem_of_getElem? (i := 1044) (by decide +kernel), List.mem_of_getElem? (i := 1045) (by decide +kernel)⟩
theorem lw_p43 : lw_okq (⟨"RailPassesModel", "wantNumber", "(II)I"⟩, 33) := ⟨⟨by decide +kernel, by decide +kernel⟩, List.mem_of_getElem? (i := 873) (by decide +kernel), List.mem_of_getElem? (i := 1048) (by decide +kernel), List.mem_of_getElem? (i := 1049) (by decide +kernel)⟩
theorem lw_p44 : lw_okq (⟨"RailPassesModel", "wantWord", "(I)V"⟩, 33) := ⟨⟨by decide +kernel, by decide +kernel⟩, List.mem_of_getElem? (i := 873) (by decide +kernel), List.mem_of_getElem? (i := 1052) (by decide +kernel), List.mem_of_getElem? (i := 1053) (by decide +kernel)⟩
theorem lw_p45 : lw_okq (⟨"RailPassesModel", "wantBit", "(II)V"⟩, 33) := ⟨⟨by decide +kernel, by decide +kernel⟩, List.mem_of_getElem? (i := 873) (by decide +kernel), List.mem_of_getElem? (i := 1056) (by decide +kernel), List.mem_of_getElem? (i := 1057) (by decide +kernel)⟩
theorem lw_p46 : lw_okq (⟨"RailPassesModel", "hasLaw", "(I)Z"⟩, 33) := ⟨⟨by decide +kernel, by decide +kernel⟩, List.mem_of_getElem? (i := 873) (by decide +kernel), List.mem_of_getElem? (i := 1064) (by decide +kernel), List.mem_of_getElem? (i := 1065) (by decide +kernel)⟩
theorem lw_p47 : lw_okq (⟨"RailPassesModel", "isAsked", "(III)Z"⟩, 33) := ⟨⟨by decide +kernel, by decide +kernel⟩, List.mem_of_getElem? (i := 873) (by decide +kernel), List.mem_of_getElem? (i := 1079) (by decide +kernel), List.mem_of_getElem? (i := 1080) (by decide +kernel)⟩
def lw_privs_3 : List (MethodName × Nat) := [(⟨"RailPasses$Ledger", "scanAt", "(I)I"⟩, 6), (⟨"RailPasses$Ledger", "setScan", "(II)V"⟩, 6), (⟨"RailPasses$Ledger", "reckonPair", "(LRailPasses$Book;LRailPasses$Ways;II)V"⟩, 6), (⟨"RailPasses$Ledger", "addMiles", "(LRailPasses$Table;I)V"⟩, 6), (⟨"RailPassesModel", "isTrain", "(I)Z"⟩, 33), (⟨"RailPassesModel", "isOver", "(I)Z"⟩, 33), (⟨"RailPassesModel", "advance", "()V"⟩, 33), (⟨"RailPassesModel", "isGood", "()Z"⟩, 33), (⟨"RailPassesModel", "wantRule", "()V"⟩, 33), (⟨"RailPassesModel", "kindOf", "(I)I"⟩, 33), (⟨"RailPassesModel", "wrong", "()V"⟩, 33), (⟨"RailPassesModel", "wantNumber", "(II)I"⟩, 33), (⟨"RailPassesModel", "wantWord", "(I)V"⟩, 33), (⟨"RailPassesModel", "wantBit", "(II)V"⟩, 33), (⟨"RailPassesModel", "hasLaw", "(I)Z"⟩, 33), (⟨"RailPassesModel", "isAsked", "(III)Z"⟩, 33)]
theorem lw_r3 : ∀ q ∈ lw_privs_3, lw_okq q := List.forall_mem_cons.mpr ⟨lw_p32, List.forall_mem_cons.mpr ⟨lw_p33, List.forall_mem_cons.mpr ⟨lw_p34, List.forall_mem_cons.mpr ⟨lw_p35, List.forall_mem_cons.mpr ⟨lw_p36, List.forall_mem_cons.mpr ⟨lw_p37, List.forall_mem_cons.mpr ⟨lw_p38, List.forall_mem_cons.mpr ⟨lw_p39, List.forall_mem_cons.mpr ⟨lw_p40, List.forall_mem_cons.mpr ⟨lw_p41, List.forall_mem_cons.mpr ⟨lw_p42, List.forall_mem_cons.mpr ⟨lw_p43, List.forall_mem_cons.mpr ⟨lw_p44, List.forall_mem_cons.mpr ⟨lw_p45, List.forall_mem_cons.mpr ⟨lw_p46, List.forall_mem_cons.mpr ⟨lw_p47, fun _ h => absurd h List.not_mem_nil⟩⟩⟩⟩⟩⟩⟩⟩⟩⟩⟩⟩⟩⟩⟩⟩
theorem lw_p48 : lw_okq (⟨"RailPassesModel", "isPass", "(I)Z"⟩, 33) := ⟨⟨by decide +kernel, by decide +kernel⟩, List.mem_of_getElem? (i := 873) (by decide +kernel), List.mem_of_getElem? (i := 1083) (by decide +kernel), List.mem_of_getElem? (i := 1084) (by decide +kernel)⟩
theorem lw_p49 : lw_okq (⟨"RailPassesModel", "bar", "(III)I"⟩, 33) := ⟨⟨by decide +kernel, by decide +kernel⟩, List.mem_of_getElem? (i := 873) (by decide +kernel), List.mem_of_getElem? (i := 1087) (by decide +kernel), List.mem_of_getElem? (i := 1088) (by decide +kernel)⟩
theorem lw_p50 : lw_okq (⟨"RailPassesModel", "letsTrain", "([III)Z"⟩, 33) := ⟨⟨by decide +kernel, by decide +kernel⟩, List.mem_of_getElem? (i := 873) (by decide +kernel), List.mem_of_getElem? (i := 1091) (by decide +kernel), List.mem_of_getElem? (i := 1092) (by decide +kernel)⟩
theorem lw_p51 : lw_okq (⟨"RailPassesModel", "counted", "(III)I"⟩, 33) := ⟨⟨by decide +kernel, by decide +kernel⟩, List.mem_of_getElem? (i := 873) (by decide +kernel), List.mem_of_getElem? (i := 1098) (by decide +kernel), List.mem_of_getElem? (i := 1099) (by decide +kernel)⟩
theorem lw_p52 : lw_okq (⟨"RailPassesModel", "isCounted", "(III)Z"⟩, 33) := ⟨⟨by decide +kernel, by decide +kernel⟩, List.mem_of_getElem? (i := 873) (by decide +kernel), List.mem_of_getElem? (i := 1102) (by decide +kernel), List.mem_of_getElem? (i := 1103) (by decide +kernel)⟩
theorem lw_p53 : lw_okq (⟨"RailPassesModel", "countedOf", "(I)I"⟩, 33) := ⟨⟨by decide +kernel, by decide +kernel⟩, List.mem_of_getElem? (i := 873) (by decide +kernel), List.mem_of_getElem? (i := 1106) (by decide +kernel), List.mem_of_getElem? (i := 1107) (by decide +kernel)⟩
theorem lw_p54 : lw_okq (⟨"RailPassesModel", "countedDays", "(I)I"⟩, 33) := ⟨⟨by decide +kernel, by decide +kernel⟩, List.mem_of_getElem? (i := 873) (by decide +kernel), List.mem_of_getElem? (i := 1110) (by decide +kernel), List.mem_of_getElem? (i := 1111) (by decide +kernel)⟩
theorem lw_p55 : lw_okq (⟨"RailPassesModel", "takenOn", "(II)I"⟩, 33) := ⟨⟨by decide +kernel, by decide +kernel⟩, List.mem_of_getElem? (i := 873) (by decide +kernel), List.mem_of_getElem? (i := 1114) (by decide +kernel), List.mem_of_getElem? (i := 1115) (by decide +kernel)⟩
theorem lw_p56 : lw_okq (⟨"RailPassesModel", "pays", "([III)I"⟩, 33) := ⟨⟨by decide +kernel, by decide +kernel⟩, List.mem_of_getElem? (i := 873) (by decide +kernel), List.mem_of_getElem? (i := 1122) (by decide +kernel), List.mem_of_getElem? (i := 1123) (by decide +kernel)⟩
theorem lw_p57 : lw_okq (⟨"RailPassesModel", "paysOf", "(I)I"⟩, 33) := ⟨⟨by decide +kernel, by decide +kernel⟩, List.mem_of_getElem? (i := 873) (by decide +kernel), List.mem_of_getElem? (i := 1130) (by decide +kernel), List.mem_of_getElem? (i := 1131) (by decide +kernel)⟩
theorem lw_p58 : lw_okq (⟨"RailPassesModel", "refundOf", "(I)I"⟩, 33) := ⟨⟨by decide +kernel, by decide +kernel⟩, List.mem_of_getElem? (i := 873) (by decide +kernel), List.mem_of_getElem? (i := 1146) (by decide +kernel), List.mem_of_getElem? (i := 1147) (by decide +kernel)⟩
theorem lw_p59 : lw_okq (⟨"RailPassesModel", "leastOf", "(II)I"⟩, 33) := ⟨⟨by decide +kernel, by decide +kernel⟩, List.mem_of_getElem? (i := 873) (by decide +kernel), List.mem_of_getElem? (i := 1166) (by decide +kernel), List.mem_of_getElem? (i := 1167) (by decide +kernel)⟩
theorem lw_p60 : lw_okq (⟨"RailPassesModel", "takes", "(II)V"⟩, 33) := ⟨⟨by decide +kernel, by decide +kernel⟩, List.mem_of_getElem? (i := 873) (by decide +kernel), List.mem_of_getElem? (i := 1170) (by decide +kernel), List.mem_of_getElem? (i := 1171) (by decide +kernel)⟩
theorem lw_p61 : lw_okq (⟨"RailPassesModel", "gainOf", "(II)I"⟩, 33) := ⟨⟨by decide +kernel, by decide +kernel⟩, List.mem_of_getElem? (i := 873) (by decide +kernel), List.mem_of_getElem? (i := 1174) (by decide +kernel), List.mem_of_getElem? (i := 1175) (by decide +kernel)⟩
theorem lw_p62 : lw_okq (⟨"RailPassesModel", "countedWish", "(II)I"⟩, 33) := ⟨⟨by decide +kernel, by decide +kernel⟩, List.mem_of_getElem? (i := 873) (by decide +kernel), List.mem_of_getElem? (i := 1178) (by decide +kernel), List.mem_of_getElem? (i := 1179) (by decide +kernel)⟩
theorem lw_p63 : lw_okq (⟨"RailPassesModel", "fares", "()I"⟩, 33) := ⟨⟨by decide +kernel, by decide +kernel⟩, List.mem_of_getElem? (i := 873) (by decide +kernel), List.mem_of_getElem? (i := 1182) (by decide +kernel), List.mem_of_getElem? (i := 1183) (by decide +kernel)⟩
def lw_privs_4 : List (MethodName × Nat) := [(⟨"RailPassesModel", "isPass", "(I)Z"⟩, 33), (⟨"RailPassesModel", "bar", "(III)I"⟩, 33), (⟨"RailPassesModel", "letsTrain", "([III)Z"⟩, 33), (⟨"RailPassesModel", "counted", "(III)I"⟩, 33), (⟨"RailPassesModel", "isCounted", "(III)Z"⟩, 33), (⟨"RailPassesModel", "countedOf", "(I)I"⟩, 33), (⟨"RailPassesModel", "countedDays", "(I)I"⟩, 33), (⟨"RailPassesModel", "takenOn", "(II)I"⟩, 33), (⟨"RailPassesModel", "pays", "([III)I"⟩, 33), (⟨"RailPassesModel", "paysOf", "(I)I"⟩, 33), (⟨"RailPassesModel", "refundOf", "(I)I"⟩, 33), (⟨"RailPassesModel", "leastOf", "(II)I"⟩, 33), (⟨"RailPassesModel", "takes", "(II)V"⟩, 33), (⟨"RailPassesModel", "gainOf", "(II)I"⟩, 33), (⟨"RailPassesModel", "countedWish", "(II)I"⟩, 33), (⟨"RailPassesModel", "fares", "()I"⟩, 33)]
theorem lw_r4 : ∀ q ∈ lw_privs_4, lw_okq q := List.forall_mem_cons.mpr ⟨lw_p48, List.forall_mem_cons.mpr ⟨lw_p49, List.forall_mem_cons.mpr ⟨lw_p50, List.forall_mem_cons.mpr ⟨lw_p51, List.forall_mem_cons.mpr ⟨lw_p52, List.forall_mem_cons.mpr ⟨lw_p53, List.forall_mem_cons.mpr ⟨lw_p54, List.forall_mem_cons.mpr ⟨lw_p55, List.forall_mem_cons.mpr ⟨lw_p56, List.forall_mem_cons.mpr ⟨lw_p57, List.forall_mem_cons.mpr ⟨lw_p58, List.forall_mem_cons.mpr ⟨lw_p59, List.forall_mem_cons.mpr ⟨lw_p60, List.forall_mem_cons.mpr ⟨lw_p61, List.forall_mem_cons.mpr ⟨lw_p62, List.forall_mem_cons.mpr ⟨lw_p63, fun _ h => absurd h List.not_mem_nil⟩⟩⟩⟩⟩⟩⟩⟩⟩⟩⟩⟩⟩⟩⟩⟩
theorem lw_p64 : lw_okq (⟨"RailPassesModel", "takenAt", "(I)I"⟩, 33) := ⟨⟨by decide +kernel, by decide +kernel⟩, List.mem_of_getElem? (i := 873) (by decide +kernel), List.mem_of_getElem? (i := 1190) (by decide +kernel), List.mem_of_getElem? (i := 1191) (by decide +kernel)⟩
theorem lw_p65 : lw_okq (⟨"RailPassesModel", "findDue", "()V"⟩, 33) := ⟨⟨by decide +kernel, by decide +kernel⟩, List.mem_of_getElem? (i := 873) (by decide +kernel), List.mem_of_getElem? (i := 1198) (by decide +kernel), List.mem_of_getElem? (i := 1199) (by decide +kernel)⟩
theorem lw_p66 : lw_okq (⟨"RailPassesModel", "isSomeGood", "(II)Z"⟩, 33) := ⟨⟨by decide +kernel, by decide +kernel⟩, List.mem_of_getElem? (i := 873) (by decide +kernel), List.mem_of_getElem? (i := 1202) (by decide +kernel), List.mem_of_getElem? (i := 1203) (by decide +kernel)⟩
theorem lw_p67 : lw_okq (⟨"RailPassesModel", "wayTo", "(IIZ)I"⟩, 33) := ⟨⟨by decide +kernel, by decide +kernel⟩, List.mem_of_getElem? (i := 873) (by decide +kernel), List.mem_of_getElem? (i := 1222) (by decide +kernel), List.mem_of_getElem? (i := 1223) (by decide +kernel)⟩
theorem lw_p68 : lw_okq (⟨"RailPassesModel", "reach", "(I)V"⟩, 33) := ⟨⟨by decide +kernel, by decide +kernel⟩, List.mem_of_getElem? (i := 873) (by decide +kernel), List.mem_of_getElem? (i := 1226) (by decide +kernel), List.mem_of_getElem? (i := 1227) (by decide +kernel)⟩
theorem lw_p69 : lw_okq (⟨"RailPassesModel", "isKnown", "(I)Z"⟩, 33) := ⟨⟨by decide +kernel, by decide +kernel⟩, List.mem_of_getElem? (i := 873) (by decide +kernel), List.mem_of_getElem? (i := 1243) (by decide +kernel), List.mem_of_getElem? (i := 1244) (by decide +kernel)⟩
theorem lw_p70 : lw_okq (⟨"RailPassesModel", "goThrough", "(II)V"⟩, 33) := ⟨⟨by decide +kernel, by decide +kernel⟩, List.mem_of_getElem? (i := 873) (by decide +kernel), List.mem_of_getElem? (i := 1247) (by decide +kernel), List.mem_of_getElem? (i := 1248) (by decide +kernel)⟩
theorem lw_p71 : lw_okq (⟨"RailPassesModel", "nextScan", "(III)I"⟩, 33) := ⟨⟨by decide +kernel, by decide +kernel⟩, List.mem_of_getElem? (i := 873) (by decide +kernel), List.mem_of_getElem? (i := 1251) (by decide +kernel), List.mem_of_getElem? (i := 1252) (by decide +kernel)⟩
theorem lw_p72 : lw_okq (⟨"RailPassesModel", "whenOf", "(I)I"⟩, 33) := ⟨⟨by decide +kernel, by decide +kernel⟩, List.mem_of_getElem? (i := 873) (by decide +kernel), List.mem_of_getElem? (i := 1255) (by decide +kernel), List.mem_of_getElem? (i := 1256) (by decide +kernel)⟩
theorem lw_p73 : lw_okq (⟨"RailPassesModel", "addLeg", "(II)V"⟩, 33) := ⟨⟨by decide +kernel, by decide +kernel⟩, List.mem_of_getElem? (i := 873) (by decide +kernel), List.mem_of_getElem? (i := 1259) (by decide +kernel), List.mem_of_getElem? (i := 1260) (by decide +kernel)⟩
theorem lw_p74 : lw_okq (⟨"RailPassesModel", "partOf", "(IIII)I"⟩, 33) := ⟨⟨by decide +kernel, by decide +kernel⟩, List.mem_of_getElem? (i := 873) (by decide +kernel), List.mem_of_getElem? (i := 1267) (by decide +kernel), List.mem_of_getElem? (i := 1268) (by decide +kernel)⟩
theorem lw_p75 : lw_okq (⟨"RailPassesModel", "divide", "(I)V"⟩, 33) := ⟨⟨by decide +kernel, by decide +kernel⟩, List.mem_of_getElem? (i := 873) (by decide +kernel), List.mem_of_getElem? (i := 1271) (by decide +kernel), List.mem_of_getElem? (i := 1272) (by decide +kernel)⟩
theorem lw_p76 : lw_okq (⟨"RailPassesModel", "moveAll", "(Z)V"⟩, 33) := ⟨⟨by decide +kernel, by decide +kernel⟩, List.mem_of_getElem? (i := 873) (by decide +kernel), List.mem_of_getElem? (i := 1287) (by decide +kernel), List.mem_of_getElem? (i := 1288) (by decide +kernel)⟩
theorem lw_p77 : lw_okq (⟨"RailPassesModel", "move", "([IIZ)V"⟩, 33) := ⟨⟨by decide +kernel, by decide +kernel⟩, List.mem_of_getElem? (i := 873) (by decide +kernel), List.mem_of_getElem? (i := 1291) (by decide +kernel), List.mem_of_getElem? (i := 1292) (by decide +kernel)⟩
def lw_privs_5 : List (MethodName × Nat) := [(⟨"RailPassesModel", "takenAt", "(I)I"⟩, 33), (⟨"RailPassesModel", "findDue", "()V"⟩, 33), (⟨"RailPassesModel", "isSomeGood", "(II)Z"⟩, 33), (⟨"RailPassesModel", "wayTo", "(IIZ)I"⟩, 33), (⟨"RailPassesModel", "reach", "(I)V"⟩, 33), (⟨"RailPassesModel", "isKnown", "(I)Z"⟩, 33), (⟨"RailPassesModel", "goThrough", "(II)V"⟩, 33), (⟨"RailPassesModel", "nextScan", "(III)I"⟩, 33), (⟨"RailPassesModel", "whenOf", "(I)I"⟩, 33), (⟨"RailPassesModel", "addLeg", "(II)V"⟩, 33), (⟨"RailPassesModel", "partOf", "(IIII)I"⟩, 33), (⟨"RailPassesModel", "divide", "(I)V"⟩, 33), (⟨"RailPassesModel", "moveAll", "(Z)V"⟩, 33), (⟨"RailPassesModel", "move", "([IIZ)V"⟩, 33)]
theorem lw_r5 : ∀ q ∈ lw_privs_5, lw_okq q := List.forall_mem_cons.mpr ⟨lw_p64, List.forall_mem_cons.mpr ⟨lw_p65, List.forall_mem_cons.mpr ⟨lw_p66, List.forall_mem_cons.mpr ⟨lw_p67, List.forall_mem_cons.mpr ⟨lw_p68, List.forall_mem_cons.mpr ⟨lw_p69, List.forall_mem_cons.mpr ⟨lw_p70, List.forall_mem_cons.mpr ⟨lw_p71, List.forall_mem_cons.mpr ⟨lw_p72, List.forall_mem_cons.mpr ⟨lw_p73, List.forall_mem_cons.mpr ⟨lw_p74, List.forall_mem_cons.mpr ⟨lw_p75, List.forall_mem_cons.mpr ⟨lw_p76, List.forall_mem_cons.mpr ⟨lw_p77, fun _ h => absurd h List.not_mem_nil⟩⟩⟩⟩⟩⟩⟩⟩⟩⟩⟩⟩⟩⟩
def lw_privs : List (MethodName × Nat) := lw_privs_1 ++ (lw_privs_2 ++ (lw_privs_3 ++ (lw_privs_4 ++ (lw_privs_5))))
def lw_tbl : List Cond := k2_sels lw_privs ++ tables_1
theorem lw_privs_ok : ∀ q ∈ lw_privs, lw_okq q := by
  show ∀ q ∈ lw_privs_1 ++ (lw_privs_2 ++ (lw_privs_3 ++ (lw_privs_4 ++ (lw_privs_5)))), lw_okq q
  exact List.forall_mem_append.mpr ⟨lw_r1, List.forall_mem_append.mpr ⟨lw_r2, List.forall_mem_append.mpr ⟨lw_r3, List.forall_mem_append.mpr ⟨lw_r4, lw_r5⟩⟩⟩⟩
end
section
/-! THE SMALL MACHINE: a plain one, in which the classes run: cells by numbers (0 is the script), final fields in the layout, all other ints in one memory -/
abbrev rp_Mm : Type := Nat → Nat → Int32
/-- a cell's shape: an array (of booleans?, its length), or an object (its class's number, its fields: a final one with its value, another stands in the memory) -/
abbrev rp_Sh : Type := (Bool × Nat) ⊕ (Nat × List (Option Value))
abbrev rp_Hp : Type := List rp_Sh × rp_Mm
abbrev rp_Rs : Type := Option Value × rp_Hp
/-- what is known of an instruction beforehand: two numbers, a value, a switch's places -/
abbrev rp_In : Type := Nat × Nat × Value × List (Int32 × Nat)
abbrev rp_En : Type := Nat × Instr × Nat × rp_In
/-- method, cells and slots made so far, place, locals, stack, heap -/
abbrev rp_As : Type := Nat × Nat × Nat × Nat × List Value × List Value × rp_Hp
abbrev rp_U : Value := .retAddr 0
def rp_wr (s : rp_Mm) (a k : Nat) (x : Int32) : rp_Mm := fun b j => if b = a then (if j = k then x else s b j) else s b j
def rp_zr (s : rp_Mm) (a : Nat) : rp_Mm := fun b j => if b = a then 0 else s b j
/-- a method: name, code, locals, what it returns, its class's number, (frames, words, cells, slots) below it -/
abbrev rp_Mt : Type := MethodName × ByteArray × Nat × Option FieldType × Nat × (Nat × Nat × Nat × Nat)
def rp_lk (pc : Nat) : List rp_En → Option (Instr × Nat × rp_In)
  | [] => none
  | e :: r => bif Nat.beq e.1 pc then some e.2 else rp_lk pc r
def rp_sw (x : Int32) (d : Nat) : List (Int32 × Nat) → Nat
  | [] => d
  | q :: r => if x = q.1 then q.2 else rp_sw x d r
def rp_ex : List Value → List Value
  | [] => []
  | v :: vs => match v with
    | .long _ => v :: rp_U :: rp_ex vs
    | .double _ => v :: rp_U :: rp_ex vs
    | _ => v :: rp_ex vs
def rp_en (n : Nat) (vs : List Value) : List Value := rp_ex vs ++ List.replicate (n - (rp_ex vs).length) rp_U
def rp_cat : List Value → Nat
  | [] => 0
  | v :: vs => v.category + rp_cat vs
def rp_long : Option Value → Bool
  | some (.long _) => true
  | some (.double _) => true
  | _ => false
/-- a place may be written by a value of one word: it is there, and it isn't a long's second half -/
def rp_may (ls : List Value) (i : Nat) : Bool := Nat.blt i ls.length && (match i with
  | 0 => true
  | j + 1 => !(rp_long ls[j]?))
def rp_ix (i : Int32) (n : Nat) : Bool := decide (0 ≤ i.toInt) && decide (i.toInt < (n : Int))
/-- of a class: for each field none (an int or a boolean that changes), or the value that a final one has at first -/
abbrev rp_Cf : Type := List (Option Value)
section
variable (mt : Nat → rp_Mt) (mi : Nat → List rp_En) (cf : Nat → rp_Cf) (tx : Nat → List Int32) (sc : Option (Nat × (Nat → Int32)))
abbrev rp_St : Type := rp_As ⊕ rp_Rs ⊕ (rp_As × (rp_Rs → Option rp_As))
def rp_cond (c : ClassFile.Cond) (x y : Int32) (a b : Nat) : Nat := match c with
  | .eq => if x = y then a else b
  | .ne => if x = y then b else a
  | .lt => if x < y then a else b
  | .ge => if y ≤ x then a else b
  | .gt => if y < x then a else b
  | .le => if x ≤ y then a else b
/-- numbers, locals, jumps: what no heap is asked for -/
def rp_pure (I : Instr) (n : Nat) (i : rp_In) (pc : Nat) (ls st : List Value) : Option (Nat × List Value × List Value) := match I with
  | .iconst _ => some (pc + n, ls, i.2.2.1 :: st)
  | .bipush _ => some (pc + n, ls, i.2.2.1 :: st)
  | .sipush _ => some (pc + n, ls, i.2.2.1 :: st)
  | .ldc _ => some (pc + n, ls, i.2.2.1 :: st)
  | .ldc2_w _ => some (pc + n, ls, i.2.2.1 :: st)
  | .iload_n _ => match ls[i.1]? with
    | some (.int x) => some (pc + n, ls, .int x :: st)
    | _ => none
  | .iload _ => match ls[i.1]? with
    | some (.int x) => some (pc + n, ls, .int x :: st)
    | _ => none
  | .lload_n _ => match ls[i.1]? with
    | some (.long x) => some (pc + n, ls, .long x :: st)
    | _ => none
  | .aload_n _ => match ls[i.1]? with
    | some (.ref x) => some (pc + n, ls, .ref x :: st)
    | _ => none
  | .aload _ => match ls[i.1]? with
    | some (.ref x) => some (pc + n, ls, .ref x :: st)
    | _ => none
  | .istore_n _ => match st with
    | .int x :: r => bif rp_may ls i.1 then some (pc + n, ls.set i.1 (.int x), r) else none
    | _ => none
  | .istore _ => match st with
    | .int x :: r => bif rp_may ls i.1 then some (pc + n, ls.set i.1 (.int x), r) else none
    | _ => none
  | .astore_n _ => match st with
    | .ref x :: r => bif rp_may ls i.1 then some (pc + n, ls.set i.1 (.ref x), r) else none
    | _ => none
  | .iinc _ _ => match ls[i.1]?, i.2.2.1 with
    | some (.int x), .int k => bif rp_may ls i.1 then some (pc + n, ls.set i.1 (.int (x + k)), st) else none
    | _, _ => none
  | .iadd => match st with
    | .int y :: .int x :: r => some (pc + n, ls, .int (x + y) :: r)
    | _ => none
  | .isub => match st with
    | .int y :: .int x :: r => some (pc + n, ls, .int (x - y) :: r)
    | _ => none
  | .imul => match st with
    | .int y :: .int x :: r => some (pc + n, ls, .int (x * y) :: r)
    | _ => none
  | .iand => match st with
    | .int y :: .int x :: r => some (pc + n, ls, .int (x &&& y) :: r)
    | _ => none
  | .ior => match st with
    | .int y :: .int x :: r => some (pc + n, ls, .int (x ||| y) :: r)
    | _ => none
  | .ishl => match st with
    | .int y :: .int x :: r => some (pc + n, ls, .int (x <<< (y &&& 31)) :: r)
    | _ => none
  | .ishr => match st with
    | .int y :: .int x :: r => some (pc + n, ls, .int (x >>> (y &&& 31)) :: r)
    | _ => none
  | .idiv => match st with
    | .int y :: .int x :: r => if y = 0 then none else some (pc + n, ls, .int (x / y) :: r)
    | _ => none
  | .irem => match st with
    | .int y :: .int x :: r => if y = 0 then none else some (pc + n, ls, .int (x - x / y * y) :: r)
    | _ => none
  | .i2l => match st with
    | .int x :: r => some (pc + n, ls, .long x.toInt64 :: r)
    | _ => none
  | .l2i => match st with
    | .long x :: r => some (pc + n, ls, .int x.toInt32 :: r)
    | _ => none
  | .land => match st with
    | .long y :: .long x :: r => some (pc + n, ls, .long (x &&& y) :: r)
    | _ => none
  | .lor => match st with
    | .long y :: .long x :: r => some (pc + n, ls, .long (x ||| y) :: r)
    | _ => none
  | .lshl => match st with
    | .int y :: .long x :: r => some (pc + n, ls, .long (x <<< (y.toInt64 &&& 63)) :: r)
    | _ => none
  | .lushr => match st with
    | .int y :: .long x :: r => some (pc + n, ls, .long (x.toUInt64 >>> (y.toInt64.toUInt64 &&& Int64.toUInt64 63)).toInt64 :: r)
    | _ => none
  | .dup => match st with
    | v :: r => bif Nat.beq v.category 1 then some (pc + n, ls, v :: v :: r) else none
    | _ => none
  | .dup2 => match st with
    | v :: w :: r => bif Nat.beq v.category 1 && Nat.beq w.category 1 then some (pc + n, ls, v :: w :: v :: w :: r) else none
    | _ => none
  | .pop => match st with
    | v :: r => bif Nat.beq v.category 1 then some (pc + n, ls, r) else none
    | _ => none
  | .ifCond c _ => match st with
    | .int x :: r => some (rp_cond c x 0 i.1 (pc + n), ls, r)
    | _ => none
  | .if_icmp c _ => match st with
    | .int y :: .int x :: r => some (rp_cond c x y i.1 (pc + n), ls, r)
    | _ => none
  | .goto _ => some (i.1, ls, st)
  | .tableswitch _ _ _ _ => match st with
    | .int x :: r => some (rp_sw x i.1 i.2.2.2, ls, r)
    | _ => none
  | .lookupswitch _ _ => match st with
    | .int x :: r => some (rp_sw x i.1 i.2.2.2, ls, r)
    | _ => none
  | _ => none
def rp_field (h : rp_Hp) (a ci k : Nat) : Option Value := match h.1[a]? with
  | some (.inr (c, fs)) => bif Nat.beq c ci then (match fs[k]? with
    | some (some v) => some v
    | some none => some (.int (h.2 a k))
    | none => none) else none
  | _ => none
def rp_fit : Value → Value → Bool
  | .long _, .int _ => true
  | .ref _, .ref _ => true
  | _, _ => false
def rp_zok : Value → Int32 → Bool
  | .int _, x => decide (x &&& 1 = x)
  | _, _ => true
/-- the heap's instructions that make nothing -/
def rp_heap (I : Instr) (i : rp_In) (ini : Bool) (h : rp_Hp) (st : List Value) : Option (rp_Hp × List Value) := match I with
  | .getfield _ => match st with
    | .ref a :: r => match rp_field h a i.1 i.2.1 with
      | some v => some (h, v :: r)
      | none => none
    | _ => none
  | .putfield _ => match st with
    | v :: .ref a :: r => match h.1[a]? with
      | some (.inr (c, fs)) => bif Nat.beq c i.1 then (bif ini then (match fs[i.2.1]? with
        | some (some _) => bif rp_fit i.2.2.1 v then some ((h.1.set a (.inr (c, fs.set i.2.1 (some v))), h.2), r) else none
        | _ => none) else (match fs[i.2.1]? with
        | some none => match v with
          | .int x => bif rp_zok i.2.2.1 x then some ((h.1, rp_wr h.2 a i.2.1 x), r) else none
          | _ => none
        | _ => none)) else none
      | _ => none
    | _ => none
  | .iaload => match st with
    | .int x :: .ref 0 :: r => match sc with
      | some q => bif rp_ix x q.1 then some (h, .int (q.2 x.toNatClampNeg) :: r) else none
      | none => none
    | .int x :: .ref (a + 1) :: r => match h.1[a + 1]? with
      | some (.inl (false, n)) => bif rp_ix x n then some (h, .int (h.2 (a + 1) x.toNatClampNeg) :: r) else none
      | _ => none
    | _ => none
  | .baload => match st with
    | .int x :: .ref (a + 1) :: r => match h.1[a + 1]? with
      | some (.inl (true, n)) => bif rp_ix x n then some (h, .int (h.2 (a + 1) x.toNatClampNeg) :: r) else none
      | _ => none
    | _ => none
  | .iastore => match st with
    | .int v :: .int x :: .ref (a + 1) :: r => match h.1[a + 1]? with
      | some (.inl (false, n)) => bif rp_ix x n then some ((h.1, rp_wr h.2 (a + 1) x.toNatClampNeg v), r) else none
      | _ => none
    | _ => none
  | .bastore => match st with
    | .int v :: .int x :: .ref (a + 1) :: r => match h.1[a + 1]? with
      | some (.inl (true, n)) => bif rp_ix x n && decide (v &&& 1 = v) then some ((h.1, rp_wr h.2 (a + 1) x.toNatClampNeg v), r) else none
      | _ => none
    | _ => none
  | .arraylength => match st with
    | .ref 0 :: r => match sc with
      | some q => some (h, .int (Int32.ofNat q.1) :: r)
      | none => none
    | .ref (a + 1) :: r => match h.1[a + 1]? with
      | some (.inl (_, n)) => some (h, .int (Int32.ofNat n) :: r)
      | _ => none
    | _ => none
  | _ => none
/-- the answer of a method: a boolean is 0 or 1 -/
def rp_ret (ty : Option FieldType) (I : Instr) (st : List Value) : Option (Option Value) := match I with
  | .ireturn => match st with
    | [.int v] => match ty with
      | some .int => some (some (.int v))
      | some .boolean => bif decide (v &&& 1 = v) then some (some (.int v)) else none
      | _ => none
    | _ => none
  | .areturn => match st with
    | [.ref a] => match ty with
      | some (.object _) => some (some (.ref a))
      | _ => none
    | _ => none
  | .return_ => match st with
    | [] => match ty with
      | none => some none
      | _ => none
    | _ => none
  | _ => none
/-- calls that need no frame here: Object's constructor, the greater and the lesser of two, a text's length and its signs -/
def rp_lib (b : Nat) (st : List Value) : Option (List Value) := match b with
  | 5000 => match st with
    | .ref _ :: r => some r
    | _ => none
  | 5001 => match st with
    | .int y :: .int x :: r => some (.int (if x < y then y else x) :: r)
    | _ => none
  | 5002 => match st with
    | .int y :: .int x :: r => some (.int (if y < x then y else x) :: r)
    | _ => none
  | 5003 => match st with
    | .ref a :: r => bif Nat.ble 1000 a && Nat.blt a 1012 then some (.int (Int32.ofNat (tx (a - 1000)).length) :: r) else none
    | _ => none
  | 5004 => match st with
    | .int x :: .ref a :: r => bif Nat.ble 1000 a && Nat.blt a 1012 && rp_ix x (tx (a - 1000)).length then some (.int ((tx (a - 1000)).getD x.toNatClampNeg 0) :: r) else none
    | _ => none
  | _ => none
def rp_isCall : Instr → Bool
  | .invokevirtual _ => true
  | .invokestatic _ => true
  | .invokespecial _ => true
  | _ => false
def rp_isRet : Instr → Bool
  | .ireturn => true
  | .areturn => true
  | .return_ => true
  | _ => false
def rp_isHeap : Instr → Bool
  | .getfield _ => true
  | .putfield _ => true
  | .iaload => true
  | .baload => true
  | .iastore => true
  | .bastore => true
  | .arraylength => true
  | _ => false
/-- who is called on: an object of the method's class; a static method is called on none -/
def rp_recv (I : Instr) (h : rp_Hp) (k : Nat) (args : List Value) : Bool := match I with
  | .invokestatic _ => true
  | _ => match args with
    | .ref a :: _ => match h.1[a]? with
      | some (.inr (c, _)) => Nat.beq c k && Nat.blt 0 a
      | _ => false
    | _ => false
/-- a call's room: arguments, words, cells, slots -/
def rp_cg (i : rp_In) (m uc us : Nat) (st : List Value) : Bool := Nat.ble i.2.1 st.length && (Nat.ble (rp_ex (st.take i.2.1).reverse).length (mt i.1).2.2.1 && (Nat.ble (rp_cat (st.drop i.2.1)) 8 && (Nat.ble (uc + (mt i.1).2.2.2.2.2.2.2.1) (mt m).2.2.2.2.2.2.2.1 && Nat.ble (us + (mt i.1).2.2.2.2.2.2.2.2) (mt m).2.2.2.2.2.2.2.2)))
def rp_call (I : Instr) (i : rp_In) (m uc us pc : Nat) (ls st : List Value) (h : rp_Hp) : Option rp_St :=
  bif rp_cg mt i m uc us st && rp_recv I h (mt i.1).2.2.2.2.1 (st.take i.2.1).reverse
  then some (.inr (.inr ((i.1, 0, 0, 0, rp_en (mt i.1).2.2.1 (st.take i.2.1).reverse, [], h), fun r => some (m, uc + (mt i.1).2.2.2.2.2.2.2.1, us + (mt i.1).2.2.2.2.2.2.2.2, pc + 3, ls, r.1.toList ++ st.drop i.2.1, r.2))))
  else none
/-- what is made: an object, an array -/
def rp_make (I : Instr) (n : Nat) (i : rp_In) (m uc us pc : Nat) (ls st : List Value) (h : rp_Hp) : Option rp_St := match I with
  | .new _ => bif Nat.ble (uc + 1) (mt m).2.2.2.2.2.2.2.1 && (Nat.ble (us + (cf i.1).length) (mt m).2.2.2.2.2.2.2.2 && Nat.blt h.1.length 999)
    then some (.inl (m, uc + 1, us + (cf i.1).length, pc + n, ls, .ref h.1.length :: st, (h.1 ++ [.inr (i.1, cf i.1)], rp_zr h.2 h.1.length))) else none
  | .newarray t => match st with
    | .int x :: r => bif rp_ix x 100000 && (Nat.ble (uc + 1) (mt m).2.2.2.2.2.2.2.1 && (Nat.ble (us + x.toNatClampNeg) (mt m).2.2.2.2.2.2.2.2 && Nat.blt h.1.length 999))
      then (match t with
        | .int => some (.inl (m, uc + 1, us + x.toNatClampNeg, pc + n, ls, .ref h.1.length :: r, (h.1 ++ [.inl (false, x.toNatClampNeg)], rp_zr h.2 h.1.length)))
        | .boolean => some (.inl (m, uc + 1, us + x.toNatClampNeg, pc + n, ls, .ref h.1.length :: r, (h.1 ++ [.inl (true, x.toNatClampNeg)], rp_zr h.2 h.1.length)))
        | _ => none) else none
    | _ => none
  | _ => none
def rp_isMake : Instr → Bool
  | .new _ => true
  | .newarray _ => true
  | _ => false
def rp_one (I : Instr) (n : Nat) (i : rp_In) (m uc us pc : Nat) (ls st : List Value) (h : rp_Hp) : Option rp_St :=
  bif rp_isHeap I then (rp_heap sc I i (!i.2.2.2.isEmpty) h st).map fun q => .inl (m, uc, us, pc + n, ls, q.2, q.1)
  else bif rp_isCall I then (bif Nat.ble 5000 i.1 then (bif Nat.ble (rp_cat (st.drop i.2.1)) 8 then (rp_lib tx i.1 st).map fun q => .inl (m, uc, us, pc + n, ls, q, h) else none) else rp_call mt I i m uc us pc ls st h)
  else bif rp_isRet I then (rp_ret (mt m).2.2.2.1 I st).map fun q => .inr (.inl (q, h))
  else bif rp_isMake I then rp_make mt cf I n i m uc us pc ls st h
  else (rp_pure I n i pc ls st).map fun q => .inl (m, uc, us, q.1, q.2.1, q.2.2, h)
def rp_front (s : rp_As) : Option rp_St := match rp_lk s.2.2.2.1 (mi s.1) with
  | none => none
  | some (I, n, i) => rp_one mt cf tx sc I n i s.1 s.2.1 s.2.2.1 s.2.2.2.1 s.2.2.2.2.1 s.2.2.2.2.2.1 s.2.2.2.2.2.2
def rp_F (rec : rp_As → Option rp_Rs) (s : rp_As) : Option rp_Rs := match rp_front mt mi cf tx sc s with
  | none => none
  | some (.inl t) => rec t
  | some (.inr (.inl r)) => some r
  | some (.inr (.inr (c, k))) => match rec c with
    | none => none
    | some r => match k r with
      | none => none
      | some t => rec t
def rp_run : Nat → rp_As → Option rp_Rs
  | 0 => fun _ => none
  | n + 1 => rp_F mt mi cf tx sc (rp_run n)
end
section
variable (mt : Nat → rp_Mt) (mi : Nat → List rp_En) (cf : Nat → rp_Cf) (tx : Nat → List Int32) (sc : Option (Nat × (Nat → Int32)))
theorem rp_F_mono {r1 r2 : rp_As → Option rp_Rs} (h : ∀ s x, r1 s = some x → r2 s = some x) : ∀ s x, rp_F mt mi cf tx sc r1 s = some x → rp_F mt mi cf tx sc r2 s = some x := by
  intro s x hx
  unfold rp_F at hx ⊢
  split at hx
  next => cases hx
  next t heq => exact h _ _ hx
  next r heq => exact hx
  next c k heq =>
    cases hc : r1 c with
    | none => rw [hc] at hx; cases hx
    | some r =>
      rw [hc] at hx
      rw [h _ _ hc]
      dsimp only at hx ⊢
      cases hk : k r with
      | none => rw [hk] at hx; cases hx
      | some t => rw [hk] at hx; exact h _ _ hx
theorem rp_run_succ : ∀ n s x, rp_run mt mi cf tx sc n s = some x → rp_run mt mi cf tx sc (n + 1) s = some x := by
  intro n
  induction n with
  | zero => intro s x h; cases h
  | succ n ih => exact rp_F_mono mt mi cf tx sc ih
theorem rp_run_le {n k : Nat} (h : n ≤ k) : ∀ s x, rp_run mt mi cf tx sc n s = some x → rp_run mt mi cf tx sc k s = some x := by
  induction h with
  | refl => exact fun _ _ h => h
  | step _ ih => exact fun s x h => rp_run_succ mt mi cf tx sc _ s x (ih s x h)
theorem rp_run_det {n k : Nat} {s : rp_As} {x y : rp_Rs} (h1 : rp_run mt mi cf tx sc n s = some x) (h2 : rp_run mt mi cf tx sc k s = some y) : x = y := by
  have a := rp_run_le mt mi cf tx sc (Nat.le_max_left n k) s x h1
  have b := rp_run_le mt mi cf tx sc (Nat.le_max_right n k) s y h2
  rw [a] at b
  exact Option.some.inj b
/-- where a state comes to in the end, if it does -/
noncomputable def rp_Ev (s : rp_As) : Option rp_Rs := Classical.epsilon fun o : Option rp_Rs => (∀ x, o = some x ↔ ∃ n, rp_run mt mi cf tx sc n s = some x)
theorem rp_Ev_iff (s : rp_As) (x : rp_Rs) : rp_Ev mt mi cf tx sc s = some x ↔ ∃ n, rp_run mt mi cf tx sc n s = some x := by
  have h : ∃ o : Option rp_Rs, ∀ x, o = some x ↔ ∃ n, rp_run mt mi cf tx sc n s = some x := by
    by_cases he : ∃ y n, rp_run mt mi cf tx sc n s = some y
    · obtain ⟨y, n, hn⟩ := he
      refine ⟨some y, fun x => ⟨fun h => ⟨n, h ▸ hn⟩, fun ⟨k, hk⟩ => congrArg some (rp_run_det mt mi cf tx sc hn hk)⟩⟩
    · exact ⟨none, fun x => ⟨fun h => (by cases h), fun ⟨k, hk⟩ => absurd ⟨x, k, hk⟩ he⟩⟩
  exact Classical.epsilon_spec h x
theorem rp_Ev_of {s : rp_As} {x : rp_Rs} {n : Nat} (h : rp_run mt mi cf tx sc n s = some x) : rp_Ev mt mi cf tx sc s = some x := (rp_Ev_iff mt mi cf tx sc s x).mpr ⟨n, h⟩
theorem rp_Ev_eq {s : rp_As} {o : Option rp_Rs} (h : ∀ x, (∃ n, rp_run mt mi cf tx sc n s = some x) ↔ o = some x) : rp_Ev mt mi cf tx sc s = o := by
  cases ho : o with
  | none =>
    cases he : rp_Ev mt mi cf tx sc s with
    | none => rfl
    | some x =>
      have := (h x).mp ((rp_Ev_iff mt mi cf tx sc s x).mp he)
      rw [ho] at this
      cases this
  | some x => exact (rp_Ev_iff mt mi cf tx sc s x).mpr ((h x).mpr ho)
theorem rp_Ev_go {s t : rp_As} (h : rp_front mt mi cf tx sc s = some (.inl t)) : rp_Ev mt mi cf tx sc s = rp_Ev mt mi cf tx sc t := by
  refine rp_Ev_eq mt mi cf tx sc fun x => ⟨fun ⟨n, hn⟩ => ?_, fun hx => ?_⟩
  · cases n with
    | zero => cases hn
    | succ n =>
      refine (rp_Ev_iff mt mi cf tx sc t x).mpr ⟨n, ?_⟩
      have hn : rp_F mt mi cf tx sc (rp_run mt mi cf tx sc n) s = some x := hn
      unfold rp_F at hn
      rw [h] at hn
      exact hn
  · obtain ⟨n, hn⟩ := (rp_Ev_iff mt mi cf tx sc t x).mp hx
    refine ⟨n + 1, ?_⟩
    show rp_F mt mi cf tx sc (rp_run mt mi cf tx sc n) s = some x
    unfold rp_F
    rw [h]
    exact hn
theorem rp_Ev_ret {s : rp_As} {r : rp_Rs} (h : rp_front mt mi cf tx sc s = some (.inr (.inl r))) : rp_Ev mt mi cf tx sc s = some r := by
  refine rp_Ev_of mt mi cf tx sc (n := 1) ?_
  show rp_F mt mi cf tx sc _ s = some r
  unfold rp_F
  rw [h]
/-- behind a call -/
def rp_then (o : Option rp_Rs) (k : rp_Rs → Option rp_Rs) : Option rp_Rs := match o with
  | none => none
  | some r => k r
theorem rp_then_some (r : rp_Rs) (k : rp_Rs → Option rp_Rs) : rp_then (some r) k = k r := rfl
theorem rp_Ev_call {s c : rp_As} {k : rp_Rs → rp_As} (h : rp_front mt mi cf tx sc s = some (.inr (.inr (c, fun r => some (k r))))) : rp_Ev mt mi cf tx sc s = rp_then (rp_Ev mt mi cf tx sc c) (fun r => rp_Ev mt mi cf tx sc (k r)) := by
  refine rp_Ev_eq mt mi cf tx sc fun x => ⟨fun ⟨n, hn⟩ => ?_, fun hx => ?_⟩
  · cases n with
    | zero => cases hn
    | succ n =>
      have hn : rp_F mt mi cf tx sc (rp_run mt mi cf tx sc n) s = some x := hn
      unfold rp_F at hn
      rw [h] at hn
      dsimp only at hn
      cases hc : rp_run mt mi cf tx sc n c with
      | none => rw [hc] at hn; cases hn
      | some r =>
        rw [hc] at hn
        rw [rp_Ev_of mt mi cf tx sc hc]
        exact rp_Ev_of mt mi cf tx sc hn
  · cases hc : rp_Ev mt mi cf tx sc c with
    | none => rw [hc] at hx; cases hx
    | some r =>
      rw [hc] at hx
      obtain ⟨n1, h1⟩ := (rp_Ev_iff mt mi cf tx sc c r).mp hc
      obtain ⟨n2, h2⟩ := (rp_Ev_iff mt mi cf tx sc (k r) x).mp hx
      refine ⟨max n1 n2 + 1, ?_⟩
      show rp_F mt mi cf tx sc (rp_run mt mi cf tx sc (max n1 n2)) s = some x
      unfold rp_F
      rw [h]
      dsimp only
      rw [rp_run_le mt mi cf tx sc (Nat.le_max_left n1 n2) _ _ h1]
      exact rp_run_le mt mi cf tx sc (Nat.le_max_right n1 n2) _ _ h2
/-- straight on: k steps -/
def rp_goN : Nat → rp_As → Option rp_As
  | 0, s => some s
  | k + 1, s => match rp_front mt mi cf tx sc s with
    | some (.inl t) => rp_goN k t
    | _ => none
theorem rp_Ev_goN : ∀ (k : Nat) {s t : rp_As}, rp_goN mt mi cf tx sc k s = some t → rp_Ev mt mi cf tx sc s = rp_Ev mt mi cf tx sc t := by
  intro k
  induction k with
  | zero => intro s t h; cases h; rfl
  | succ k ih =>
    intro s t h
    unfold rp_goN at h
    split at h
    next u heq => exact (rp_Ev_go mt mi cf tx sc heq).trans (ih h)
    next => cases h
end
end
section
/-- RailPasses.<init>()V -/
def rp_k0 : List rp_En := [(0, .aload_n 0, 1, 0, 0, .null, []),
  (1, .invokespecial 3, 3, 5000, 1, .null, []),
  (4, .aload_n 0, 1, 0, 0, .null, []),
  (5, .new 9, 3, 0, 0, .null, []),
  (8, .dup, 1, 0, 0, .null, []),
  (9, .invokespecial 11, 3, 1, 1, .null, []),
  (12, .putfield 12, 3, 7, 0, .ref 0, [(0, 0)]),
  (15, .aload_n 0, 1, 0, 0, .null, []),
  (16, .new 9, 3, 0, 0, .null, []),
  (19, .dup, 1, 0, 0, .null, []),
  (20, .invokespecial 11, 3, 1, 1, .null, []),
  (23, .putfield 16, 3, 7, 1, .ref 0, [(0, 0)]),
  (26, .aload_n 0, 1, 0, 0, .null, []),
  (27, .new 19, 3, 1, 0, .null, []),
  (30, .dup, 1, 0, 0, .null, []),
  (31, .invokespecial 21, 3, 7, 1, .null, []),
  (34, .putfield 22, 3, 7, 3, .ref 0, [(0, 0)]),
  (37, .aload_n 0, 1, 0, 0, .null, []),
  (38, .new 26, 3, 6, 0, .null, []),
  (41, .dup, 1, 0, 0, .null, []),
  (42, .invokespecial 28, 3, 8, 1, .null, []),
  (45, .putfield 29, 3, 7, 4, .ref 0, [(0, 0)]),
  (48, .aload_n 0, 1, 0, 0, .null, []),
  (49, .new 33, 3, 3, 0, .null, []),
  (52, .dup, 1, 0, 0, .null, []),
  (53, .invokespecial 35, 3, 10, 1, .null, []),
  (56, .putfield 36, 3, 7, 5, .ref 0, [(0, 0)]),
  (59, .aload_n 0, 1, 0, 0, .null, []),
  (60, .new 40, 3, 4, 0, .null, []),
  (63, .dup, 1, 0, 0, .null, []),
  (64, .invokespecial 42, 3, 11, 1, .null, []),
  (67, .putfield 43, 3, 7, 6, .ref 0, [(0, 0)]),
  (70, .aload_n 0, 1, 0, 0, .null, []),
  (71, .new 47, 3, 2, 0, .null, []),
  (74, .dup, 1, 0, 0, .null, []),
  (75, .invokespecial 49, 3, 12, 1, .null, []),
  (78, .putfield 50, 3, 7, 7, .ref 0, [(0, 0)]),
  (81, .return_, 1, 0, 0, .null, [])]
/-- RailPasses$Book.<init>()V -/
def rp_k1 : List rp_En := [(0, .aload_n 0, 1, 0, 0, .null, []),
  (1, .invokespecial 3, 3, 5000, 1, .null, []),
  (4, .aload_n 0, 1, 0, 0, .null, []),
  (5, .new 9, 3, 5, 0, .null, []),
  (8, .dup, 1, 0, 0, .null, []),
  (9, .bipush 14, 2, 0, 0, .int 14, []),
  (11, .iconst 5, 1, 0, 0, .int 5, []),
  (12, .invokespecial 11, 3, 2, 3, .null, []),
  (15, .putfield 14, 3, 0, 0, .ref 0, [(0, 0)]),
  (18, .aload_n 0, 1, 0, 0, .null, []),
  (19, .new 9, 3, 5, 0, .null, []),
  (22, .dup, 1, 0, 0, .null, []),
  (23, .bipush 16, 2, 0, 0, .int 16, []),
  (25, .bipush 9, 2, 0, 0, .int 9, []),
  (27, .invokespecial 11, 3, 2, 3, .null, []),
  (30, .putfield 20, 3, 0, 1, .ref 0, [(0, 0)]),
  (33, .aload_n 0, 1, 0, 0, .null, []),
  (34, .new 9, 3, 5, 0, .null, []),
  (37, .dup, 1, 0, 0, .null, []),
  (38, .iconst 3, 1, 0, 0, .int 3, []),
  (39, .bipush 12, 2, 0, 0, .int 12, []),
  (41, .invokespecial 11, 3, 2, 3, .null, []),
  (44, .putfield 23, 3, 0, 2, .ref 0, [(0, 0)]),
  (47, .aload_n 0, 1, 0, 0, .null, []),
  (48, .new 9, 3, 5, 0, .null, []),
  (51, .dup, 1, 0, 0, .null, []),
  (52, .bipush 8, 2, 0, 0, .int 8, []),
  (54, .bipush 15, 2, 0, 0, .int 15, []),
  (56, .invokespecial 11, 3, 2, 3, .null, []),
  (59, .putfield 26, 3, 0, 3, .ref 0, [(0, 0)]),
  (62, .aload_n 0, 1, 0, 0, .null, []),
  (63, .new 9, 3, 5, 0, .null, []),
  (66, .dup, 1, 0, 0, .null, []),
  (67, .bipush 40, 2, 0, 0, .int 40, []),
  (69, .iconst 5, 1, 0, 0, .int 5, []),
  (70, .invokespecial 11, 3, 2, 3, .null, []),
  (73, .putfield 29, 3, 0, 4, .ref 0, [(0, 0)]),
  (76, .aload_n 0, 1, 0, 0, .null, []),
  (77, .new 9, 3, 5, 0, .null, []),
  (80, .dup, 1, 0, 0, .null, []),
  (81, .bipush 10, 2, 0, 0, .int 10, []),
  (83, .iconst 2, 1, 0, 0, .int 2, []),
  (84, .invokespecial 11, 3, 2, 3, .null, []),
  (87, .putfield 32, 3, 0, 5, .ref 0, [(0, 0)]),
  (90, .aload_n 0, 1, 0, 0, .null, []),
  (91, .new 9, 3, 5, 0, .null, []),
  (94, .dup, 1, 0, 0, .null, []),
  (95, .bipush 40, 2, 0, 0, .int 40, []),
  (97, .iconst 5, 1, 0, 0, .int 5, []),
  (98, .invokespecial 11, 3, 2, 3, .null, []),
  (101, .putfield 35, 3, 0, 6, .ref 0, [(0, 0)]),
  (104, .iconst 0, 1, 0, 0, .int 0, []),
  (105, .istore_n 1, 1, 1, 0, .null, []),
  (106, .iload_n 1, 1, 1, 0, .null, []),
  (107, .iconst 3, 1, 0, 0, .int 3, []),
  (108, .if_icmp .ge 17, 3, 125, 0, .null, []),
  (111, .aload_n 0, 1, 0, 0, .null, []),
  (112, .getfield 23, 3, 0, 2, .null, []),
  (115, .invokevirtual 38, 3, 3, 1, .null, []),
  (118, .pop, 1, 0, 0, .null, []),
  (119, .iinc 1 1, 3, 1, 0, .int 1, []),
  (122, .goto (-16), 3, 106, 0, .null, []),
  (125, .return_, 1, 0, 0, .null, [])]
/-- RailPasses$Table.<init>(II)V -/
def rp_k2 : List rp_En := [(0, .aload_n 0, 1, 0, 0, .null, []),
  (1, .invokespecial 1, 3, 5000, 1, .null, []),
  (4, .aload_n 0, 1, 0, 0, .null, []),
  (5, .iload_n 1, 1, 1, 0, .null, []),
  (6, .iconst 0, 1, 0, 0, .int 0, []),
  (7, .invokestatic 7, 3, 5001, 2, .null, []),
  (10, .putfield 13, 3, 5, 1, .long 0, [(0, 0)]),
  (13, .aload_n 0, 1, 0, 0, .null, []),
  (14, .iload_n 2, 1, 2, 0, .null, []),
  (15, .iconst 0, 1, 0, 0, .int 0, []),
  (16, .invokestatic 7, 3, 5001, 2, .null, []),
  (19, .putfield 19, 3, 5, 2, .long 0, [(0, 0)]),
  (22, .aload_n 0, 1, 0, 0, .null, []),
  (23, .aload_n 0, 1, 0, 0, .null, []),
  (24, .getfield 13, 3, 5, 1, .null, []),
  (27, .aload_n 0, 1, 0, 0, .null, []),
  (28, .getfield 19, 3, 5, 2, .null, []),
  (31, .imul, 1, 0, 0, .null, []),
  (32, .newarray .int, 2, 0, 0, .null, []),
  (34, .putfield 22, 3, 5, 0, .ref 0, [(0, 0)]),
  (37, .return_, 1, 0, 0, .null, [])]
/-- RailPasses$Table.append()I -/
def rp_k3 : List rp_En := [(0, .aload_n 0, 1, 0, 0, .null, []),
  (1, .invokevirtual 32, 3, 4, 1, .null, []),
  (4, .ifCond .eq 5, 3, 9, 0, .null, []),
  (7, .iconst (-1), 1, 0, 0, .int (-1), []),
  (8, .ireturn, 1, 0, 0, .null, []),
  (9, .aload_n 0, 1, 0, 0, .null, []),
  (10, .dup, 1, 0, 0, .null, []),
  (11, .getfield 26, 3, 5, 3, .null, []),
  (14, .iconst 1, 1, 0, 0, .int 1, []),
  (15, .iadd, 1, 0, 0, .null, []),
  (16, .putfield 26, 3, 5, 3, .null, []),
  (19, .iconst 0, 1, 0, 0, .int 0, []),
  (20, .istore_n 1, 1, 1, 0, .null, []),
  (21, .iload_n 1, 1, 1, 0, .null, []),
  (22, .aload_n 0, 1, 0, 0, .null, []),
  (23, .getfield 19, 3, 5, 2, .null, []),
  (26, .if_icmp .ge 21, 3, 47, 0, .null, []),
  (29, .aload_n 0, 1, 0, 0, .null, []),
  (30, .aload_n 0, 1, 0, 0, .null, []),
  (31, .getfield 26, 3, 5, 3, .null, []),
  (34, .iconst 1, 1, 0, 0, .int 1, []),
  (35, .isub, 1, 0, 0, .null, []),
  (36, .iload_n 1, 1, 1, 0, .null, []),
  (37, .iconst 0, 1, 0, 0, .int 0, []),
  (38, .invokevirtual 36, 3, 5, 4, .null, []),
  (41, .iinc 1 1, 3, 1, 0, .int 1, []),
  (44, .goto (-23), 3, 21, 0, .null, []),
  (47, .aload_n 0, 1, 0, 0, .null, []),
  (48, .getfield 26, 3, 5, 3, .null, []),
  (51, .iconst 1, 1, 0, 0, .int 1, []),
  (52, .isub, 1, 0, 0, .null, []),
  (53, .ireturn, 1, 0, 0, .null, [])]
/-- RailPasses$Table.isFull()Z -/
def rp_k4 : List rp_En := [(0, .aload_n 0, 1, 0, 0, .null, []),
  (1, .getfield 26, 3, 5, 3, .null, []),
  (4, .aload_n 0, 1, 0, 0, .null, []),
  (5, .getfield 13, 3, 5, 1, .null, []),
  (8, .if_icmp .lt 7, 3, 15, 0, .null, []),
  (11, .iconst 1, 1, 0, 0, .int 1, []),
  (12, .goto 4, 3, 16, 0, .null, []),
  (15, .iconst 0, 1, 0, 0, .int 0, []),
  (16, .ireturn, 1, 0, 0, .null, [])]
/-- RailPasses$Table.set(III)V -/
def rp_k5 : List rp_En := [(0, .aload_n 0, 1, 0, 0, .null, []),
  (1, .iload_n 1, 1, 1, 0, .null, []),
  (2, .iload_n 2, 1, 2, 0, .null, []),
  (3, .invokevirtual 29, 3, 6, 3, .null, []),
  (6, .istore 4, 2, 4, 0, .null, []),
  (8, .iload 4, 2, 4, 0, .null, []),
  (10, .ifCond .lt 21, 3, 31, 0, .null, []),
  (13, .iload 4, 2, 4, 0, .null, []),
  (15, .aload_n 0, 1, 0, 0, .null, []),
  (16, .getfield 22, 3, 5, 0, .null, []),
  (19, .arraylength, 1, 0, 0, .null, []),
  (20, .if_icmp .ge 11, 3, 31, 0, .null, []),
  (23, .aload_n 0, 1, 0, 0, .null, []),
  (24, .getfield 22, 3, 5, 0, .null, []),
  (27, .iload 4, 2, 4, 0, .null, []),
  (29, .iload_n 3, 1, 3, 0, .null, []),
  (30, .iastore, 1, 0, 0, .null, []),
  (31, .return_, 1, 0, 0, .null, [])]
/-- RailPasses$Table.place(II)I -/
def rp_k6 : List rp_En := [(0, .iload_n 1, 1, 1, 0, .null, []),
  (1, .ifCond .lt 34, 3, 35, 0, .null, []),
  (4, .iload_n 1, 1, 1, 0, .null, []),
  (5, .aload_n 0, 1, 0, 0, .null, []),
  (6, .getfield 26, 3, 5, 3, .null, []),
  (9, .if_icmp .ge 26, 3, 35, 0, .null, []),
  (12, .iload_n 2, 1, 2, 0, .null, []),
  (13, .ifCond .lt 22, 3, 35, 0, .null, []),
  (16, .iload_n 2, 1, 2, 0, .null, []),
  (17, .aload_n 0, 1, 0, 0, .null, []),
  (18, .getfield 19, 3, 5, 2, .null, []),
  (21, .if_icmp .ge 14, 3, 35, 0, .null, []),
  (24, .iload_n 1, 1, 1, 0, .null, []),
  (25, .aload_n 0, 1, 0, 0, .null, []),
  (26, .getfield 19, 3, 5, 2, .null, []),
  (29, .imul, 1, 0, 0, .null, []),
  (30, .iload_n 2, 1, 2, 0, .null, []),
  (31, .iadd, 1, 0, 0, .null, []),
  (32, .goto 4, 3, 36, 0, .null, []),
  (35, .iconst (-1), 1, 0, 0, .int (-1), []),
  (36, .ireturn, 1, 0, 0, .null, [])]
/-- RailPasses$LawText.<init>()V -/
def rp_k7 : List rp_En := [(0, .aload_n 0, 1, 0, 0, .null, []),
  (1, .invokespecial 3, 3, 5000, 1, .null, []),
  (4, .aload_n 0, 1, 0, 0, .null, []),
  (5, .sipush 300, 3, 0, 0, .int 300, []),
  (8, .newarray .int, 2, 0, 0, .null, []),
  (10, .putfield 9, 3, 1, 0, .ref 0, [(0, 0)]),
  (13, .aload_n 0, 1, 0, 0, .null, []),
  (14, .bipush 11, 2, 0, 0, .int 11, []),
  (16, .newarray .int, 2, 0, 0, .null, []),
  (18, .putfield 15, 3, 1, 4, .ref 0, [(0, 0)]),
  (21, .return_, 1, 0, 0, .null, [])]
/-- RailPasses$Ways.<init>()V -/
def rp_k8 : List rp_En := [(0, .aload_n 0, 1, 0, 0, .null, []),
  (1, .invokespecial 3, 3, 5000, 1, .null, []),
  (4, .aload_n 0, 1, 0, 0, .null, []),
  (5, .bipush 100, 2, 0, 0, .int 100, []),
  (7, .newarray .int, 2, 0, 0, .null, []),
  (9, .putfield 9, 3, 6, 0, .ref 0, [(0, 0)]),
  (12, .aload_n 0, 1, 0, 0, .null, []),
  (13, .invokevirtual 15, 3, 9, 1, .null, []),
  (16, .return_, 1, 0, 0, .null, [])]
/-- RailPasses$Ways.forget()V -/
def rp_k9 : List rp_En := [(0, .iconst 0, 1, 0, 0, .int 0, []),
  (1, .istore_n 1, 1, 1, 0, .null, []),
  (2, .iload_n 1, 1, 1, 0, .null, []),
  (3, .aload_n 0, 1, 0, 0, .null, []),
  (4, .getfield 9, 3, 6, 0, .null, []),
  (7, .arraylength, 1, 0, 0, .null, []),
  (8, .if_icmp .ge 32, 3, 40, 0, .null, []),
  (11, .aload_n 0, 1, 0, 0, .null, []),
  (12, .getfield 9, 3, 6, 0, .null, []),
  (15, .iload_n 1, 1, 1, 0, .null, []),
  (16, .iload_n 1, 1, 1, 0, .null, []),
  (17, .bipush 10, 2, 0, 0, .int 10, []),
  (19, .idiv, 1, 0, 0, .null, []),
  (20, .iload_n 1, 1, 1, 0, .null, []),
  (21, .bipush 10, 2, 0, 0, .int 10, []),
  (23, .irem, 1, 0, 0, .null, []),
  (24, .if_icmp .ne 7, 3, 31, 0, .null, []),
  (27, .iconst 0, 1, 0, 0, .int 0, []),
  (28, .goto 5, 3, 33, 0, .null, []),
  (31, .ldc 39, 2, 0, 0, .int 536870912, []),
  (33, .iastore, 1, 0, 0, .null, []),
  (34, .iinc 1 1, 3, 1, 0, .int 1, []),
  (37, .goto (-35), 3, 2, 0, .null, []),
  (40, .return_, 1, 0, 0, .null, [])]
/-- RailPasses$Plan.<init>()V -/
def rp_k10 : List rp_En := [(0, .aload_n 0, 1, 0, 0, .null, []),
  (1, .invokespecial 3, 3, 5000, 1, .null, []),
  (4, .aload_n 0, 1, 0, 0, .null, []),
  (5, .bipush 10, 2, 0, 0, .int 10, []),
  (7, .newarray .int, 2, 0, 0, .null, []),
  (9, .putfield 9, 3, 3, 0, .ref 0, [(0, 0)]),
  (12, .aload_n 0, 1, 0, 0, .null, []),
  (13, .bipush 10, 2, 0, 0, .int 10, []),
  (15, .newarray .int, 2, 0, 0, .null, []),
  (17, .putfield 15, 3, 3, 1, .ref 0, [(0, 0)]),
  (20, .aload_n 0, 1, 0, 0, .null, []),
  (21, .bipush 10, 2, 0, 0, .int 10, []),
  (23, .newarray .int, 2, 0, 0, .null, []),
  (25, .putfield 18, 3, 3, 2, .ref 0, [(0, 0)]),
  (28, .return_, 1, 0, 0, .null, [])]
/-- RailPasses$Proof.<init>()V -/
def rp_k11 : List rp_En := [(0, .aload_n 0, 1, 0, 0, .null, []),
  (1, .invokespecial 3, 3, 5000, 1, .null, []),
  (4, .aload_n 0, 1, 0, 0, .null, []),
  (5, .new 9, 3, 5, 0, .null, []),
  (8, .dup, 1, 0, 0, .null, []),
  (9, .sipush 200, 3, 0, 0, .int 200, []),
  (12, .iconst 3, 1, 0, 0, .int 3, []),
  (13, .invokespecial 11, 3, 2, 3, .null, []),
  (16, .putfield 14, 3, 4, 0, .ref 0, [(0, 0)]),
  (19, .return_, 1, 0, 0, .null, [])]
/-- RailPasses$Ledger.<init>()V -/
def rp_k12 : List rp_En := [(0, .aload_n 0, 1, 0, 0, .null, []),
  (1, .invokespecial 3, 3, 5000, 1, .null, []),
  (4, .aload_n 0, 1, 0, 0, .null, []),
  (5, .bipush 40, 2, 0, 0, .int 40, []),
  (7, .newarray .int, 2, 0, 0, .null, []),
  (9, .putfield 9, 3, 2, 0, .ref 0, [(0, 0)]),
  (12, .aload_n 0, 1, 0, 0, .null, []),
  (13, .iconst 5, 1, 0, 0, .int 5, []),
  (14, .newarray .int, 2, 0, 0, .null, []),
  (16, .putfield 15, 3, 2, 5, .ref 0, [(0, 0)]),
  (19, .return_, 1, 0, 0, .null, [])]
/-- RailPasses.line(IIIIZ)I -/
def rp_k13 : List rp_En := [(0, .iload_n 1, 1, 1, 0, .null, []),
  (1, .invokestatic 54, 3, 14, 1, .null, []),
  (4, .ifCond .eq 34, 3, 38, 0, .null, []),
  (7, .iload_n 2, 1, 2, 0, .null, []),
  (8, .invokestatic 54, 3, 14, 1, .null, []),
  (11, .ifCond .eq 27, 3, 38, 0, .null, []),
  (14, .iload_n 1, 1, 1, 0, .null, []),
  (15, .iload_n 2, 1, 2, 0, .null, []),
  (16, .if_icmp .eq 22, 3, 38, 0, .null, []),
  (19, .iload_n 3, 1, 3, 0, .null, []),
  (20, .invokestatic 58, 3, 16, 1, .null, []),
  (23, .ifCond .eq 15, 3, 38, 0, .null, []),
  (26, .iload 4, 2, 4, 0, .null, []),
  (28, .iconst 1, 1, 0, 0, .int 1, []),
  (29, .sipush 300, 3, 0, 0, .int 300, []),
  (32, .invokestatic 61, 3, 15, 3, .null, []),
  (35, .ifCond .ne 5, 3, 40, 0, .null, []),
  (38, .iconst (-1), 1, 0, 0, .int (-1), []),
  (39, .ireturn, 1, 0, 0, .null, []),
  (40, .aload_n 0, 1, 0, 0, .null, []),
  (41, .getfield 12, 3, 7, 0, .null, []),
  (44, .getfield 65, 3, 0, 0, .null, []),
  (47, .invokevirtual 69, 3, 4, 1, .null, []),
  (50, .ifCond .eq 6, 3, 56, 0, .null, []),
  (53, .bipush (-2), 2, 0, 0, .int (-2), []),
  (55, .ireturn, 1, 0, 0, .null, []),
  (56, .aload_n 0, 1, 0, 0, .null, []),
  (57, .getfield 12, 3, 7, 0, .null, []),
  (60, .getfield 65, 3, 0, 0, .null, []),
  (63, .invokevirtual 75, 3, 3, 1, .null, []),
  (66, .istore 6, 2, 6, 0, .null, []),
  (68, .aload_n 0, 1, 0, 0, .null, []),
  (69, .getfield 12, 3, 7, 0, .null, []),
  (72, .getfield 65, 3, 0, 0, .null, []),
  (75, .iload 6, 2, 6, 0, .null, []),
  (77, .iconst 0, 1, 0, 0, .int 0, []),
  (78, .iload_n 1, 1, 1, 0, .null, []),
  (79, .invokevirtual 79, 3, 5, 4, .null, []),
  (82, .aload_n 0, 1, 0, 0, .null, []),
  (83, .getfield 12, 3, 7, 0, .null, []),
  (86, .getfield 65, 3, 0, 0, .null, []),
  (89, .iload 6, 2, 6, 0, .null, []),
  (91, .iconst 1, 1, 0, 0, .int 1, []),
  (92, .iload_n 2, 1, 2, 0, .null, []),
  (93, .invokevirtual 79, 3, 5, 4, .null, []),
  (96, .aload_n 0, 1, 0, 0, .null, []),
  (97, .getfield 12, 3, 7, 0, .null, []),
  (100, .getfield 65, 3, 0, 0, .null, []),
  (103, .iload 6, 2, 6, 0, .null, []),
  (105, .iconst 2, 1, 0, 0, .int 2, []),
  (106, .iload_n 3, 1, 3, 0, .null, []),
  (107, .invokevirtual 79, 3, 5, 4, .null, []),
  (110, .aload_n 0, 1, 0, 0, .null, []),
  (111, .getfield 12, 3, 7, 0, .null, []),
  (114, .getfield 65, 3, 0, 0, .null, []),
  (117, .iload 6, 2, 6, 0, .null, []),
  (119, .iconst 3, 1, 0, 0, .int 3, []),
  (120, .iload 4, 2, 4, 0, .null, []),
  (122, .invokevirtual 79, 3, 5, 4, .null, []),
  (125, .aload_n 0, 1, 0, 0, .null, []),
  (126, .getfield 12, 3, 7, 0, .null, []),
  (129, .getfield 65, 3, 0, 0, .null, []),
  (132, .iload 6, 2, 6, 0, .null, []),
  (134, .iconst 4, 1, 0, 0, .int 4, []),
  (135, .iload 5, 2, 5, 0, .null, []),
  (137, .invokestatic 83, 3, 17, 1, .null, []),
  (140, .invokevirtual 79, 3, 5, 4, .null, []),
  (143, .aload_n 0, 1, 0, 0, .null, []),
  (144, .getfield 29, 3, 7, 4, .null, []),
  (147, .aload_n 0, 1, 0, 0, .null, []),
  (148, .getfield 12, 3, 7, 0, .null, []),
  (151, .getfield 65, 3, 0, 0, .null, []),
  (154, .invokevirtual 87, 3, 18, 2, .null, []),
  (157, .iload 6, 2, 6, 0, .null, []),
  (159, .ireturn, 1, 0, 0, .null, [])]
/-- RailPasses.isStation(I)Z -/
def rp_k14 : List rp_En := [(0, .iload_n 0, 1, 0, 0, .null, []),
  (1, .iconst 0, 1, 0, 0, .int 0, []),
  (2, .bipush 9, 2, 0, 0, .int 9, []),
  (4, .invokestatic 61, 3, 15, 3, .null, []),
  (7, .ireturn, 1, 0, 0, .null, [])]
/-- RailPasses.isWithin(III)Z -/
def rp_k15 : List rp_En := [(0, .iload_n 0, 1, 0, 0, .null, []),
  (1, .iload_n 1, 1, 1, 0, .null, []),
  (2, .if_icmp .lt 12, 3, 14, 0, .null, []),
  (5, .iload_n 0, 1, 0, 0, .null, []),
  (6, .iload_n 2, 1, 2, 0, .null, []),
  (7, .if_icmp .gt 7, 3, 14, 0, .null, []),
  (10, .iconst 1, 1, 0, 0, .int 1, []),
  (11, .goto 4, 3, 15, 0, .null, []),
  (14, .iconst 0, 1, 0, 0, .int 0, []),
  (15, .ireturn, 1, 0, 0, .null, [])]
/-- RailPasses.isRailway(I)Z -/
def rp_k16 : List rp_En := [(0, .iload_n 0, 1, 0, 0, .null, []),
  (1, .iconst 0, 1, 0, 0, .int 0, []),
  (2, .iconst 4, 1, 0, 0, .int 4, []),
  (3, .invokestatic 61, 3, 15, 3, .null, []),
  (6, .ireturn, 1, 0, 0, .null, [])]
/-- RailPasses.bit(Z)I -/
def rp_k17 : List rp_En := [(0, .iload_n 0, 1, 0, 0, .null, []),
  (1, .ifCond .eq 7, 3, 8, 0, .null, []),
  (4, .iconst 1, 1, 0, 0, .int 1, []),
  (5, .goto 4, 3, 9, 0, .null, []),
  (8, .iconst 0, 1, 0, 0, .int 0, []),
  (9, .ireturn, 1, 0, 0, .null, [])]
/-- RailPasses$Ways.reckon(LRailPasses$Table;)V -/
def rp_k18 : List rp_En := [(0, .aload_n 0, 1, 0, 0, .null, []),
  (1, .invokevirtual 15, 3, 9, 1, .null, []),
  (4, .iconst 0, 1, 0, 0, .int 0, []),
  (5, .istore_n 2, 1, 2, 0, .null, []),
  (6, .iload_n 2, 1, 2, 0, .null, []),
  (7, .aload_n 1, 1, 1, 0, .null, []),
  (8, .invokevirtual 18, 3, 19, 1, .null, []),
  (11, .if_icmp .ge 57, 3, 68, 0, .null, []),
  (14, .aload_n 1, 1, 1, 0, .null, []),
  (15, .iload_n 2, 1, 2, 0, .null, []),
  (16, .iconst 3, 1, 0, 0, .int 3, []),
  (17, .invokevirtual 24, 3, 20, 3, .null, []),
  (20, .bipush 14, 2, 0, 0, .int 14, []),
  (22, .ishl, 1, 0, 0, .null, []),
  (23, .iconst 1, 1, 0, 0, .int 1, []),
  (24, .iload_n 2, 1, 2, 0, .null, []),
  (25, .ishl, 1, 0, 0, .null, []),
  (26, .ior, 1, 0, 0, .null, []),
  (27, .istore_n 3, 1, 3, 0, .null, []),
  (28, .aload_n 0, 1, 0, 0, .null, []),
  (29, .aload_n 1, 1, 1, 0, .null, []),
  (30, .iload_n 2, 1, 2, 0, .null, []),
  (31, .iconst 0, 1, 0, 0, .int 0, []),
  (32, .invokevirtual 24, 3, 20, 3, .null, []),
  (35, .aload_n 1, 1, 1, 0, .null, []),
  (36, .iload_n 2, 1, 2, 0, .null, []),
  (37, .iconst 1, 1, 0, 0, .int 1, []),
  (38, .invokevirtual 24, 3, 20, 3, .null, []),
  (41, .iload_n 3, 1, 3, 0, .null, []),
  (42, .invokevirtual 28, 3, 21, 4, .null, []),
  (45, .aload_n 0, 1, 0, 0, .null, []),
  (46, .aload_n 1, 1, 1, 0, .null, []),
  (47, .iload_n 2, 1, 2, 0, .null, []),
  (48, .iconst 1, 1, 0, 0, .int 1, []),
  (49, .invokevirtual 24, 3, 20, 3, .null, []),
  (52, .aload_n 1, 1, 1, 0, .null, []),
  (53, .iload_n 2, 1, 2, 0, .null, []),
  (54, .iconst 0, 1, 0, 0, .int 0, []),
  (55, .invokevirtual 24, 3, 20, 3, .null, []),
  (58, .iload_n 3, 1, 3, 0, .null, []),
  (59, .invokevirtual 28, 3, 21, 4, .null, []),
  (62, .iinc 2 1, 3, 2, 0, .int 1, []),
  (65, .goto (-59), 3, 6, 0, .null, []),
  (68, .iconst 0, 1, 0, 0, .int 0, []),
  (69, .istore_n 2, 1, 2, 0, .null, []),
  (70, .iload_n 2, 1, 2, 0, .null, []),
  (71, .bipush 10, 2, 0, 0, .int 10, []),
  (73, .if_icmp .ge 69, 3, 142, 0, .null, []),
  (76, .iconst 0, 1, 0, 0, .int 0, []),
  (77, .istore_n 3, 1, 3, 0, .null, []),
  (78, .iload_n 3, 1, 3, 0, .null, []),
  (79, .bipush 10, 2, 0, 0, .int 10, []),
  (81, .if_icmp .ge 55, 3, 136, 0, .null, []),
  (84, .iconst 0, 1, 0, 0, .int 0, []),
  (85, .istore 4, 2, 4, 0, .null, []),
  (87, .iload 4, 2, 4, 0, .null, []),
  (89, .bipush 10, 2, 0, 0, .int 10, []),
  (91, .if_icmp .ge 39, 3, 130, 0, .null, []),
  (94, .aload_n 0, 1, 0, 0, .null, []),
  (95, .iload_n 3, 1, 3, 0, .null, []),
  (96, .iload_n 2, 1, 2, 0, .null, []),
  (97, .invokevirtual 32, 3, 22, 3, .null, []),
  (100, .ifCond .eq 30, 3, 130, 0, .null, []),
  (103, .aload_n 0, 1, 0, 0, .null, []),
  (104, .iload_n 3, 1, 3, 0, .null, []),
  (105, .iload 4, 2, 4, 0, .null, []),
  (107, .aload_n 0, 1, 0, 0, .null, []),
  (108, .iload_n 3, 1, 3, 0, .null, []),
  (109, .iload_n 2, 1, 2, 0, .null, []),
  (110, .invokevirtual 36, 3, 23, 3, .null, []),
  (113, .aload_n 0, 1, 0, 0, .null, []),
  (114, .iload_n 2, 1, 2, 0, .null, []),
  (115, .iload 4, 2, 4, 0, .null, []),
  (117, .invokevirtual 36, 3, 23, 3, .null, []),
  (120, .iadd, 1, 0, 0, .null, []),
  (121, .invokevirtual 28, 3, 21, 4, .null, []),
  (124, .iinc 4 1, 3, 4, 0, .int 1, []),
  (127, .goto (-40), 3, 87, 0, .null, []),
  (130, .iinc 3 1, 3, 3, 0, .int 1, []),
  (133, .goto (-55), 3, 78, 0, .null, []),
  (136, .iinc 2 1, 3, 2, 0, .int 1, []),
  (139, .goto (-69), 3, 70, 0, .null, []),
  (142, .return_, 1, 0, 0, .null, [])]
/-- RailPasses$Table.size()I -/
def rp_k19 : List rp_En := [(0, .aload_n 0, 1, 0, 0, .null, []),
  (1, .getfield 26, 3, 5, 3, .null, []),
  (4, .ireturn, 1, 0, 0, .null, [])]
/-- RailPasses$Table.get(II)I -/
def rp_k20 : List rp_En := [(0, .aload_n 0, 1, 0, 0, .null, []),
  (1, .iload_n 1, 1, 1, 0, .null, []),
  (2, .iload_n 2, 1, 2, 0, .null, []),
  (3, .invokevirtual 29, 3, 6, 3, .null, []),
  (6, .istore_n 3, 1, 3, 0, .null, []),
  (7, .iload_n 3, 1, 3, 0, .null, []),
  (8, .ifCond .lt 21, 3, 29, 0, .null, []),
  (11, .iload_n 3, 1, 3, 0, .null, []),
  (12, .aload_n 0, 1, 0, 0, .null, []),
  (13, .getfield 22, 3, 5, 0, .null, []),
  (16, .arraylength, 1, 0, 0, .null, []),
  (17, .if_icmp .ge 12, 3, 29, 0, .null, []),
  (20, .aload_n 0, 1, 0, 0, .null, []),
  (21, .getfield 22, 3, 5, 0, .null, []),
  (24, .iload_n 3, 1, 3, 0, .null, []),
  (25, .iaload, 1, 0, 0, .null, []),
  (26, .goto 4, 3, 30, 0, .null, []),
  (29, .iconst 0, 1, 0, 0, .int 0, []),
  (30, .ireturn, 1, 0, 0, .null, [])]
/-- RailPasses$Ways.better(III)V -/
def rp_k21 : List rp_En := [(0, .iload_n 1, 1, 1, 0, .null, []),
  (1, .bipush 10, 2, 0, 0, .int 10, []),
  (3, .imul, 1, 0, 0, .null, []),
  (4, .iload_n 2, 1, 2, 0, .null, []),
  (5, .iadd, 1, 0, 0, .null, []),
  (6, .istore 4, 2, 4, 0, .null, []),
  (8, .iload_n 1, 1, 1, 0, .null, []),
  (9, .invokestatic 40, 3, 14, 1, .null, []),
  (12, .ifCond .eq 39, 3, 51, 0, .null, []),
  (15, .iload_n 2, 1, 2, 0, .null, []),
  (16, .invokestatic 40, 3, 14, 1, .null, []),
  (19, .ifCond .eq 32, 3, 51, 0, .null, []),
  (22, .iload 4, 2, 4, 0, .null, []),
  (24, .aload_n 0, 1, 0, 0, .null, []),
  (25, .getfield 9, 3, 6, 0, .null, []),
  (28, .arraylength, 1, 0, 0, .null, []),
  (29, .if_icmp .ge 22, 3, 51, 0, .null, []),
  (32, .iload_n 3, 1, 3, 0, .null, []),
  (33, .aload_n 0, 1, 0, 0, .null, []),
  (34, .getfield 9, 3, 6, 0, .null, []),
  (37, .iload 4, 2, 4, 0, .null, []),
  (39, .iaload, 1, 0, 0, .null, []),
  (40, .if_icmp .ge 11, 3, 51, 0, .null, []),
  (43, .aload_n 0, 1, 0, 0, .null, []),
  (44, .getfield 9, 3, 6, 0, .null, []),
  (47, .iload 4, 2, 4, 0, .null, []),
  (49, .iload_n 3, 1, 3, 0, .null, []),
  (50, .iastore, 1, 0, 0, .null, []),
  (51, .return_, 1, 0, 0, .null, [])]
/-- RailPasses$Ways.isThere(II)Z -/
def rp_k22 : List rp_En := [(0, .aload_n 0, 1, 0, 0, .null, []),
  (1, .iload_n 1, 1, 1, 0, .null, []),
  (2, .iload_n 2, 1, 2, 0, .null, []),
  (3, .invokevirtual 36, 3, 23, 3, .null, []),
  (6, .ldc 39, 2, 0, 0, .int 536870912, []),
  (8, .if_icmp .ge 7, 3, 15, 0, .null, []),
  (11, .iconst 1, 1, 0, 0, .int 1, []),
  (12, .goto 4, 3, 16, 0, .null, []),
  (15, .iconst 0, 1, 0, 0, .int 0, []),
  (16, .ireturn, 1, 0, 0, .null, [])]
/-- RailPasses$Ways.keyOf(II)I -/
def rp_k23 : List rp_En := [(0, .iload_n 1, 1, 1, 0, .null, []),
  (1, .bipush 10, 2, 0, 0, .int 10, []),
  (3, .imul, 1, 0, 0, .null, []),
  (4, .iload_n 2, 1, 2, 0, .null, []),
  (5, .iadd, 1, 0, 0, .null, []),
  (6, .istore_n 3, 1, 3, 0, .null, []),
  (7, .iload_n 1, 1, 1, 0, .null, []),
  (8, .invokestatic 40, 3, 14, 1, .null, []),
  (11, .ifCond .eq 28, 3, 39, 0, .null, []),
  (14, .iload_n 2, 1, 2, 0, .null, []),
  (15, .invokestatic 40, 3, 14, 1, .null, []),
  (18, .ifCond .eq 21, 3, 39, 0, .null, []),
  (21, .iload_n 3, 1, 3, 0, .null, []),
  (22, .aload_n 0, 1, 0, 0, .null, []),
  (23, .getfield 9, 3, 6, 0, .null, []),
  (26, .arraylength, 1, 0, 0, .null, []),
  (27, .if_icmp .ge 12, 3, 39, 0, .null, []),
  (30, .aload_n 0, 1, 0, 0, .null, []),
  (31, .getfield 9, 3, 6, 0, .null, []),
  (34, .iload_n 3, 1, 3, 0, .null, []),
  (35, .iaload, 1, 0, 0, .null, []),
  (36, .goto 5, 3, 41, 0, .null, []),
  (39, .ldc 39, 2, 0, 0, .int 536870912, []),
  (41, .ireturn, 1, 0, 0, .null, [])]
/-- RailPasses.train(IZIIZI)I -/
def rp_k24 : List rp_En := [(0, .aload_n 0, 1, 0, 0, .null, []),
  (1, .getfield 12, 3, 7, 0, .null, []),
  (4, .getfield 65, 3, 0, 0, .null, []),
  (7, .iload_n 1, 1, 1, 0, .null, []),
  (8, .invokevirtual 91, 3, 25, 2, .null, []),
  (11, .ifCond .eq 30, 3, 41, 0, .null, []),
  (14, .iload_n 3, 1, 3, 0, .null, []),
  (15, .invokestatic 94, 3, 26, 1, .null, []),
  (18, .ifCond .eq 23, 3, 41, 0, .null, []),
  (21, .iload 4, 2, 4, 0, .null, []),
  (23, .iconst 1, 1, 0, 0, .int 1, []),
  (24, .sipush 900, 3, 0, 0, .int 900, []),
  (27, .invokestatic 61, 3, 15, 3, .null, []),
  (30, .ifCond .eq 11, 3, 41, 0, .null, []),
  (33, .iload 6, 2, 6, 0, .null, []),
  (35, .invokestatic 97, 3, 27, 1, .null, []),
  (38, .ifCond .ne 5, 3, 43, 0, .null, []),
  (41, .iconst (-1), 1, 0, 0, .int (-1), []),
  (42, .ireturn, 1, 0, 0, .null, []),
  (43, .aload_n 0, 1, 0, 0, .null, []),
  (44, .getfield 12, 3, 7, 0, .null, []),
  (47, .getfield 100, 3, 0, 1, .null, []),
  (50, .invokevirtual 69, 3, 4, 1, .null, []),
  (53, .ifCond .eq 6, 3, 59, 0, .null, []),
  (56, .bipush (-2), 2, 0, 0, .int (-2), []),
  (58, .ireturn, 1, 0, 0, .null, []),
  (59, .aload_n 0, 1, 0, 0, .null, []),
  (60, .getfield 12, 3, 7, 0, .null, []),
  (63, .getfield 100, 3, 0, 1, .null, []),
  (66, .invokevirtual 75, 3, 3, 1, .null, []),
  (69, .istore 7, 2, 7, 0, .null, []),
  (71, .aload_n 0, 1, 0, 0, .null, []),
  (72, .getfield 12, 3, 7, 0, .null, []),
  (75, .getfield 100, 3, 0, 1, .null, []),
  (78, .iload 7, 2, 7, 0, .null, []),
  (80, .iconst 0, 1, 0, 0, .int 0, []),
  (81, .iload_n 1, 1, 1, 0, .null, []),
  (82, .invokevirtual 79, 3, 5, 4, .null, []),
  (85, .aload_n 0, 1, 0, 0, .null, []),
  (86, .getfield 12, 3, 7, 0, .null, []),
  (89, .getfield 100, 3, 0, 1, .null, []),
  (92, .iload 7, 2, 7, 0, .null, []),
  (94, .iconst 1, 1, 0, 0, .int 1, []),
  (95, .aload_n 0, 1, 0, 0, .null, []),
  (96, .getfield 12, 3, 7, 0, .null, []),
  (99, .getfield 65, 3, 0, 0, .null, []),
  (102, .iload_n 1, 1, 1, 0, .null, []),
  (103, .iload_n 2, 1, 2, 0, .null, []),
  (104, .ifCond .eq 7, 3, 111, 0, .null, []),
  (107, .iconst 0, 1, 0, 0, .int 0, []),
  (108, .goto 4, 3, 112, 0, .null, []),
  (111, .iconst 1, 1, 0, 0, .int 1, []),
  (112, .invokevirtual 103, 3, 20, 3, .null, []),
  (115, .invokevirtual 79, 3, 5, 4, .null, []),
  (118, .aload_n 0, 1, 0, 0, .null, []),
  (119, .getfield 12, 3, 7, 0, .null, []),
  (122, .getfield 100, 3, 0, 1, .null, []),
  (125, .iload 7, 2, 7, 0, .null, []),
  (127, .iconst 2, 1, 0, 0, .int 2, []),
  (128, .aload_n 0, 1, 0, 0, .null, []),
  (129, .getfield 12, 3, 7, 0, .null, []),
  (132, .getfield 65, 3, 0, 0, .null, []),
  (135, .iload_n 1, 1, 1, 0, .null, []),
  (136, .iload_n 2, 1, 2, 0, .null, []),
  (137, .ifCond .eq 7, 3, 144, 0, .null, []),
  (140, .iconst 1, 1, 0, 0, .int 1, []),
  (141, .goto 4, 3, 145, 0, .null, []),
  (144, .iconst 0, 1, 0, 0, .int 0, []),
  (145, .invokevirtual 103, 3, 20, 3, .null, []),
  (148, .invokevirtual 79, 3, 5, 4, .null, []),
  (151, .aload_n 0, 1, 0, 0, .null, []),
  (152, .getfield 12, 3, 7, 0, .null, []),
  (155, .getfield 100, 3, 0, 1, .null, []),
  (158, .iload 7, 2, 7, 0, .null, []),
  (160, .iconst 3, 1, 0, 0, .int 3, []),
  (161, .iload_n 3, 1, 3, 0, .null, []),
  (162, .invokevirtual 79, 3, 5, 4, .null, []),
  (165, .aload_n 0, 1, 0, 0, .null, []),
  (166, .getfield 12, 3, 7, 0, .null, []),
  (169, .getfield 100, 3, 0, 1, .null, []),
  (172, .iload 7, 2, 7, 0, .null, []),
  (174, .iconst 4, 1, 0, 0, .int 4, []),
  (175, .iload 4, 2, 4, 0, .null, []),
  (177, .invokevirtual 79, 3, 5, 4, .null, []),
  (180, .aload_n 0, 1, 0, 0, .null, []),
  (181, .getfield 12, 3, 7, 0, .null, []),
  (184, .getfield 100, 3, 0, 1, .null, []),
  (187, .iload 7, 2, 7, 0, .null, []),
  (189, .iconst 5, 1, 0, 0, .int 5, []),
  (190, .iload 5, 2, 5, 0, .null, []),
  (192, .invokestatic 83, 3, 17, 1, .null, []),
  (195, .invokevirtual 79, 3, 5, 4, .null, []),
  (198, .aload_n 0, 1, 0, 0, .null, []),
  (199, .getfield 12, 3, 7, 0, .null, []),
  (202, .getfield 100, 3, 0, 1, .null, []),
  (205, .iload 7, 2, 7, 0, .null, []),
  (207, .bipush 6, 2, 0, 0, .int 6, []),
  (209, .iload 6, 2, 6, 0, .null, []),
  (211, .sipush 1000, 3, 0, 0, .int 1000, []),
  (214, .irem, 1, 0, 0, .null, []),
  (215, .invokevirtual 79, 3, 5, 4, .null, []),
  (218, .aload_n 0, 1, 0, 0, .null, []),
  (219, .getfield 12, 3, 7, 0, .null, []),
  (222, .getfield 100, 3, 0, 1, .null, []),
  (225, .iload 7, 2, 7, 0, .null, []),
  (227, .bipush 7, 2, 0, 0, .int 7, []),
  (229, .iload 6, 2, 6, 0, .null, []),
  (231, .sipush 1000, 3, 0, 0, .int 1000, []),
  (234, .idiv, 1, 0, 0, .null, []),
  (235, .invokevirtual 79, 3, 5, 4, .null, []),
  (238, .aload_n 0, 1, 0, 0, .null, []),
  (239, .getfield 12, 3, 7, 0, .null, []),
  (242, .getfield 100, 3, 0, 1, .null, []),
  (245, .iload 7, 2, 7, 0, .null, []),
  (247, .bipush 8, 2, 0, 0, .int 8, []),
  (249, .iload_n 3, 1, 3, 0, .null, []),
  (250, .iload 4, 2, 4, 0, .null, []),
  (252, .iadd, 1, 0, 0, .null, []),
  (253, .sipush 1440, 3, 0, 0, .int 1440, []),
  (256, .if_icmp .lt 7, 3, 263, 0, .null, []),
  (259, .iconst 1, 1, 0, 0, .int 1, []),
  (260, .goto 4, 3, 264, 0, .null, []),
  (263, .iconst 0, 1, 0, 0, .int 0, []),
  (264, .invokestatic 83, 3, 17, 1, .null, []),
  (267, .invokevirtual 79, 3, 5, 4, .null, []),
  (270, .iload 7, 2, 7, 0, .null, []),
  (272, .ireturn, 1, 0, 0, .null, [])]
/-- RailPasses$Table.has(I)Z -/
def rp_k25 : List rp_En := [(0, .iload_n 1, 1, 1, 0, .null, []),
  (1, .ifCond .lt 15, 3, 16, 0, .null, []),
  (4, .iload_n 1, 1, 1, 0, .null, []),
  (5, .aload_n 0, 1, 0, 0, .null, []),
  (6, .getfield 26, 3, 5, 3, .null, []),
  (9, .if_icmp .ge 7, 3, 16, 0, .null, []),
  (12, .iconst 1, 1, 0, 0, .int 1, []),
  (13, .goto 4, 3, 17, 0, .null, []),
  (16, .iconst 0, 1, 0, 0, .int 0, []),
  (17, .ireturn, 1, 0, 0, .null, [])]
/-- RailPasses.isMinute(I)Z -/
def rp_k26 : List rp_En := [(0, .iload_n 0, 1, 0, 0, .null, []),
  (1, .iconst 0, 1, 0, 0, .int 0, []),
  (2, .sipush 1439, 3, 0, 0, .int 1439, []),
  (5, .invokestatic 61, 3, 15, 3, .null, []),
  (8, .ireturn, 1, 0, 0, .null, [])]
/-- RailPasses.isFareWithQuota(I)Z -/
def rp_k27 : List rp_En := [(0, .iload_n 0, 1, 0, 0, .null, []),
  (1, .iconst 0, 1, 0, 0, .int 0, []),
  (2, .sipush 9500, 3, 0, 0, .int 9500, []),
  (5, .invokestatic 61, 3, 15, 3, .null, []),
  (8, .ifCond .eq 18, 3, 26, 0, .null, []),
  (11, .iload_n 0, 1, 0, 0, .null, []),
  (12, .sipush 1000, 3, 0, 0, .int 1000, []),
  (15, .irem, 1, 0, 0, .null, []),
  (16, .sipush 500, 3, 0, 0, .int 500, []),
  (19, .if_icmp .gt 7, 3, 26, 0, .null, []),
  (22, .iconst 1, 1, 0, 0, .int 1, []),
  (23, .goto 4, 3, 27, 0, .null, []),
  (26, .iconst 0, 1, 0, 0, .int 0, []),
  (27, .ireturn, 1, 0, 0, .null, [])]
/-- RailPasses.of(II)I -/
def rp_k28 : List rp_En := [(0, .aload_n 0, 1, 0, 0, .null, []),
  (1, .getfield 12, 3, 7, 0, .null, []),
  (4, .getfield 100, 3, 0, 1, .null, []),
  (7, .iload_n 1, 1, 1, 0, .null, []),
  (8, .invokevirtual 91, 3, 25, 2, .null, []),
  (11, .ifCond .eq 13, 3, 24, 0, .null, []),
  (14, .iload_n 2, 1, 2, 0, .null, []),
  (15, .iconst 0, 1, 0, 0, .int 0, []),
  (16, .bipush 8, 2, 0, 0, .int 8, []),
  (18, .invokestatic 61, 3, 15, 3, .null, []),
  (21, .ifCond .ne 5, 3, 26, 0, .null, []),
  (24, .iconst (-1), 1, 0, 0, .int (-1), []),
  (25, .ireturn, 1, 0, 0, .null, []),
  (26, .aload_n 0, 1, 0, 0, .null, []),
  (27, .getfield 12, 3, 7, 0, .null, []),
  (30, .getfield 100, 3, 0, 1, .null, []),
  (33, .iload_n 1, 1, 1, 0, .null, []),
  (34, .iload_n 2, 1, 2, 0, .null, []),
  (35, .invokevirtual 103, 3, 20, 3, .null, []),
  (38, .ireturn, 1, 0, 0, .null, [])]
/-- RailPasses.days(I)I -/
def rp_k29 : List rp_En := [(0, .iload_n 1, 1, 1, 0, .null, []),
  (1, .iconst 1, 1, 0, 0, .int 1, []),
  (2, .bipush 20, 2, 0, 0, .int 20, []),
  (4, .invokestatic 61, 3, 15, 3, .null, []),
  (7, .ifCond .ne 5, 3, 12, 0, .null, []),
  (10, .iconst (-1), 1, 0, 0, .int (-1), []),
  (11, .ireturn, 1, 0, 0, .null, []),
  (12, .aload_n 0, 1, 0, 0, .null, []),
  (13, .getfield 12, 3, 7, 0, .null, []),
  (16, .getfield 107, 3, 0, 7, .null, []),
  (19, .iload_n 1, 1, 1, 0, .null, []),
  (20, .iadd, 1, 0, 0, .null, []),
  (21, .bipush 120, 2, 0, 0, .int 120, []),
  (23, .if_icmp .le 6, 3, 29, 0, .null, []),
  (26, .bipush (-4), 2, 0, 0, .int (-4), []),
  (28, .ireturn, 1, 0, 0, .null, []),
  (29, .aload_n 0, 1, 0, 0, .null, []),
  (30, .getfield 12, 3, 7, 0, .null, []),
  (33, .dup, 1, 0, 0, .null, []),
  (34, .getfield 107, 3, 0, 7, .null, []),
  (37, .iload_n 1, 1, 1, 0, .null, []),
  (38, .iadd, 1, 0, 0, .null, []),
  (39, .putfield 107, 3, 0, 7, .null, []),
  (42, .aload_n 0, 1, 0, 0, .null, []),
  (43, .getfield 12, 3, 7, 0, .null, []),
  (46, .getfield 107, 3, 0, 7, .null, []),
  (49, .ireturn, 1, 0, 0, .null, [])]
/-- RailPasses.feed(JI)I -/
def rp_k30 : List rp_En := [(0, .iload_n 3, 1, 3, 0, .null, []),
  (1, .iconst 1, 1, 0, 0, .int 1, []),
  (2, .bipush 8, 2, 0, 0, .int 8, []),
  (4, .invokestatic 61, 3, 15, 3, .null, []),
  (7, .ifCond .ne 5, 3, 12, 0, .null, []),
  (10, .iconst (-1), 1, 0, 0, .int (-1), []),
  (11, .ireturn, 1, 0, 0, .null, []),
  (12, .aload_n 0, 1, 0, 0, .null, []),
  (13, .getfield 22, 3, 7, 3, .null, []),
  (16, .invokevirtual 111, 3, 31, 1, .null, []),
  (19, .iload_n 3, 1, 3, 0, .null, []),
  (20, .iadd, 1, 0, 0, .null, []),
  (21, .sipush 300, 3, 0, 0, .int 300, []),
  (24, .if_icmp .le 6, 3, 30, 0, .null, []),
  (27, .bipush (-2), 2, 0, 0, .int (-2), []),
  (29, .ireturn, 1, 0, 0, .null, []),
  (30, .aload_n 0, 1, 0, 0, .null, []),
  (31, .getfield 22, 3, 7, 3, .null, []),
  (34, .lload_n 1, 1, 1, 0, .null, []),
  (35, .iload_n 3, 1, 3, 0, .null, []),
  (36, .invokevirtual 114, 3, 32, 3, .null, []),
  (39, .aload_n 0, 1, 0, 0, .null, []),
  (40, .getfield 22, 3, 7, 3, .null, []),
  (43, .invokevirtual 111, 3, 31, 1, .null, []),
  (46, .ireturn, 1, 0, 0, .null, [])]
/-- RailPasses$LawText.size()I -/
def rp_k31 : List rp_En := [(0, .aload_n 0, 1, 0, 0, .null, []),
  (1, .getfield 18, 3, 1, 1, .null, []),
  (4, .ireturn, 1, 0, 0, .null, [])]
/-- RailPasses$LawText.put(JI)V -/
def rp_k32 : List rp_En := [(0, .iconst 0, 1, 0, 0, .int 0, []),
  (1, .istore 4, 2, 4, 0, .null, []),
  (3, .iload 4, 2, 4, 0, .null, []),
  (5, .iload_n 3, 1, 3, 0, .null, []),
  (6, .if_icmp .ge 52, 3, 58, 0, .null, []),
  (9, .aload_n 0, 1, 0, 0, .null, []),
  (10, .getfield 18, 3, 1, 1, .null, []),
  (13, .aload_n 0, 1, 0, 0, .null, []),
  (14, .getfield 9, 3, 1, 0, .null, []),
  (17, .arraylength, 1, 0, 0, .null, []),
  (18, .if_icmp .ge 40, 3, 58, 0, .null, []),
  (21, .aload_n 0, 1, 0, 0, .null, []),
  (22, .getfield 9, 3, 1, 0, .null, []),
  (25, .aload_n 0, 1, 0, 0, .null, []),
  (26, .getfield 18, 3, 1, 1, .null, []),
  (29, .lload_n 1, 1, 1, 0, .null, []),
  (30, .bipush 8, 2, 0, 0, .int 8, []),
  (32, .iload 4, 2, 4, 0, .null, []),
  (34, .imul, 1, 0, 0, .null, []),
  (35, .lushr, 1, 0, 0, .null, []),
  (36, .ldc2_w 25, 3, 0, 0, .long 255, []),
  (39, .land, 1, 0, 0, .null, []),
  (40, .l2i, 1, 0, 0, .null, []),
  (41, .iastore, 1, 0, 0, .null, []),
  (42, .aload_n 0, 1, 0, 0, .null, []),
  (43, .dup, 1, 0, 0, .null, []),
  (44, .getfield 18, 3, 1, 1, .null, []),
  (47, .iconst 1, 1, 0, 0, .int 1, []),
  (48, .iadd, 1, 0, 0, .null, []),
  (49, .putfield 18, 3, 1, 1, .null, []),
  (52, .iinc 4 1, 3, 4, 0, .int 1, []),
  (55, .goto (-52), 3, 3, 0, .null, []),
  (58, .return_, 1, 0, 0, .null, [])]
/-- RailPasses.read(I)I -/
def rp_k33 : List rp_En := [(0, .aload_n 0, 1, 0, 0, .null, []),
  (1, .getfield 22, 3, 7, 3, .null, []),
  (4, .invokevirtual 118, 3, 34, 1, .null, []),
  (7, .istore_n 2, 1, 2, 0, .null, []),
  (8, .aload_n 0, 1, 0, 0, .null, []),
  (9, .getfield 22, 3, 7, 3, .null, []),
  (12, .invokevirtual 121, 3, 54, 1, .null, []),
  (15, .iload_n 1, 1, 1, 0, .null, []),
  (16, .invokestatic 124, 3, 55, 1, .null, []),
  (19, .ifCond .ne 5, 3, 24, 0, .null, []),
  (22, .iconst (-1), 1, 0, 0, .int (-1), []),
  (23, .ireturn, 1, 0, 0, .null, []),
  (24, .iload_n 2, 1, 2, 0, .null, []),
  (25, .iconst (-1), 1, 0, 0, .int (-1), []),
  (26, .if_icmp .eq 8, 3, 34, 0, .null, []),
  (29, .bipush (-100), 2, 0, 0, .int (-100), []),
  (31, .iload_n 2, 1, 2, 0, .null, []),
  (32, .isub, 1, 0, 0, .null, []),
  (33, .ireturn, 1, 0, 0, .null, []),
  (34, .iconst 0, 1, 0, 0, .int 0, []),
  (35, .istore_n 3, 1, 3, 0, .null, []),
  (36, .iload_n 3, 1, 3, 0, .null, []),
  (37, .bipush 11, 2, 0, 0, .int 11, []),
  (39, .if_icmp .ge 29, 3, 68, 0, .null, []),
  (42, .aload_n 0, 1, 0, 0, .null, []),
  (43, .getfield 12, 3, 7, 0, .null, []),
  (46, .getfield 127, 3, 0, 2, .null, []),
  (49, .iload_n 1, 1, 1, 0, .null, []),
  (50, .iload_n 3, 1, 3, 0, .null, []),
  (51, .aload_n 0, 1, 0, 0, .null, []),
  (52, .getfield 22, 3, 7, 3, .null, []),
  (55, .iload_n 3, 1, 3, 0, .null, []),
  (56, .invokevirtual 130, 3, 51, 2, .null, []),
  (59, .invokevirtual 79, 3, 5, 4, .null, []),
  (62, .iinc 3 1, 3, 3, 0, .int 1, []),
  (65, .goto (-29), 3, 36, 0, .null, []),
  (68, .aload_n 0, 1, 0, 0, .null, []),
  (69, .getfield 12, 3, 7, 0, .null, []),
  (72, .getfield 127, 3, 0, 2, .null, []),
  (75, .iload_n 1, 1, 1, 0, .null, []),
  (76, .bipush 11, 2, 0, 0, .int 11, []),
  (78, .iconst 1, 1, 0, 0, .int 1, []),
  (79, .invokevirtual 79, 3, 5, 4, .null, []),
  (82, .aload_n 0, 1, 0, 0, .null, []),
  (83, .getfield 22, 3, 7, 3, .null, []),
  (86, .invokevirtual 134, 3, 56, 1, .null, []),
  (89, .ireturn, 1, 0, 0, .null, [])]
/-- RailPasses$LawText.firstFault()I -/
def rp_k34 : List rp_En := [(0, .aload_n 0, 1, 0, 0, .null, []),
  (1, .invokevirtual 27, 3, 35, 1, .null, []),
  (4, .aload_n 0, 1, 0, 0, .null, []),
  (5, .invokevirtual 30, 3, 37, 1, .null, []),
  (8, .iconst 0, 1, 0, 0, .int 0, []),
  (9, .istore_n 1, 1, 1, 0, .null, []),
  (10, .iload_n 1, 1, 1, 0, .null, []),
  (11, .sipush 300, 3, 0, 0, .int 300, []),
  (14, .if_icmp .ge 42, 3, 56, 0, .null, []),
  (17, .aload_n 0, 1, 0, 0, .null, []),
  (18, .getfield 33, 3, 1, 2, .null, []),
  (21, .aload_n 0, 1, 0, 0, .null, []),
  (22, .getfield 18, 3, 1, 1, .null, []),
  (25, .if_icmp .ge 31, 3, 56, 0, .null, []),
  (28, .aload_n 0, 1, 0, 0, .null, []),
  (29, .invokevirtual 36, 3, 40, 1, .null, []),
  (32, .ifCond .ne 8, 3, 40, 0, .null, []),
  (35, .aload_n 0, 1, 0, 0, .null, []),
  (36, .getfield 33, 3, 1, 2, .null, []),
  (39, .ireturn, 1, 0, 0, .null, []),
  (40, .aload_n 0, 1, 0, 0, .null, []),
  (41, .dup, 1, 0, 0, .null, []),
  (42, .getfield 22, 3, 1, 6, .null, []),
  (45, .iconst 1, 1, 0, 0, .int 1, []),
  (46, .iadd, 1, 0, 0, .null, []),
  (47, .putfield 22, 3, 1, 6, .null, []),
  (50, .iinc 1 1, 3, 1, 0, .int 1, []),
  (53, .goto (-43), 3, 10, 0, .null, []),
  (56, .aload_n 0, 1, 0, 0, .null, []),
  (57, .iconst 1, 1, 0, 0, .int 1, []),
  (58, .invokevirtual 40, 3, 44, 2, .null, []),
  (61, .ifCond .eq 11, 3, 72, 0, .null, []),
  (64, .aload_n 0, 1, 0, 0, .null, []),
  (65, .iconst 2, 1, 0, 0, .int 2, []),
  (66, .invokevirtual 40, 3, 44, 2, .null, []),
  (69, .ifCond .ne 8, 3, 77, 0, .null, []),
  (72, .aload_n 0, 1, 0, 0, .null, []),
  (73, .getfield 18, 3, 1, 1, .null, []),
  (76, .ireturn, 1, 0, 0, .null, []),
  (77, .aload_n 0, 1, 0, 0, .null, []),
  (78, .iconst 3, 1, 0, 0, .int 3, []),
  (79, .invokevirtual 40, 3, 44, 2, .null, []),
  (82, .ifCond .ne 10, 3, 92, 0, .null, []),
  (85, .aload_n 0, 1, 0, 0, .null, []),
  (86, .iconst 3, 1, 0, 0, .int 3, []),
  (87, .bipush 31, 2, 0, 0, .int 31, []),
  (89, .invokevirtual 44, 3, 36, 3, .null, []),
  (92, .iconst (-1), 1, 0, 0, .int (-1), []),
  (93, .ireturn, 1, 0, 0, .null, [])]
/-- RailPasses$LawText.startOver()V -/
def rp_k35 : List rp_En := [(0, .aload_n 0, 1, 0, 0, .null, []),
  (1, .iconst 0, 1, 0, 0, .int 0, []),
  (2, .putfield 48, 3, 1, 3, .null, []),
  (5, .aload_n 0, 1, 0, 0, .null, []),
  (6, .iconst 0, 1, 0, 0, .int 0, []),
  (7, .putfield 22, 3, 1, 6, .null, []),
  (10, .aload_n 0, 1, 0, 0, .null, []),
  (11, .iconst 0, 1, 0, 0, .int 0, []),
  (12, .putfield 51, 3, 1, 5, .null, []),
  (15, .iconst 0, 1, 0, 0, .int 0, []),
  (16, .istore_n 1, 1, 1, 0, .null, []),
  (17, .iload_n 1, 1, 1, 0, .null, []),
  (18, .aload_n 0, 1, 0, 0, .null, []),
  (19, .getfield 15, 3, 1, 4, .null, []),
  (22, .arraylength, 1, 0, 0, .null, []),
  (23, .if_icmp .ge 16, 3, 39, 0, .null, []),
  (26, .aload_n 0, 1, 0, 0, .null, []),
  (27, .getfield 15, 3, 1, 4, .null, []),
  (30, .iload_n 1, 1, 1, 0, .null, []),
  (31, .iconst 0, 1, 0, 0, .int 0, []),
  (32, .iastore, 1, 0, 0, .null, []),
  (33, .iinc 1 1, 3, 1, 0, .int 1, []),
  (36, .goto (-19), 3, 17, 0, .null, []),
  (39, .aload_n 0, 1, 0, 0, .null, []),
  (40, .iconst 5, 1, 0, 0, .int 5, []),
  (41, .bipush 24, 2, 0, 0, .int 24, []),
  (43, .invokevirtual 44, 3, 36, 3, .null, []),
  (46, .aload_n 0, 1, 0, 0, .null, []),
  (47, .bipush 8, 2, 0, 0, .int 8, []),
  (49, .bipush 100, 2, 0, 0, .int 100, []),
  (51, .invokevirtual 44, 3, 36, 3, .null, []),
  (54, .return_, 1, 0, 0, .null, [])]
/-- RailPasses$LawText.setTerm(II)V -/
def rp_k36 : List rp_En := [(0, .iload_n 1, 1, 1, 0, .null, []),
  (1, .ifCond .lt 19, 3, 20, 0, .null, []),
  (4, .iload_n 1, 1, 1, 0, .null, []),
  (5, .aload_n 0, 1, 0, 0, .null, []),
  (6, .getfield 15, 3, 1, 4, .null, []),
  (9, .arraylength, 1, 0, 0, .null, []),
  (10, .if_icmp .ge 10, 3, 20, 0, .null, []),
  (13, .aload_n 0, 1, 0, 0, .null, []),
  (14, .getfield 15, 3, 1, 4, .null, []),
  (17, .iload_n 1, 1, 1, 0, .null, []),
  (18, .iload_n 2, 1, 2, 0, .null, []),
  (19, .iastore, 1, 0, 0, .null, []),
  (20, .return_, 1, 0, 0, .null, [])]
/-- RailPasses$LawText.advance()V -/
def rp_k37 : List rp_En := [(0, .aload_n 0, 1, 0, 0, .null, []),
  (1, .aload_n 0, 1, 0, 0, .null, []),
  (2, .getfield 48, 3, 1, 3, .null, []),
  (5, .putfield 33, 3, 1, 2, .null, []),
  (8, .aload_n 0, 1, 0, 0, .null, []),
  (9, .getfield 33, 3, 1, 2, .null, []),
  (12, .aload_n 0, 1, 0, 0, .null, []),
  (13, .getfield 18, 3, 1, 1, .null, []),
  (16, .if_icmp .ge 29, 3, 45, 0, .null, []),
  (19, .aload_n 0, 1, 0, 0, .null, []),
  (20, .aload_n 0, 1, 0, 0, .null, []),
  (21, .getfield 33, 3, 1, 2, .null, []),
  (24, .invokevirtual 95, 3, 38, 2, .null, []),
  (27, .bipush 32, 2, 0, 0, .int 32, []),
  (29, .if_icmp .ne 16, 3, 45, 0, .null, []),
  (32, .aload_n 0, 1, 0, 0, .null, []),
  (33, .dup, 1, 0, 0, .null, []),
  (34, .getfield 33, 3, 1, 2, .null, []),
  (37, .iconst 1, 1, 0, 0, .int 1, []),
  (38, .iadd, 1, 0, 0, .null, []),
  (39, .putfield 33, 3, 1, 2, .null, []),
  (42, .goto (-34), 3, 8, 0, .null, []),
  (45, .aload_n 0, 1, 0, 0, .null, []),
  (46, .aload_n 0, 1, 0, 0, .null, []),
  (47, .getfield 33, 3, 1, 2, .null, []),
  (50, .iconst 1, 1, 0, 0, .int 1, []),
  (51, .iadd, 1, 0, 0, .null, []),
  (52, .aload_n 0, 1, 0, 0, .null, []),
  (53, .getfield 18, 3, 1, 1, .null, []),
  (56, .invokestatic 138, 3, 5002, 2, .null, []),
  (59, .putfield 48, 3, 1, 3, .null, []),
  (62, .aload_n 0, 1, 0, 0, .null, []),
  (63, .aload_n 0, 1, 0, 0, .null, []),
  (64, .getfield 33, 3, 1, 2, .null, []),
  (67, .invokevirtual 95, 3, 38, 2, .null, []),
  (70, .invokestatic 122, 3, 39, 1, .null, []),
  (73, .istore_n 1, 1, 1, 0, .null, []),
  (74, .aload_n 0, 1, 0, 0, .null, []),
  (75, .getfield 48, 3, 1, 3, .null, []),
  (78, .aload_n 0, 1, 0, 0, .null, []),
  (79, .getfield 18, 3, 1, 1, .null, []),
  (82, .if_icmp .ge 35, 3, 117, 0, .null, []),
  (85, .iload_n 1, 1, 1, 0, .null, []),
  (86, .ifCond .eq 31, 3, 117, 0, .null, []),
  (89, .aload_n 0, 1, 0, 0, .null, []),
  (90, .aload_n 0, 1, 0, 0, .null, []),
  (91, .getfield 48, 3, 1, 3, .null, []),
  (94, .invokevirtual 95, 3, 38, 2, .null, []),
  (97, .invokestatic 122, 3, 39, 1, .null, []),
  (100, .iload_n 1, 1, 1, 0, .null, []),
  (101, .if_icmp .ne 16, 3, 117, 0, .null, []),
  (104, .aload_n 0, 1, 0, 0, .null, []),
  (105, .dup, 1, 0, 0, .null, []),
  (106, .getfield 48, 3, 1, 3, .null, []),
  (109, .iconst 1, 1, 0, 0, .int 1, []),
  (110, .iadd, 1, 0, 0, .null, []),
  (111, .putfield 48, 3, 1, 3, .null, []),
  (114, .goto (-40), 3, 74, 0, .null, []),
  (117, .return_, 1, 0, 0, .null, [])]
/-- RailPasses$LawText.byteAt(I)I -/
def rp_k38 : List rp_En := [(0, .iload_n 1, 1, 1, 0, .null, []),
  (1, .ifCond .lt 29, 3, 30, 0, .null, []),
  (4, .iload_n 1, 1, 1, 0, .null, []),
  (5, .aload_n 0, 1, 0, 0, .null, []),
  (6, .getfield 18, 3, 1, 1, .null, []),
  (9, .if_icmp .ge 21, 3, 30, 0, .null, []),
  (12, .iload_n 1, 1, 1, 0, .null, []),
  (13, .aload_n 0, 1, 0, 0, .null, []),
  (14, .getfield 9, 3, 1, 0, .null, []),
  (17, .arraylength, 1, 0, 0, .null, []),
  (18, .if_icmp .ge 12, 3, 30, 0, .null, []),
  (21, .aload_n 0, 1, 0, 0, .null, []),
  (22, .getfield 9, 3, 1, 0, .null, []),
  (25, .iload_n 1, 1, 1, 0, .null, []),
  (26, .iaload, 1, 0, 0, .null, []),
  (27, .goto 4, 3, 31, 0, .null, []),
  (30, .iconst (-1), 1, 0, 0, .int (-1), []),
  (31, .ireturn, 1, 0, 0, .null, [])]
/-- RailPasses$LawText.sortOf(I)I -/
def rp_k39 : List rp_En := [(0, .iload_n 0, 1, 0, 0, .null, []),
  (1, .bipush 97, 2, 0, 0, .int 97, []),
  (3, .if_icmp .lt 11, 3, 14, 0, .null, []),
  (6, .iload_n 0, 1, 0, 0, .null, []),
  (7, .bipush 122, 2, 0, 0, .int 122, []),
  (9, .if_icmp .gt 5, 3, 14, 0, .null, []),
  (12, .iconst 1, 1, 0, 0, .int 1, []),
  (13, .ireturn, 1, 0, 0, .null, []),
  (14, .iload_n 0, 1, 0, 0, .null, []),
  (15, .bipush 48, 2, 0, 0, .int 48, []),
  (17, .if_icmp .lt 13, 3, 30, 0, .null, []),
  (20, .iload_n 0, 1, 0, 0, .null, []),
  (21, .bipush 57, 2, 0, 0, .int 57, []),
  (23, .if_icmp .gt 7, 3, 30, 0, .null, []),
  (26, .iconst 2, 1, 0, 0, .int 2, []),
  (27, .goto 4, 3, 31, 0, .null, []),
  (30, .iconst 0, 1, 0, 0, .int 0, []),
  (31, .ireturn, 1, 0, 0, .null, [])]
/-- RailPasses$LawText.takeRule()Z -/
def rp_k40 : List rp_En := [(0, .aload_n 0, 1, 0, 0, .null, []),
  (1, .invokevirtual 54, 3, 41, 1, .null, []),
  (4, .istore_n 1, 1, 1, 0, .null, []),
  (5, .iload_n 1, 1, 1, 0, .null, []),
  (6, .iconst (-1), 1, 0, 0, .int (-1), []),
  (7, .if_icmp .eq 18, 3, 25, 0, .null, []),
  (10, .aload_n 0, 1, 0, 0, .null, []),
  (11, .iload_n 1, 1, 1, 0, .null, []),
  (12, .invokevirtual 40, 3, 44, 2, .null, []),
  (15, .ifCond .eq 12, 3, 27, 0, .null, []),
  (18, .iload_n 1, 1, 1, 0, .null, []),
  (19, .invokestatic 58, 3, 45, 1, .null, []),
  (22, .ifCond .ne 5, 3, 27, 0, .null, []),
  (25, .iconst 0, 1, 0, 0, .int 0, []),
  (26, .ireturn, 1, 0, 0, .null, []),
  (27, .aload_n 0, 1, 0, 0, .null, []),
  (28, .dup, 1, 0, 0, .null, []),
  (29, .getfield 51, 3, 1, 5, .null, []),
  (32, .iconst 1, 1, 0, 0, .int 1, []),
  (33, .iload_n 1, 1, 1, 0, .null, []),
  (34, .ishl, 1, 0, 0, .null, []),
  (35, .ior, 1, 0, 0, .null, []),
  (36, .putfield 51, 3, 1, 5, .null, []),
  (39, .aload_n 0, 1, 0, 0, .null, []),
  (40, .invokevirtual 30, 3, 37, 1, .null, []),
  (43, .iload_n 1, 1, 1, 0, .null, []),
  (44, .iconst 1, 1, 0, 0, .int 1, []),
  (45, .if_icmp .ne 10, 3, 55, 0, .null, []),
  (48, .aload_n 0, 1, 0, 0, .null, []),
  (49, .invokevirtual 61, 3, 46, 1, .null, []),
  (52, .goto 23, 3, 75, 0, .null, []),
  (55, .iload_n 1, 1, 1, 0, .null, []),
  (56, .invokestatic 58, 3, 45, 1, .null, []),
  (59, .ifCond .eq 11, 3, 70, 0, .null, []),
  (62, .aload_n 0, 1, 0, 0, .null, []),
  (63, .iload_n 1, 1, 1, 0, .null, []),
  (64, .invokevirtual 64, 3, 49, 2, .null, []),
  (67, .goto 8, 3, 75, 0, .null, []),
  (70, .aload_n 0, 1, 0, 0, .null, []),
  (71, .iload_n 1, 1, 1, 0, .null, []),
  (72, .invokevirtual 67, 3, 52, 2, .null, []),
  (75, .istore_n 2, 1, 2, 0, .null, []),
  (76, .iload_n 2, 1, 2, 0, .null, []),
  (77, .ifCond .eq 17, 3, 94, 0, .null, []),
  (80, .iload_n 1, 1, 1, 0, .null, []),
  (81, .iconst 4, 1, 0, 0, .int 4, []),
  (82, .if_icmp .ne 14, 3, 96, 0, .null, []),
  (85, .aload_n 0, 1, 0, 0, .null, []),
  (86, .ldc 70, 2, 0, 0, .ref 1011, []),
  (88, .invokevirtual 72, 3, 48, 2, .null, []),
  (91, .ifCond .ne 5, 3, 96, 0, .null, []),
  (94, .iconst 0, 1, 0, 0, .int 0, []),
  (95, .ireturn, 1, 0, 0, .null, []),
  (96, .aload_n 0, 1, 0, 0, .null, []),
  (97, .invokevirtual 76, 3, 53, 1, .null, []),
  (100, .ireturn, 1, 0, 0, .null, [])]
/-- RailPasses$LawText.kindAtHand()I -/
def rp_k41 : List rp_En := [(0, .iconst 1, 1, 0, 0, .int 1, []),
  (1, .istore_n 1, 1, 1, 0, .null, []),
  (2, .iload_n 1, 1, 1, 0, .null, []),
  (3, .bipush 11, 2, 0, 0, .int 11, []),
  (5, .if_icmp .ge 22, 3, 27, 0, .null, []),
  (8, .aload_n 0, 1, 0, 0, .null, []),
  (9, .iload_n 1, 1, 1, 0, .null, []),
  (10, .invokestatic 98, 3, 42, 1, .null, []),
  (13, .invokevirtual 92, 3, 43, 2, .null, []),
  (16, .ifCond .eq 5, 3, 21, 0, .null, []),
  (19, .iload_n 1, 1, 1, 0, .null, []),
  (20, .ireturn, 1, 0, 0, .null, []),
  (21, .iinc 1 1, 3, 1, 0, .int 1, []),
  (24, .goto (-22), 3, 2, 0, .null, []),
  (27, .iconst (-1), 1, 0, 0, .int (-1), []),
  (28, .ireturn, 1, 0, 0, .null, [])]
/-- RailPasses$LawText.wordOf(I)Ljava/lang/String; -/
def rp_k42 : List rp_En := [(0, .iload_n 0, 1, 0, 0, .null, []),
  (1, .tableswitch 78 1 9 #[51, 54, 57, 60, 63, 66, 69, 72, 75], 51, 79, 0, .null, [(1, 52), (2, 55), (3, 58), (4, 61), (5, 64), (6, 67), (7, 70), (8, 73), (9, 76)]),
  (52, .ldc 102, 2, 0, 0, .ref 1000, []),
  (54, .areturn, 1, 0, 0, .null, []),
  (55, .ldc 104, 2, 0, 0, .ref 1001, []),
  (57, .areturn, 1, 0, 0, .null, []),
  (58, .ldc 106, 2, 0, 0, .ref 1002, []),
  (60, .areturn, 1, 0, 0, .null, []),
  (61, .ldc 108, 2, 0, 0, .ref 1003, []),
  (63, .areturn, 1, 0, 0, .null, []),
  (64, .ldc 110, 2, 0, 0, .ref 1004, []),
  (66, .areturn, 1, 0, 0, .null, []),
  (67, .ldc 112, 2, 0, 0, .ref 1005, []),
  (69, .areturn, 1, 0, 0, .null, []),
  (70, .ldc 114, 2, 0, 0, .ref 1006, []),
  (72, .areturn, 1, 0, 0, .null, []),
  (73, .ldc 116, 2, 0, 0, .ref 1007, []),
  (75, .areturn, 1, 0, 0, .null, []),
  (76, .ldc 118, 2, 0, 0, .ref 1008, []),
  (78, .areturn, 1, 0, 0, .null, []),
  (79, .ldc 120, 2, 0, 0, .ref 1009, []),
  (81, .areturn, 1, 0, 0, .null, [])]
/-- RailPasses$LawText.isAtHand(Ljava/lang/String;)Z -/
def rp_k43 : List rp_En := [(0, .aload_n 0, 1, 0, 0, .null, []),
  (1, .getfield 48, 3, 1, 3, .null, []),
  (4, .aload_n 0, 1, 0, 0, .null, []),
  (5, .getfield 33, 3, 1, 2, .null, []),
  (8, .isub, 1, 0, 0, .null, []),
  (9, .aload_n 1, 1, 1, 0, .null, []),
  (10, .invokevirtual 129, 3, 5003, 1, .null, []),
  (13, .if_icmp .eq 5, 3, 18, 0, .null, []),
  (16, .iconst 0, 1, 0, 0, .int 0, []),
  (17, .ireturn, 1, 0, 0, .null, []),
  (18, .iconst 0, 1, 0, 0, .int 0, []),
  (19, .istore_n 2, 1, 2, 0, .null, []),
  (20, .iload_n 2, 1, 2, 0, .null, []),
  (21, .aload_n 1, 1, 1, 0, .null, []),
  (22, .invokevirtual 129, 3, 5003, 1, .null, []),
  (25, .if_icmp .ge 29, 3, 54, 0, .null, []),
  (28, .aload_n 0, 1, 0, 0, .null, []),
  (29, .aload_n 0, 1, 0, 0, .null, []),
  (30, .getfield 33, 3, 1, 2, .null, []),
  (33, .iload_n 2, 1, 2, 0, .null, []),
  (34, .iadd, 1, 0, 0, .null, []),
  (35, .invokevirtual 95, 3, 38, 2, .null, []),
  (38, .aload_n 1, 1, 1, 0, .null, []),
  (39, .iload_n 2, 1, 2, 0, .null, []),
  (40, .invokevirtual 134, 3, 5004, 2, .null, []),
  (43, .if_icmp .eq 5, 3, 48, 0, .null, []),
  (46, .iconst 0, 1, 0, 0, .int 0, []),
  (47, .ireturn, 1, 0, 0, .null, []),
  (48, .iinc 2 1, 3, 2, 0, .int 1, []),
  (51, .goto (-31), 3, 20, 0, .null, []),
  (54, .iconst 1, 1, 0, 0, .int 1, []),
  (55, .ireturn, 1, 0, 0, .null, [])]
/-- RailPasses$LawText.isSeen(I)Z -/
def rp_k44 : List rp_En := [(0, .aload_n 0, 1, 0, 0, .null, []),
  (1, .getfield 51, 3, 1, 5, .null, []),
  (4, .iload_n 1, 1, 1, 0, .null, []),
  (5, .ishr, 1, 0, 0, .null, []),
  (6, .iconst 1, 1, 0, 0, .int 1, []),
  (7, .iand, 1, 0, 0, .null, []),
  (8, .iconst 1, 1, 0, 0, .int 1, []),
  (9, .if_icmp .ne 7, 3, 16, 0, .null, []),
  (12, .iconst 1, 1, 0, 0, .int 1, []),
  (13, .goto 4, 3, 17, 0, .null, []),
  (16, .iconst 0, 1, 0, 0, .int 0, []),
  (17, .ireturn, 1, 0, 0, .null, [])]
/-- RailPasses$LawText.mayRepeat(I)Z -/
def rp_k45 : List rp_En := [(0, .iload_n 0, 1, 0, 0, .null, []),
  (1, .iconst 3, 1, 0, 0, .int 3, []),
  (2, .if_icmp .eq 8, 3, 10, 0, .null, []),
  (5, .iload_n 0, 1, 0, 0, .null, []),
  (6, .iconst 4, 1, 0, 0, .int 4, []),
  (7, .if_icmp .ne 7, 3, 14, 0, .null, []),
  (10, .iconst 1, 1, 0, 0, .int 1, []),
  (11, .goto 4, 3, 15, 0, .null, []),
  (14, .iconst 0, 1, 0, 0, .int 0, []),
  (15, .ireturn, 1, 0, 0, .null, [])]
/-- RailPasses$LawText.takeDays()Z -/
def rp_k46 : List rp_En := [(0, .aload_n 0, 1, 0, 0, .null, []),
  (1, .iconst 1, 1, 0, 0, .int 1, []),
  (2, .bipush 60, 2, 0, 0, .int 60, []),
  (4, .invokevirtual 83, 3, 47, 3, .null, []),
  (7, .istore_n 1, 1, 1, 0, .null, []),
  (8, .iload_n 1, 1, 1, 0, .null, []),
  (9, .iconst (-1), 1, 0, 0, .int (-1), []),
  (10, .if_icmp .ne 5, 3, 15, 0, .null, []),
  (13, .iconst 0, 1, 0, 0, .int 0, []),
  (14, .ireturn, 1, 0, 0, .null, []),
  (15, .aload_n 0, 1, 0, 0, .null, []),
  (16, .invokevirtual 30, 3, 37, 1, .null, []),
  (19, .aload_n 0, 1, 0, 0, .null, []),
  (20, .ldc 87, 2, 0, 0, .ref 1010, []),
  (22, .invokevirtual 72, 3, 48, 2, .null, []),
  (25, .ifCond .ne 5, 3, 30, 0, .null, []),
  (28, .iconst 0, 1, 0, 0, .int 0, []),
  (29, .ireturn, 1, 0, 0, .null, []),
  (30, .aload_n 0, 1, 0, 0, .null, []),
  (31, .iload_n 1, 1, 1, 0, .null, []),
  (32, .bipush 60, 2, 0, 0, .int 60, []),
  (34, .invokevirtual 83, 3, 47, 3, .null, []),
  (37, .istore_n 2, 1, 2, 0, .null, []),
  (38, .iload_n 2, 1, 2, 0, .null, []),
  (39, .iconst (-1), 1, 0, 0, .int (-1), []),
  (40, .if_icmp .ne 5, 3, 45, 0, .null, []),
  (43, .iconst 0, 1, 0, 0, .int 0, []),
  (44, .ireturn, 1, 0, 0, .null, []),
  (45, .aload_n 0, 1, 0, 0, .null, []),
  (46, .invokevirtual 30, 3, 37, 1, .null, []),
  (49, .aload_n 0, 1, 0, 0, .null, []),
  (50, .iconst 0, 1, 0, 0, .int 0, []),
  (51, .iload_n 1, 1, 1, 0, .null, []),
  (52, .invokevirtual 44, 3, 36, 3, .null, []),
  (55, .aload_n 0, 1, 0, 0, .null, []),
  (56, .iconst 1, 1, 0, 0, .int 1, []),
  (57, .iload_n 2, 1, 2, 0, .null, []),
  (58, .invokevirtual 44, 3, 36, 3, .null, []),
  (61, .iconst 1, 1, 0, 0, .int 1, []),
  (62, .ireturn, 1, 0, 0, .null, [])]
/-- RailPasses$LawText.numberAtHand(II)I -/
def rp_k47 : List rp_En := [(0, .aload_n 0, 1, 0, 0, .null, []),
  (1, .aload_n 0, 1, 0, 0, .null, []),
  (2, .getfield 33, 3, 1, 2, .null, []),
  (5, .invokevirtual 95, 3, 38, 2, .null, []),
  (8, .invokestatic 122, 3, 39, 1, .null, []),
  (11, .iconst 2, 1, 0, 0, .int 2, []),
  (12, .if_icmp .ne 16, 3, 28, 0, .null, []),
  (15, .aload_n 0, 1, 0, 0, .null, []),
  (16, .getfield 48, 3, 1, 3, .null, []),
  (19, .aload_n 0, 1, 0, 0, .null, []),
  (20, .getfield 33, 3, 1, 2, .null, []),
  (23, .isub, 1, 0, 0, .null, []),
  (24, .iconst 3, 1, 0, 0, .int 3, []),
  (25, .if_icmp .le 5, 3, 30, 0, .null, []),
  (28, .iconst (-1), 1, 0, 0, .int (-1), []),
  (29, .ireturn, 1, 0, 0, .null, []),
  (30, .iconst 0, 1, 0, 0, .int 0, []),
  (31, .istore_n 3, 1, 3, 0, .null, []),
  (32, .aload_n 0, 1, 0, 0, .null, []),
  (33, .getfield 33, 3, 1, 2, .null, []),
  (36, .istore 4, 2, 4, 0, .null, []),
  (38, .iload 4, 2, 4, 0, .null, []),
  (40, .aload_n 0, 1, 0, 0, .null, []),
  (41, .getfield 48, 3, 1, 3, .null, []),
  (44, .if_icmp .ge 24, 3, 68, 0, .null, []),
  (47, .bipush 10, 2, 0, 0, .int 10, []),
  (49, .iload_n 3, 1, 3, 0, .null, []),
  (50, .imul, 1, 0, 0, .null, []),
  (51, .aload_n 0, 1, 0, 0, .null, []),
  (52, .iload 4, 2, 4, 0, .null, []),
  (54, .invokevirtual 95, 3, 38, 2, .null, []),
  (57, .iadd, 1, 0, 0, .null, []),
  (58, .bipush 48, 2, 0, 0, .int 48, []),
  (60, .isub, 1, 0, 0, .null, []),
  (61, .istore_n 3, 1, 3, 0, .null, []),
  (62, .iinc 4 1, 3, 4, 0, .int 1, []),
  (65, .goto (-27), 3, 38, 0, .null, []),
  (68, .iload_n 3, 1, 3, 0, .null, []),
  (69, .iload_n 1, 1, 1, 0, .null, []),
  (70, .iload_n 2, 1, 2, 0, .null, []),
  (71, .invokestatic 125, 3, 15, 3, .null, []),
  (74, .ifCond .eq 7, 3, 81, 0, .null, []),
  (77, .iload_n 3, 1, 3, 0, .null, []),
  (78, .goto 4, 3, 82, 0, .null, []),
  (81, .iconst (-1), 1, 0, 0, .int (-1), []),
  (82, .ireturn, 1, 0, 0, .null, [])]
/-- RailPasses$LawText.takeWord(Ljava/lang/String;)Z -/
def rp_k48 : List rp_En := [(0, .aload_n 0, 1, 0, 0, .null, []),
  (1, .aload_n 1, 1, 1, 0, .null, []),
  (2, .invokevirtual 92, 3, 43, 2, .null, []),
  (5, .ifCond .ne 5, 3, 10, 0, .null, []),
  (8, .iconst 0, 1, 0, 0, .int 0, []),
  (9, .ireturn, 1, 0, 0, .null, []),
  (10, .aload_n 0, 1, 0, 0, .null, []),
  (11, .invokevirtual 30, 3, 37, 1, .null, []),
  (14, .iconst 1, 1, 0, 0, .int 1, []),
  (15, .ireturn, 1, 0, 0, .null, [])]
/-- RailPasses$LawText.takeBit(I)Z -/
def rp_k49 : List rp_En := [(0, .aload_n 0, 1, 0, 0, .null, []),
  (1, .iconst 0, 1, 0, 0, .int 0, []),
  (2, .iload_n 1, 1, 1, 0, .null, []),
  (3, .invokestatic 79, 3, 50, 1, .null, []),
  (6, .invokevirtual 83, 3, 47, 3, .null, []),
  (9, .istore_n 2, 1, 2, 0, .null, []),
  (10, .iload_n 2, 1, 2, 0, .null, []),
  (11, .iconst (-1), 1, 0, 0, .int (-1), []),
  (12, .if_icmp .eq 16, 3, 28, 0, .null, []),
  (15, .aload_n 0, 1, 0, 0, .null, []),
  (16, .iload_n 1, 1, 1, 0, .null, []),
  (17, .invokevirtual 89, 3, 51, 2, .null, []),
  (20, .iload_n 2, 1, 2, 0, .null, []),
  (21, .ishr, 1, 0, 0, .null, []),
  (22, .iconst 1, 1, 0, 0, .int 1, []),
  (23, .iand, 1, 0, 0, .null, []),
  (24, .iconst 1, 1, 0, 0, .int 1, []),
  (25, .if_icmp .ne 5, 3, 30, 0, .null, []),
  (28, .iconst 0, 1, 0, 0, .int 0, []),
  (29, .ireturn, 1, 0, 0, .null, []),
  (30, .aload_n 0, 1, 0, 0, .null, []),
  (31, .iload_n 1, 1, 1, 0, .null, []),
  (32, .aload_n 0, 1, 0, 0, .null, []),
  (33, .iload_n 1, 1, 1, 0, .null, []),
  (34, .invokevirtual 89, 3, 51, 2, .null, []),
  (37, .iconst 1, 1, 0, 0, .int 1, []),
  (38, .iload_n 2, 1, 2, 0, .null, []),
  (39, .ishl, 1, 0, 0, .null, []),
  (40, .ior, 1, 0, 0, .null, []),
  (41, .invokevirtual 44, 3, 36, 3, .null, []),
  (44, .aload_n 0, 1, 0, 0, .null, []),
  (45, .invokevirtual 30, 3, 37, 1, .null, []),
  (48, .iconst 1, 1, 0, 0, .int 1, []),
  (49, .ireturn, 1, 0, 0, .null, [])]
/-- RailPasses$LawText.greatest(I)I -/
def rp_k50 : List rp_En := [(0, .iload_n 0, 1, 0, 0, .null, []),
  (1, .tableswitch 47 2 6 #[35, 39, 41, 44, 35], 35, 48, 0, .null, [(2, 36), (3, 40), (4, 42), (5, 45), (6, 36)]),
  (36, .sipush 999, 3, 0, 0, .int 999, []),
  (39, .ireturn, 1, 0, 0, .null, []),
  (40, .iconst 4, 1, 0, 0, .int 4, []),
  (41, .ireturn, 1, 0, 0, .null, []),
  (42, .bipush 13, 2, 0, 0, .int 13, []),
  (44, .ireturn, 1, 0, 0, .null, []),
  (45, .bipush 23, 2, 0, 0, .int 23, []),
  (47, .ireturn, 1, 0, 0, .null, []),
  (48, .bipush 100, 2, 0, 0, .int 100, []),
  (50, .ireturn, 1, 0, 0, .null, [])]
/-- RailPasses$LawText.term(I)I -/
def rp_k51 : List rp_En := [(0, .iload_n 1, 1, 1, 0, .null, []),
  (1, .ifCond .lt 21, 3, 22, 0, .null, []),
  (4, .iload_n 1, 1, 1, 0, .null, []),
  (5, .aload_n 0, 1, 0, 0, .null, []),
  (6, .getfield 15, 3, 1, 4, .null, []),
  (9, .arraylength, 1, 0, 0, .null, []),
  (10, .if_icmp .ge 12, 3, 22, 0, .null, []),
  (13, .aload_n 0, 1, 0, 0, .null, []),
  (14, .getfield 15, 3, 1, 4, .null, []),
  (17, .iload_n 1, 1, 1, 0, .null, []),
  (18, .iaload, 1, 0, 0, .null, []),
  (19, .goto 4, 3, 23, 0, .null, []),
  (22, .iconst 0, 1, 0, 0, .int 0, []),
  (23, .ireturn, 1, 0, 0, .null, [])]
/-- RailPasses$LawText.takeTerm(I)Z -/
def rp_k52 : List rp_En := [(0, .aload_n 0, 1, 0, 0, .null, []),
  (1, .iconst 0, 1, 0, 0, .int 0, []),
  (2, .iload_n 1, 1, 1, 0, .null, []),
  (3, .invokestatic 79, 3, 50, 1, .null, []),
  (6, .invokevirtual 83, 3, 47, 3, .null, []),
  (9, .istore_n 2, 1, 2, 0, .null, []),
  (10, .iload_n 2, 1, 2, 0, .null, []),
  (11, .iconst (-1), 1, 0, 0, .int (-1), []),
  (12, .if_icmp .ne 5, 3, 17, 0, .null, []),
  (15, .iconst 0, 1, 0, 0, .int 0, []),
  (16, .ireturn, 1, 0, 0, .null, []),
  (17, .aload_n 0, 1, 0, 0, .null, []),
  (18, .iload_n 1, 1, 1, 0, .null, []),
  (19, .iload_n 2, 1, 2, 0, .null, []),
  (20, .invokevirtual 44, 3, 36, 3, .null, []),
  (23, .aload_n 0, 1, 0, 0, .null, []),
  (24, .invokevirtual 30, 3, 37, 1, .null, []),
  (27, .iconst 1, 1, 0, 0, .int 1, []),
  (28, .ireturn, 1, 0, 0, .null, [])]
/-- RailPasses$LawText.takeSemicolon()Z -/
def rp_k53 : List rp_En := [(0, .aload_n 0, 1, 0, 0, .null, []),
  (1, .aload_n 0, 1, 0, 0, .null, []),
  (2, .getfield 33, 3, 1, 2, .null, []),
  (5, .invokevirtual 95, 3, 38, 2, .null, []),
  (8, .bipush 59, 2, 0, 0, .int 59, []),
  (10, .if_icmp .eq 5, 3, 15, 0, .null, []),
  (13, .iconst 0, 1, 0, 0, .int 0, []),
  (14, .ireturn, 1, 0, 0, .null, []),
  (15, .aload_n 0, 1, 0, 0, .null, []),
  (16, .invokevirtual 30, 3, 37, 1, .null, []),
  (19, .iconst 1, 1, 0, 0, .int 1, []),
  (20, .ireturn, 1, 0, 0, .null, [])]
/-- RailPasses$LawText.empty()V -/
def rp_k54 : List rp_En := [(0, .aload_n 0, 1, 0, 0, .null, []),
  (1, .iconst 0, 1, 0, 0, .int 0, []),
  (2, .putfield 18, 3, 1, 1, .null, []),
  (5, .return_, 1, 0, 0, .null, [])]
/-- RailPasses.isLaw(I)Z -/
def rp_k55 : List rp_En := [(0, .iload_n 0, 1, 0, 0, .null, []),
  (1, .iconst 0, 1, 0, 0, .int 0, []),
  (2, .iconst 2, 1, 0, 0, .int 2, []),
  (3, .invokestatic 61, 3, 15, 3, .null, []),
  (6, .ireturn, 1, 0, 0, .null, [])]
/-- RailPasses$LawText.rules()I -/
def rp_k56 : List rp_En := [(0, .aload_n 0, 1, 0, 0, .null, []),
  (1, .getfield 22, 3, 1, 6, .null, []),
  (4, .ireturn, 1, 0, 0, .null, [])]
/-- RailPasses.law(II)I -/
def rp_k57 : List rp_En := [(0, .iload_n 1, 1, 1, 0, .null, []),
  (1, .invokestatic 124, 3, 55, 1, .null, []),
  (4, .ifCond .eq 13, 3, 17, 0, .null, []),
  (7, .iload_n 2, 1, 2, 0, .null, []),
  (8, .iconst 0, 1, 0, 0, .int 0, []),
  (9, .bipush 10, 2, 0, 0, .int 10, []),
  (11, .invokestatic 61, 3, 15, 3, .null, []),
  (14, .ifCond .ne 5, 3, 19, 0, .null, []),
  (17, .iconst (-1), 1, 0, 0, .int (-1), []),
  (18, .ireturn, 1, 0, 0, .null, []),
  (19, .aload_n 0, 1, 0, 0, .null, []),
  (20, .getfield 12, 3, 7, 0, .null, []),
  (23, .iload_n 1, 1, 1, 0, .null, []),
  (24, .invokevirtual 137, 3, 58, 2, .null, []),
  (27, .ifCond .eq 18, 3, 45, 0, .null, []),
  (30, .aload_n 0, 1, 0, 0, .null, []),
  (31, .getfield 12, 3, 7, 0, .null, []),
  (34, .getfield 127, 3, 0, 2, .null, []),
  (37, .iload_n 1, 1, 1, 0, .null, []),
  (38, .iload_n 2, 1, 2, 0, .null, []),
  (39, .invokevirtual 103, 3, 20, 3, .null, []),
  (42, .goto 5, 3, 47, 0, .null, []),
  (45, .bipush (-3), 2, 0, 0, .int (-3), []),
  (47, .ireturn, 1, 0, 0, .null, [])]
/-- RailPasses$Book.isLawThere(I)Z -/
def rp_k58 : List rp_En := [(0, .aload_n 0, 1, 0, 0, .null, []),
  (1, .getfield 23, 3, 0, 2, .null, []),
  (4, .iload_n 1, 1, 1, 0, .null, []),
  (5, .bipush 11, 2, 0, 0, .int 11, []),
  (7, .invokevirtual 50, 3, 20, 3, .null, []),
  (10, .iconst 1, 1, 0, 0, .int 1, []),
  (11, .if_icmp .ne 7, 3, 18, 0, .null, []),
  (14, .iconst 1, 1, 0, 0, .int 1, []),
  (15, .goto 4, 3, 19, 0, .null, []),
  (18, .iconst 0, 1, 0, 0, .int 0, []),
  (19, .ireturn, 1, 0, 0, .null, [])]
/-- RailPasses.sell(IIZ)I -/
def rp_k59 : List rp_En := [(0, .iload_n 1, 1, 1, 0, .null, []),
  (1, .invokestatic 124, 3, 55, 1, .null, []),
  (4, .ifCond .eq 10, 3, 14, 0, .null, []),
  (7, .iload_n 2, 1, 2, 0, .null, []),
  (8, .invokestatic 140, 3, 60, 1, .null, []),
  (11, .ifCond .ne 5, 3, 16, 0, .null, []),
  (14, .iconst (-1), 1, 0, 0, .int (-1), []),
  (15, .ireturn, 1, 0, 0, .null, []),
  (16, .aload_n 0, 1, 0, 0, .null, []),
  (17, .getfield 12, 3, 7, 0, .null, []),
  (20, .iload_n 1, 1, 1, 0, .null, []),
  (21, .invokevirtual 137, 3, 58, 2, .null, []),
  (24, .ifCond .ne 6, 3, 30, 0, .null, []),
  (27, .bipush (-3), 2, 0, 0, .int (-3), []),
  (29, .ireturn, 1, 0, 0, .null, []),
  (30, .aload_n 0, 1, 0, 0, .null, []),
  (31, .getfield 12, 3, 7, 0, .null, []),
  (34, .getfield 143, 3, 0, 3, .null, []),
  (37, .invokevirtual 69, 3, 4, 1, .null, []),
  (40, .ifCond .eq 6, 3, 46, 0, .null, []),
  (43, .bipush (-2), 2, 0, 0, .int (-2), []),
  (45, .ireturn, 1, 0, 0, .null, []),
  (46, .aload_n 0, 1, 0, 0, .null, []),
  (47, .getfield 12, 3, 7, 0, .null, []),
  (50, .iload_n 1, 1, 1, 0, .null, []),
  (51, .iload_n 2, 1, 2, 0, .null, []),
  (52, .iload_n 3, 1, 3, 0, .null, []),
  (53, .invokevirtual 146, 3, 61, 4, .null, []),
  (56, .ireturn, 1, 0, 0, .null, [])]
/-- RailPasses.isDay(I)Z -/
def rp_k60 : List rp_En := [(0, .iload_n 0, 1, 0, 0, .null, []),
  (1, .iconst 0, 1, 0, 0, .int 0, []),
  (2, .bipush 120, 2, 0, 0, .int 120, []),
  (4, .invokestatic 61, 3, 15, 3, .null, []),
  (7, .ireturn, 1, 0, 0, .null, [])]
/-- RailPasses$Book.addPass(IIZ)I -/
def rp_k61 : List rp_En := [(0, .aload_n 0, 1, 0, 0, .null, []),
  (1, .getfield 26, 3, 0, 3, .null, []),
  (4, .invokevirtual 38, 3, 3, 1, .null, []),
  (7, .istore 4, 2, 4, 0, .null, []),
  (9, .iconst 0, 1, 0, 0, .int 0, []),
  (10, .istore 5, 2, 5, 0, .null, []),
  (12, .iload 5, 2, 5, 0, .null, []),
  (14, .bipush 11, 2, 0, 0, .int 11, []),
  (16, .if_icmp .ge 30, 3, 46, 0, .null, []),
  (19, .aload_n 0, 1, 0, 0, .null, []),
  (20, .getfield 26, 3, 0, 3, .null, []),
  (23, .iload 4, 2, 4, 0, .null, []),
  (25, .iload 5, 2, 5, 0, .null, []),
  (27, .aload_n 0, 1, 0, 0, .null, []),
  (28, .getfield 23, 3, 0, 2, .null, []),
  (31, .iload_n 1, 1, 1, 0, .null, []),
  (32, .iload 5, 2, 5, 0, .null, []),
  (34, .invokevirtual 50, 3, 20, 3, .null, []),
  (37, .invokevirtual 57, 3, 5, 4, .null, []),
  (40, .iinc 5 1, 3, 5, 0, .int 1, []),
  (43, .goto (-31), 3, 12, 0, .null, []),
  (46, .aload_n 0, 1, 0, 0, .null, []),
  (47, .getfield 23, 3, 0, 2, .null, []),
  (50, .iload_n 1, 1, 1, 0, .null, []),
  (51, .iconst 2, 1, 0, 0, .int 2, []),
  (52, .invokevirtual 50, 3, 20, 3, .null, []),
  (55, .istore 5, 2, 5, 0, .null, []),
  (57, .aload_n 0, 1, 0, 0, .null, []),
  (58, .getfield 26, 3, 0, 3, .null, []),
  (61, .iload 4, 2, 4, 0, .null, []),
  (63, .bipush 11, 2, 0, 0, .int 11, []),
  (65, .iload_n 3, 1, 3, 0, .null, []),
  (66, .ifCond .eq 21, 3, 87, 0, .null, []),
  (69, .iload 5, 2, 5, 0, .null, []),
  (71, .aload_n 0, 1, 0, 0, .null, []),
  (72, .getfield 23, 3, 0, 2, .null, []),
  (75, .iload_n 1, 1, 1, 0, .null, []),
  (76, .bipush 8, 2, 0, 0, .int 8, []),
  (78, .invokevirtual 50, 3, 20, 3, .null, []),
  (81, .invokestatic 54, 3, 62, 2, .null, []),
  (84, .goto 5, 3, 89, 0, .null, []),
  (87, .iload 5, 2, 5, 0, .null, []),
  (89, .invokevirtual 57, 3, 5, 4, .null, []),
  (92, .aload_n 0, 1, 0, 0, .null, []),
  (93, .getfield 26, 3, 0, 3, .null, []),
  (96, .iload 4, 2, 4, 0, .null, []),
  (98, .bipush 12, 2, 0, 0, .int 12, []),
  (100, .iload_n 1, 1, 1, 0, .null, []),
  (101, .invokevirtual 57, 3, 5, 4, .null, []),
  (104, .aload_n 0, 1, 0, 0, .null, []),
  (105, .getfield 26, 3, 0, 3, .null, []),
  (108, .iload 4, 2, 4, 0, .null, []),
  (110, .bipush 13, 2, 0, 0, .int 13, []),
  (112, .iload_n 2, 1, 2, 0, .null, []),
  (113, .invokevirtual 57, 3, 5, 4, .null, []),
  (116, .iload 4, 2, 4, 0, .null, []),
  (118, .ireturn, 1, 0, 0, .null, [])]
/-- RailPasses.percents(II)I -/
def rp_k62 : List rp_En := [(0, .iload_n 0, 1, 0, 0, .null, []),
  (1, .iload_n 1, 1, 1, 0, .null, []),
  (2, .imul, 1, 0, 0, .null, []),
  (3, .bipush 100, 2, 0, 0, .int 100, []),
  (5, .idiv, 1, 0, 0, .null, []),
  (6, .ireturn, 1, 0, 0, .null, [])]
/-- RailPasses.pass(II)I -/
def rp_k63 : List rp_En := [(0, .aload_n 0, 1, 0, 0, .null, []),
  (1, .getfield 12, 3, 7, 0, .null, []),
  (4, .getfield 143, 3, 0, 3, .null, []),
  (7, .iload_n 1, 1, 1, 0, .null, []),
  (8, .invokevirtual 91, 3, 25, 2, .null, []),
  (11, .ifCond .ne 5, 3, 16, 0, .null, []),
  (14, .iconst (-1), 1, 0, 0, .int (-1), []),
  (15, .ireturn, 1, 0, 0, .null, []),
  (16, .iload_n 2, 1, 2, 0, .null, []),
  (17, .tableswitch 152 0 8 #[51, 65, 79, 93, 102, 111, 120, 134, 143], 51, 169, 0, .null, [(0, 68), (1, 82), (2, 96), (3, 110), (4, 119), (5, 128), (6, 137), (7, 151), (8, 160)]),
  (68, .aload_n 0, 1, 0, 0, .null, []),
  (69, .getfield 12, 3, 7, 0, .null, []),
  (72, .getfield 143, 3, 0, 3, .null, []),
  (75, .iload_n 1, 1, 1, 0, .null, []),
  (76, .bipush 11, 2, 0, 0, .int 11, []),
  (78, .invokevirtual 103, 3, 20, 3, .null, []),
  (81, .ireturn, 1, 0, 0, .null, []),
  (82, .aload_n 0, 1, 0, 0, .null, []),
  (83, .getfield 12, 3, 7, 0, .null, []),
  (86, .getfield 143, 3, 0, 3, .null, []),
  (89, .iload_n 1, 1, 1, 0, .null, []),
  (90, .bipush 12, 2, 0, 0, .int 12, []),
  (92, .invokevirtual 103, 3, 20, 3, .null, []),
  (95, .ireturn, 1, 0, 0, .null, []),
  (96, .aload_n 0, 1, 0, 0, .null, []),
  (97, .getfield 12, 3, 7, 0, .null, []),
  (100, .getfield 143, 3, 0, 3, .null, []),
  (103, .iload_n 1, 1, 1, 0, .null, []),
  (104, .bipush 13, 2, 0, 0, .int 13, []),
  (106, .invokevirtual 103, 3, 20, 3, .null, []),
  (109, .ireturn, 1, 0, 0, .null, []),
  (110, .aload_n 0, 1, 0, 0, .null, []),
  (111, .getfield 12, 3, 7, 0, .null, []),
  (114, .iload_n 1, 1, 1, 0, .null, []),
  (115, .invokevirtual 150, 3, 64, 2, .null, []),
  (118, .ireturn, 1, 0, 0, .null, []),
  (119, .aload_n 0, 1, 0, 0, .null, []),
  (120, .getfield 12, 3, 7, 0, .null, []),
  (123, .iload_n 1, 1, 1, 0, .null, []),
  (124, .invokevirtual 153, 3, 66, 2, .null, []),
  (127, .ireturn, 1, 0, 0, .null, []),
  (128, .aload_n 0, 1, 0, 0, .null, []),
  (129, .getfield 12, 3, 7, 0, .null, []),
  (132, .iload_n 1, 1, 1, 0, .null, []),
  (133, .invokevirtual 156, 3, 67, 2, .null, []),
  (136, .ireturn, 1, 0, 0, .null, []),
  (137, .aload_n 0, 1, 0, 0, .null, []),
  (138, .getfield 12, 3, 7, 0, .null, []),
  (141, .getfield 143, 3, 0, 3, .null, []),
  (144, .iload_n 1, 1, 1, 0, .null, []),
  (145, .bipush 14, 2, 0, 0, .int 14, []),
  (147, .invokevirtual 103, 3, 20, 3, .null, []),
  (150, .ireturn, 1, 0, 0, .null, []),
  (151, .aload_n 0, 1, 0, 0, .null, []),
  (152, .getfield 12, 3, 7, 0, .null, []),
  (155, .iload_n 1, 1, 1, 0, .null, []),
  (156, .invokevirtual 159, 3, 68, 2, .null, []),
  (159, .ireturn, 1, 0, 0, .null, []),
  (160, .aload_n 0, 1, 0, 0, .null, []),
  (161, .getfield 12, 3, 7, 0, .null, []),
  (164, .iload_n 1, 1, 1, 0, .null, []),
  (165, .invokevirtual 162, 3, 70, 2, .null, []),
  (168, .ireturn, 1, 0, 0, .null, []),
  (169, .iconst (-1), 1, 0, 0, .int (-1), []),
  (170, .ireturn, 1, 0, 0, .null, [])]
/-- RailPasses$Book.countedDays(I)I -/
def rp_k64 : List rp_En := [(0, .iconst 0, 1, 0, 0, .int 0, []),
  (1, .istore_n 2, 1, 2, 0, .null, []),
  (2, .iconst 0, 1, 0, 0, .int 0, []),
  (3, .istore_n 3, 1, 3, 0, .null, []),
  (4, .iload_n 3, 1, 3, 0, .null, []),
  (5, .aload_n 0, 1, 0, 0, .null, []),
  (6, .getfield 29, 3, 0, 4, .null, []),
  (9, .invokevirtual 80, 3, 19, 1, .null, []),
  (12, .if_icmp .ge 43, 3, 55, 0, .null, []),
  (15, .aload_n 0, 1, 0, 0, .null, []),
  (16, .getfield 29, 3, 0, 4, .null, []),
  (19, .iload_n 3, 1, 3, 0, .null, []),
  (20, .iconst 0, 1, 0, 0, .int 0, []),
  (21, .invokevirtual 50, 3, 20, 3, .null, []),
  (24, .iload_n 1, 1, 1, 0, .null, []),
  (25, .if_icmp .ne 24, 3, 49, 0, .null, []),
  (28, .aload_n 0, 1, 0, 0, .null, []),
  (29, .iload_n 1, 1, 1, 0, .null, []),
  (30, .aload_n 0, 1, 0, 0, .null, []),
  (31, .getfield 29, 3, 0, 4, .null, []),
  (34, .iload_n 3, 1, 3, 0, .null, []),
  (35, .iconst 3, 1, 0, 0, .int 3, []),
  (36, .invokevirtual 50, 3, 20, 3, .null, []),
  (39, .iload_n 3, 1, 3, 0, .null, []),
  (40, .invokevirtual 83, 3, 65, 4, .null, []),
  (43, .ifCond .ne 6, 3, 49, 0, .null, []),
  (46, .iinc 2 1, 3, 2, 0, .int 1, []),
  (49, .iinc 3 1, 3, 3, 0, .int 1, []),
  (52, .goto (-48), 3, 4, 0, .null, []),
  (55, .iload_n 2, 1, 2, 0, .null, []),
  (56, .ireturn, 1, 0, 0, .null, [])]
/-- RailPasses$Book.isCounted(III)Z -/
def rp_k65 : List rp_En := [(0, .iconst 0, 1, 0, 0, .int 0, []),
  (1, .istore 4, 2, 4, 0, .null, []),
  (3, .iload 4, 2, 4, 0, .null, []),
  (5, .iload_n 3, 1, 3, 0, .null, []),
  (6, .if_icmp .ge 51, 3, 57, 0, .null, []),
  (9, .iload 4, 2, 4, 0, .null, []),
  (11, .aload_n 0, 1, 0, 0, .null, []),
  (12, .getfield 29, 3, 0, 4, .null, []),
  (15, .invokevirtual 80, 3, 19, 1, .null, []),
  (18, .if_icmp .ge 39, 3, 57, 0, .null, []),
  (21, .aload_n 0, 1, 0, 0, .null, []),
  (22, .getfield 29, 3, 0, 4, .null, []),
  (25, .iload 4, 2, 4, 0, .null, []),
  (27, .iconst 0, 1, 0, 0, .int 0, []),
  (28, .invokevirtual 50, 3, 20, 3, .null, []),
  (31, .iload_n 1, 1, 1, 0, .null, []),
  (32, .if_icmp .ne 19, 3, 51, 0, .null, []),
  (35, .aload_n 0, 1, 0, 0, .null, []),
  (36, .getfield 29, 3, 0, 4, .null, []),
  (39, .iload 4, 2, 4, 0, .null, []),
  (41, .iconst 3, 1, 0, 0, .int 3, []),
  (42, .invokevirtual 50, 3, 20, 3, .null, []),
  (45, .iload_n 2, 1, 2, 0, .null, []),
  (46, .if_icmp .ne 5, 3, 51, 0, .null, []),
  (49, .iconst 1, 1, 0, 0, .int 1, []),
  (50, .ireturn, 1, 0, 0, .null, []),
  (51, .iinc 4 1, 3, 4, 0, .int 1, []),
  (54, .goto (-51), 3, 3, 0, .null, []),
  (57, .iconst 0, 1, 0, 0, .int 0, []),
  (58, .ireturn, 1, 0, 0, .null, [])]
/-- RailPasses$Book.ridesBy(I)I -/
def rp_k66 : List rp_En := [(0, .iconst 0, 1, 0, 0, .int 0, []),
  (1, .istore_n 2, 1, 2, 0, .null, []),
  (2, .iconst 0, 1, 0, 0, .int 0, []),
  (3, .istore_n 3, 1, 3, 0, .null, []),
  (4, .iload_n 3, 1, 3, 0, .null, []),
  (5, .aload_n 0, 1, 0, 0, .null, []),
  (6, .getfield 29, 3, 0, 4, .null, []),
  (9, .invokevirtual 80, 3, 19, 1, .null, []),
  (12, .if_icmp .ge 25, 3, 37, 0, .null, []),
  (15, .aload_n 0, 1, 0, 0, .null, []),
  (16, .getfield 29, 3, 0, 4, .null, []),
  (19, .iload_n 3, 1, 3, 0, .null, []),
  (20, .iconst 0, 1, 0, 0, .int 0, []),
  (21, .invokevirtual 50, 3, 20, 3, .null, []),
  (24, .iload_n 1, 1, 1, 0, .null, []),
  (25, .if_icmp .ne 6, 3, 31, 0, .null, []),
  (28, .iinc 2 1, 3, 2, 0, .int 1, []),
  (31, .iinc 3 1, 3, 3, 0, .int 1, []),
  (34, .goto (-30), 3, 4, 0, .null, []),
  (37, .iload_n 2, 1, 2, 0, .null, []),
  (38, .ireturn, 1, 0, 0, .null, [])]
/-- RailPasses$Book.paidBy(I)I -/
def rp_k67 : List rp_En := [(0, .iconst 0, 1, 0, 0, .int 0, []),
  (1, .istore_n 2, 1, 2, 0, .null, []),
  (2, .iconst 0, 1, 0, 0, .int 0, []),
  (3, .istore_n 3, 1, 3, 0, .null, []),
  (4, .iload_n 3, 1, 3, 0, .null, []),
  (5, .aload_n 0, 1, 0, 0, .null, []),
  (6, .getfield 29, 3, 0, 4, .null, []),
  (9, .invokevirtual 80, 3, 19, 1, .null, []),
  (12, .if_icmp .ge 34, 3, 46, 0, .null, []),
  (15, .aload_n 0, 1, 0, 0, .null, []),
  (16, .getfield 29, 3, 0, 4, .null, []),
  (19, .iload_n 3, 1, 3, 0, .null, []),
  (20, .iconst 0, 1, 0, 0, .int 0, []),
  (21, .invokevirtual 50, 3, 20, 3, .null, []),
  (24, .iload_n 1, 1, 1, 0, .null, []),
  (25, .if_icmp .ne 15, 3, 40, 0, .null, []),
  (28, .iload_n 2, 1, 2, 0, .null, []),
  (29, .aload_n 0, 1, 0, 0, .null, []),
  (30, .getfield 29, 3, 0, 4, .null, []),
  (33, .iload_n 3, 1, 3, 0, .null, []),
  (34, .iconst 4, 1, 0, 0, .int 4, []),
  (35, .invokevirtual 50, 3, 20, 3, .null, []),
  (38, .iadd, 1, 0, 0, .null, []),
  (39, .istore_n 2, 1, 2, 0, .null, []),
  (40, .iinc 3 1, 3, 3, 0, .int 1, []),
  (43, .goto (-39), 3, 4, 0, .null, []),
  (46, .iload_n 2, 1, 2, 0, .null, []),
  (47, .ireturn, 1, 0, 0, .null, [])]
/-- RailPasses$Book.refund(I)I -/
def rp_k68 : List rp_En := [(0, .aload_n 0, 1, 0, 0, .null, []),
  (1, .getfield 26, 3, 0, 3, .null, []),
  (4, .iload_n 1, 1, 1, 0, .null, []),
  (5, .iconst 0, 1, 0, 0, .int 0, []),
  (6, .invokevirtual 50, 3, 20, 3, .null, []),
  (9, .istore_n 2, 1, 2, 0, .null, []),
  (10, .iload_n 2, 1, 2, 0, .null, []),
  (11, .ifCond .gt 5, 3, 16, 0, .null, []),
  (14, .iconst 0, 1, 0, 0, .int 0, []),
  (15, .ireturn, 1, 0, 0, .null, []),
  (16, .aload_n 0, 1, 0, 0, .null, []),
  (17, .getfield 26, 3, 0, 3, .null, []),
  (20, .iload_n 1, 1, 1, 0, .null, []),
  (21, .aload_n 0, 1, 0, 0, .null, []),
  (22, .iload_n 1, 1, 1, 0, .null, []),
  (23, .invokevirtual 61, 3, 69, 2, .null, []),
  (26, .ifCond .eq 8, 3, 34, 0, .null, []),
  (29, .bipush 10, 2, 0, 0, .int 10, []),
  (31, .goto 5, 3, 36, 0, .null, []),
  (34, .bipush 9, 2, 0, 0, .int 9, []),
  (36, .invokevirtual 50, 3, 20, 3, .null, []),
  (39, .istore_n 3, 1, 3, 0, .null, []),
  (40, .aload_n 0, 1, 0, 0, .null, []),
  (41, .getfield 26, 3, 0, 3, .null, []),
  (44, .iload_n 1, 1, 1, 0, .null, []),
  (45, .bipush 11, 2, 0, 0, .int 11, []),
  (47, .invokevirtual 50, 3, 20, 3, .null, []),
  (50, .iload_n 2, 1, 2, 0, .null, []),
  (51, .aload_n 0, 1, 0, 0, .null, []),
  (52, .iload_n 1, 1, 1, 0, .null, []),
  (53, .invokevirtual 65, 3, 64, 2, .null, []),
  (56, .isub, 1, 0, 0, .null, []),
  (57, .imul, 1, 0, 0, .null, []),
  (58, .iload_n 3, 1, 3, 0, .null, []),
  (59, .imul, 1, 0, 0, .null, []),
  (60, .bipush 100, 2, 0, 0, .int 100, []),
  (62, .iload_n 2, 1, 2, 0, .null, []),
  (63, .imul, 1, 0, 0, .null, []),
  (64, .idiv, 1, 0, 0, .null, []),
  (65, .ireturn, 1, 0, 0, .null, [])]
/-- RailPasses$Book.isLost(I)Z -/
def rp_k69 : List rp_En := [(0, .aload_n 0, 1, 0, 0, .null, []),
  (1, .getfield 26, 3, 0, 3, .null, []),
  (4, .iload_n 1, 1, 1, 0, .null, []),
  (5, .bipush 14, 2, 0, 0, .int 14, []),
  (7, .invokevirtual 50, 3, 20, 3, .null, []),
  (10, .iconst 1, 1, 0, 0, .int 1, []),
  (11, .if_icmp .ne 7, 3, 18, 0, .null, []),
  (14, .iconst 1, 1, 0, 0, .int 1, []),
  (15, .goto 4, 3, 19, 0, .null, []),
  (18, .iconst 0, 1, 0, 0, .int 0, []),
  (19, .ireturn, 1, 0, 0, .null, [])]
/-- RailPasses$Book.lastGoodDay(I)I -/
def rp_k70 : List rp_En := [(0, .aload_n 0, 1, 0, 0, .null, []),
  (1, .getfield 26, 3, 0, 3, .null, []),
  (4, .iload_n 1, 1, 1, 0, .null, []),
  (5, .bipush 13, 2, 0, 0, .int 13, []),
  (7, .invokevirtual 50, 3, 20, 3, .null, []),
  (10, .aload_n 0, 1, 0, 0, .null, []),
  (11, .getfield 26, 3, 0, 3, .null, []),
  (14, .iload_n 1, 1, 1, 0, .null, []),
  (15, .iconst 1, 1, 0, 0, .int 1, []),
  (16, .invokevirtual 50, 3, 20, 3, .null, []),
  (19, .iadd, 1, 0, 0, .null, []),
  (20, .iconst 1, 1, 0, 0, .int 1, []),
  (21, .isub, 1, 0, 0, .null, []),
  (22, .ireturn, 1, 0, 0, .null, [])]
/-- RailPasses.may(III)I -/
def rp_k71 : List rp_En := [(0, .aload_n 0, 1, 0, 0, .null, []),
  (1, .getfield 12, 3, 7, 0, .null, []),
  (4, .getfield 143, 3, 0, 3, .null, []),
  (7, .iload_n 1, 1, 1, 0, .null, []),
  (8, .invokevirtual 91, 3, 25, 2, .null, []),
  (11, .ifCond .eq 24, 3, 35, 0, .null, []),
  (14, .aload_n 0, 1, 0, 0, .null, []),
  (15, .getfield 12, 3, 7, 0, .null, []),
  (18, .getfield 100, 3, 0, 1, .null, []),
  (21, .iload_n 2, 1, 2, 0, .null, []),
  (22, .invokevirtual 91, 3, 25, 2, .null, []),
  (25, .ifCond .eq 10, 3, 35, 0, .null, []),
  (28, .iload_n 3, 1, 3, 0, .null, []),
  (29, .invokestatic 140, 3, 60, 1, .null, []),
  (32, .ifCond .ne 5, 3, 37, 0, .null, []),
  (35, .iconst (-1), 1, 0, 0, .int (-1), []),
  (36, .ireturn, 1, 0, 0, .null, []),
  (37, .aload_n 0, 1, 0, 0, .null, []),
  (38, .getfield 12, 3, 7, 0, .null, []),
  (41, .iload_n 1, 1, 1, 0, .null, []),
  (42, .iload_n 2, 1, 2, 0, .null, []),
  (43, .iload_n 3, 1, 3, 0, .null, []),
  (44, .invokevirtual 165, 3, 72, 4, .null, []),
  (47, .ireturn, 1, 0, 0, .null, [])]
/-- RailPasses$Book.bar(III)I -/
def rp_k72 : List rp_En := [(0, .aload_n 0, 1, 0, 0, .null, []),
  (1, .aload_n 0, 1, 0, 0, .null, []),
  (2, .getfield 26, 3, 0, 3, .null, []),
  (5, .iload_n 1, 1, 1, 0, .null, []),
  (6, .iload_n 2, 1, 2, 0, .null, []),
  (7, .iload_n 3, 1, 3, 0, .null, []),
  (8, .invokevirtual 69, 3, 73, 5, .null, []),
  (11, .istore 4, 2, 4, 0, .null, []),
  (13, .aload_n 0, 1, 0, 0, .null, []),
  (14, .aload_n 0, 1, 0, 0, .null, []),
  (15, .getfield 26, 3, 0, 3, .null, []),
  (18, .iload_n 1, 1, 1, 0, .null, []),
  (19, .iload_n 2, 1, 2, 0, .null, []),
  (20, .invokevirtual 73, 3, 74, 4, .null, []),
  (23, .ifCond .ne 5, 3, 28, 0, .null, []),
  (26, .iconst 1, 1, 0, 0, .int 1, []),
  (27, .ireturn, 1, 0, 0, .null, []),
  (28, .iload 4, 2, 4, 0, .null, []),
  (30, .aload_n 0, 1, 0, 0, .null, []),
  (31, .getfield 26, 3, 0, 3, .null, []),
  (34, .iload_n 1, 1, 1, 0, .null, []),
  (35, .bipush 13, 2, 0, 0, .int 13, []),
  (37, .invokevirtual 50, 3, 20, 3, .null, []),
  (40, .if_icmp .lt 13, 3, 53, 0, .null, []),
  (43, .iload 4, 2, 4, 0, .null, []),
  (45, .aload_n 0, 1, 0, 0, .null, []),
  (46, .iload_n 1, 1, 1, 0, .null, []),
  (47, .invokevirtual 77, 3, 70, 2, .null, []),
  (50, .if_icmp .le 5, 3, 55, 0, .null, []),
  (53, .iconst 2, 1, 0, 0, .int 2, []),
  (54, .ireturn, 1, 0, 0, .null, []),
  (55, .aload_n 0, 1, 0, 0, .null, []),
  (56, .iload_n 1, 1, 1, 0, .null, []),
  (57, .invokevirtual 61, 3, 69, 2, .null, []),
  (60, .ifCond .eq 5, 3, 65, 0, .null, []),
  (63, .iconst 3, 1, 0, 0, .int 3, []),
  (64, .ireturn, 1, 0, 0, .null, []),
  (65, .aload_n 0, 1, 0, 0, .null, []),
  (66, .iload_n 1, 1, 1, 0, .null, []),
  (67, .iload 4, 2, 4, 0, .null, []),
  (69, .aload_n 0, 1, 0, 0, .null, []),
  (70, .getfield 29, 3, 0, 4, .null, []),
  (73, .invokevirtual 80, 3, 19, 1, .null, []),
  (76, .invokevirtual 83, 3, 65, 4, .null, []),
  (79, .ifCond .ne 22, 3, 101, 0, .null, []),
  (82, .aload_n 0, 1, 0, 0, .null, []),
  (83, .iload_n 1, 1, 1, 0, .null, []),
  (84, .invokevirtual 65, 3, 64, 2, .null, []),
  (87, .aload_n 0, 1, 0, 0, .null, []),
  (88, .getfield 26, 3, 0, 3, .null, []),
  (91, .iload_n 1, 1, 1, 0, .null, []),
  (92, .iconst 0, 1, 0, 0, .int 0, []),
  (93, .invokevirtual 50, 3, 20, 3, .null, []),
  (96, .if_icmp .lt 5, 3, 101, 0, .null, []),
  (99, .iconst 4, 1, 0, 0, .int 4, []),
  (100, .ireturn, 1, 0, 0, .null, []),
  (101, .aload_n 0, 1, 0, 0, .null, []),
  (102, .getfield 20, 3, 0, 1, .null, []),
  (105, .iload_n 2, 1, 2, 0, .null, []),
  (106, .iconst 5, 1, 0, 0, .int 5, []),
  (107, .invokevirtual 50, 3, 20, 3, .null, []),
  (110, .iconst 1, 1, 0, 0, .int 1, []),
  (111, .if_icmp .ne 24, 3, 135, 0, .null, []),
  (114, .aload_n 0, 1, 0, 0, .null, []),
  (115, .iload_n 2, 1, 2, 0, .null, []),
  (116, .iload_n 3, 1, 3, 0, .null, []),
  (117, .invokevirtual 87, 3, 75, 3, .null, []),
  (120, .aload_n 0, 1, 0, 0, .null, []),
  (121, .getfield 20, 3, 0, 1, .null, []),
  (124, .iload_n 2, 1, 2, 0, .null, []),
  (125, .bipush 7, 2, 0, 0, .int 7, []),
  (127, .invokevirtual 50, 3, 20, 3, .null, []),
  (130, .if_icmp .lt 5, 3, 135, 0, .null, []),
  (133, .iconst 5, 1, 0, 0, .int 5, []),
  (134, .ireturn, 1, 0, 0, .null, []),
  (135, .iconst 0, 1, 0, 0, .int 0, []),
  (136, .ireturn, 1, 0, 0, .null, [])]
/-- RailPasses$Book.countedDay(LRailPasses$Table;III)I -/
def rp_k73 : List rp_En := [(0, .aload_n 0, 1, 0, 0, .null, []),
  (1, .getfield 20, 3, 0, 1, .null, []),
  (4, .iload_n 3, 1, 3, 0, .null, []),
  (5, .iconst 3, 1, 0, 0, .int 3, []),
  (6, .invokevirtual 50, 3, 20, 3, .null, []),
  (9, .aload_n 1, 1, 1, 0, .null, []),
  (10, .iload_n 2, 1, 2, 0, .null, []),
  (11, .iconst 5, 1, 0, 0, .int 5, []),
  (12, .invokevirtual 50, 3, 20, 3, .null, []),
  (15, .bipush 60, 2, 0, 0, .int 60, []),
  (17, .imul, 1, 0, 0, .null, []),
  (18, .if_icmp .lt 7, 3, 25, 0, .null, []),
  (21, .iconst 1, 1, 0, 0, .int 1, []),
  (22, .goto 4, 3, 26, 0, .null, []),
  (25, .iconst 0, 1, 0, 0, .int 0, []),
  (26, .istore 5, 2, 5, 0, .null, []),
  (28, .aload_n 0, 1, 0, 0, .null, []),
  (29, .getfield 20, 3, 0, 1, .null, []),
  (32, .iload_n 3, 1, 3, 0, .null, []),
  (33, .bipush 8, 2, 0, 0, .int 8, []),
  (35, .invokevirtual 50, 3, 20, 3, .null, []),
  (38, .iconst 1, 1, 0, 0, .int 1, []),
  (39, .if_icmp .ne 15, 3, 54, 0, .null, []),
  (42, .iload 5, 2, 5, 0, .null, []),
  (44, .ifCond .eq 10, 3, 54, 0, .null, []),
  (47, .iload 4, 2, 4, 0, .null, []),
  (49, .iconst 1, 1, 0, 0, .int 1, []),
  (50, .iadd, 1, 0, 0, .null, []),
  (51, .goto 5, 3, 56, 0, .null, []),
  (54, .iload 4, 2, 4, 0, .null, []),
  (56, .ireturn, 1, 0, 0, .null, [])]
/-- RailPasses$Book.lets(LRailPasses$Table;II)Z -/
def rp_k74 : List rp_En := [(0, .aload_n 0, 1, 0, 0, .null, []),
  (1, .getfield 20, 3, 0, 1, .null, []),
  (4, .iload_n 3, 1, 3, 0, .null, []),
  (5, .iconst 0, 1, 0, 0, .int 0, []),
  (6, .invokevirtual 50, 3, 20, 3, .null, []),
  (9, .istore 4, 2, 4, 0, .null, []),
  (11, .aload_n 0, 1, 0, 0, .null, []),
  (12, .getfield 14, 3, 0, 0, .null, []),
  (15, .iload 4, 2, 4, 0, .null, []),
  (17, .iconst 2, 1, 0, 0, .int 2, []),
  (18, .invokevirtual 50, 3, 20, 3, .null, []),
  (21, .istore 5, 2, 5, 0, .null, []),
  (23, .aload_n 1, 1, 1, 0, .null, []),
  (24, .iload_n 2, 1, 2, 0, .null, []),
  (25, .iconst 3, 1, 0, 0, .int 3, []),
  (26, .invokevirtual 50, 3, 20, 3, .null, []),
  (29, .iload 5, 2, 5, 0, .null, []),
  (31, .ishr, 1, 0, 0, .null, []),
  (32, .iconst 1, 1, 0, 0, .int 1, []),
  (33, .iand, 1, 0, 0, .null, []),
  (34, .iconst 1, 1, 0, 0, .int 1, []),
  (35, .if_icmp .ne 7, 3, 42, 0, .null, []),
  (38, .iconst 1, 1, 0, 0, .int 1, []),
  (39, .goto 4, 3, 43, 0, .null, []),
  (42, .iconst 0, 1, 0, 0, .int 0, []),
  (43, .istore 6, 2, 6, 0, .null, []),
  (45, .aload_n 1, 1, 1, 0, .null, []),
  (46, .iload_n 2, 1, 2, 0, .null, []),
  (47, .iconst 4, 1, 0, 0, .int 4, []),
  (48, .invokevirtual 50, 3, 20, 3, .null, []),
  (51, .iload 4, 2, 4, 0, .null, []),
  (53, .ishr, 1, 0, 0, .null, []),
  (54, .iconst 1, 1, 0, 0, .int 1, []),
  (55, .iand, 1, 0, 0, .null, []),
  (56, .iconst 1, 1, 0, 0, .int 1, []),
  (57, .if_icmp .ne 7, 3, 64, 0, .null, []),
  (60, .iconst 1, 1, 0, 0, .int 1, []),
  (61, .goto 4, 3, 65, 0, .null, []),
  (64, .iconst 0, 1, 0, 0, .int 0, []),
  (65, .istore 7, 2, 7, 0, .null, []),
  (67, .iload 6, 2, 6, 0, .null, []),
  (69, .ifCond .eq 12, 3, 81, 0, .null, []),
  (72, .iload 7, 2, 7, 0, .null, []),
  (74, .ifCond .ne 7, 3, 81, 0, .null, []),
  (77, .iconst 1, 1, 0, 0, .int 1, []),
  (78, .goto 4, 3, 82, 0, .null, []),
  (81, .iconst 0, 1, 0, 0, .int 0, []),
  (82, .ireturn, 1, 0, 0, .null, [])]
/-- RailPasses$Book.ridesOn(II)I -/
def rp_k75 : List rp_En := [(0, .iconst 0, 1, 0, 0, .int 0, []),
  (1, .istore_n 3, 1, 3, 0, .null, []),
  (2, .iconst 0, 1, 0, 0, .int 0, []),
  (3, .istore 4, 2, 4, 0, .null, []),
  (5, .iload 4, 2, 4, 0, .null, []),
  (7, .aload_n 0, 1, 0, 0, .null, []),
  (8, .getfield 29, 3, 0, 4, .null, []),
  (11, .invokevirtual 80, 3, 19, 1, .null, []),
  (14, .if_icmp .ge 40, 3, 54, 0, .null, []),
  (17, .aload_n 0, 1, 0, 0, .null, []),
  (18, .getfield 29, 3, 0, 4, .null, []),
  (21, .iload 4, 2, 4, 0, .null, []),
  (23, .iconst 1, 1, 0, 0, .int 1, []),
  (24, .invokevirtual 50, 3, 20, 3, .null, []),
  (27, .iload_n 1, 1, 1, 0, .null, []),
  (28, .if_icmp .ne 20, 3, 48, 0, .null, []),
  (31, .aload_n 0, 1, 0, 0, .null, []),
  (32, .getfield 29, 3, 0, 4, .null, []),
  (35, .iload 4, 2, 4, 0, .null, []),
  (37, .iconst 2, 1, 0, 0, .int 2, []),
  (38, .invokevirtual 50, 3, 20, 3, .null, []),
  (41, .iload_n 2, 1, 2, 0, .null, []),
  (42, .if_icmp .ne 6, 3, 48, 0, .null, []),
  (45, .iinc 3 1, 3, 3, 0, .int 1, []),
  (48, .iinc 4 1, 3, 4, 0, .int 1, []),
  (51, .goto (-46), 3, 5, 0, .null, []),
  (54, .iload_n 3, 1, 3, 0, .null, []),
  (55, .ireturn, 1, 0, 0, .null, [])]
/-- RailPasses.ride(III)I -/
def rp_k76 : List rp_En := [(0, .aload_n 0, 1, 0, 0, .null, []),
  (1, .getfield 12, 3, 7, 0, .null, []),
  (4, .getfield 143, 3, 0, 3, .null, []),
  (7, .iload_n 1, 1, 1, 0, .null, []),
  (8, .invokevirtual 91, 3, 25, 2, .null, []),
  (11, .ifCond .eq 24, 3, 35, 0, .null, []),
  (14, .aload_n 0, 1, 0, 0, .null, []),
  (15, .getfield 12, 3, 7, 0, .null, []),
  (18, .getfield 100, 3, 0, 1, .null, []),
  (21, .iload_n 2, 1, 2, 0, .null, []),
  (22, .invokevirtual 91, 3, 25, 2, .null, []),
  (25, .ifCond .eq 10, 3, 35, 0, .null, []),
  (28, .iload_n 3, 1, 3, 0, .null, []),
  (29, .invokestatic 140, 3, 60, 1, .null, []),
  (32, .ifCond .ne 5, 3, 37, 0, .null, []),
  (35, .iconst (-1), 1, 0, 0, .int (-1), []),
  (36, .ireturn, 1, 0, 0, .null, []),
  (37, .aload_n 0, 1, 0, 0, .null, []),
  (38, .getfield 12, 3, 7, 0, .null, []),
  (41, .getfield 169, 3, 0, 4, .null, []),
  (44, .invokevirtual 69, 3, 4, 1, .null, []),
  (47, .ifCond .eq 6, 3, 53, 0, .null, []),
  (50, .bipush (-2), 2, 0, 0, .int (-2), []),
  (52, .ireturn, 1, 0, 0, .null, []),
  (53, .aload_n 0, 1, 0, 0, .null, []),
  (54, .getfield 12, 3, 7, 0, .null, []),
  (57, .iload_n 1, 1, 1, 0, .null, []),
  (58, .iload_n 2, 1, 2, 0, .null, []),
  (59, .iload_n 3, 1, 3, 0, .null, []),
  (60, .invokevirtual 165, 3, 72, 4, .null, []),
  (63, .ifCond .eq 6, 3, 69, 0, .null, []),
  (66, .bipush (-4), 2, 0, 0, .int (-4), []),
  (68, .ireturn, 1, 0, 0, .null, []),
  (69, .aload_n 0, 1, 0, 0, .null, []),
  (70, .getfield 12, 3, 7, 0, .null, []),
  (73, .iload_n 1, 1, 1, 0, .null, []),
  (74, .iload_n 2, 1, 2, 0, .null, []),
  (75, .iload_n 3, 1, 3, 0, .null, []),
  (76, .invokevirtual 172, 3, 77, 4, .null, []),
  (79, .istore 4, 2, 4, 0, .null, []),
  (81, .aload_n 0, 1, 0, 0, .null, []),
  (82, .getfield 12, 3, 7, 0, .null, []),
  (85, .getfield 169, 3, 0, 4, .null, []),
  (88, .iload 4, 2, 4, 0, .null, []),
  (90, .iconst 4, 1, 0, 0, .int 4, []),
  (91, .invokevirtual 103, 3, 20, 3, .null, []),
  (94, .ireturn, 1, 0, 0, .null, [])]
/-- RailPasses$Book.addRide(III)I -/
def rp_k77 : List rp_En := [(0, .aload_n 0, 1, 0, 0, .null, []),
  (1, .getfield 29, 3, 0, 4, .null, []),
  (4, .invokevirtual 38, 3, 3, 1, .null, []),
  (7, .istore 4, 2, 4, 0, .null, []),
  (9, .aload_n 0, 1, 0, 0, .null, []),
  (10, .getfield 29, 3, 0, 4, .null, []),
  (13, .iload 4, 2, 4, 0, .null, []),
  (15, .iconst 0, 1, 0, 0, .int 0, []),
  (16, .iload_n 1, 1, 1, 0, .null, []),
  (17, .invokevirtual 57, 3, 5, 4, .null, []),
  (20, .aload_n 0, 1, 0, 0, .null, []),
  (21, .getfield 29, 3, 0, 4, .null, []),
  (24, .iload 4, 2, 4, 0, .null, []),
  (26, .iconst 1, 1, 0, 0, .int 1, []),
  (27, .iload_n 2, 1, 2, 0, .null, []),
  (28, .invokevirtual 57, 3, 5, 4, .null, []),
  (31, .aload_n 0, 1, 0, 0, .null, []),
  (32, .getfield 29, 3, 0, 4, .null, []),
  (35, .iload 4, 2, 4, 0, .null, []),
  (37, .iconst 2, 1, 0, 0, .int 2, []),
  (38, .iload_n 3, 1, 3, 0, .null, []),
  (39, .invokevirtual 57, 3, 5, 4, .null, []),
  (42, .aload_n 0, 1, 0, 0, .null, []),
  (43, .getfield 29, 3, 0, 4, .null, []),
  (46, .iload 4, 2, 4, 0, .null, []),
  (48, .iconst 3, 1, 0, 0, .int 3, []),
  (49, .aload_n 0, 1, 0, 0, .null, []),
  (50, .aload_n 0, 1, 0, 0, .null, []),
  (51, .getfield 26, 3, 0, 3, .null, []),
  (54, .iload_n 1, 1, 1, 0, .null, []),
  (55, .iload_n 2, 1, 2, 0, .null, []),
  (56, .iload_n 3, 1, 3, 0, .null, []),
  (57, .invokevirtual 69, 3, 73, 5, .null, []),
  (60, .invokevirtual 57, 3, 5, 4, .null, []),
  (63, .aload_n 0, 1, 0, 0, .null, []),
  (64, .getfield 29, 3, 0, 4, .null, []),
  (67, .iload 4, 2, 4, 0, .null, []),
  (69, .iconst 4, 1, 0, 0, .int 4, []),
  (70, .aload_n 0, 1, 0, 0, .null, []),
  (71, .aload_n 0, 1, 0, 0, .null, []),
  (72, .getfield 26, 3, 0, 3, .null, []),
  (75, .iload_n 1, 1, 1, 0, .null, []),
  (76, .iload_n 2, 1, 2, 0, .null, []),
  (77, .invokevirtual 90, 3, 78, 4, .null, []),
  (80, .invokevirtual 57, 3, 5, 4, .null, []),
  (83, .iload 4, 2, 4, 0, .null, []),
  (85, .ireturn, 1, 0, 0, .null, [])]
/-- RailPasses$Book.pays(LRailPasses$Table;II)I -/
def rp_k78 : List rp_En := [(0, .iconst 0, 1, 0, 0, .int 0, []),
  (1, .istore 4, 2, 4, 0, .null, []),
  (3, .aload_n 0, 1, 0, 0, .null, []),
  (4, .getfield 20, 3, 0, 1, .null, []),
  (7, .iload_n 3, 1, 3, 0, .null, []),
  (8, .iconst 5, 1, 0, 0, .int 5, []),
  (9, .invokevirtual 50, 3, 20, 3, .null, []),
  (12, .iconst 1, 1, 0, 0, .int 1, []),
  (13, .if_icmp .ne 15, 3, 28, 0, .null, []),
  (16, .iload 4, 2, 4, 0, .null, []),
  (18, .aload_n 1, 1, 1, 0, .null, []),
  (19, .iload_n 2, 1, 2, 0, .null, []),
  (20, .bipush 6, 2, 0, 0, .int 6, []),
  (22, .invokevirtual 50, 3, 20, 3, .null, []),
  (25, .iadd, 1, 0, 0, .null, []),
  (26, .istore 4, 2, 4, 0, .null, []),
  (28, .aload_n 0, 1, 0, 0, .null, []),
  (29, .getfield 14, 3, 0, 0, .null, []),
  (32, .aload_n 0, 1, 0, 0, .null, []),
  (33, .getfield 20, 3, 0, 1, .null, []),
  (36, .iload_n 3, 1, 3, 0, .null, []),
  (37, .iconst 0, 1, 0, 0, .int 0, []),
  (38, .invokevirtual 50, 3, 20, 3, .null, []),
  (41, .iconst 4, 1, 0, 0, .int 4, []),
  (42, .invokevirtual 50, 3, 20, 3, .null, []),
  (45, .iconst 1, 1, 0, 0, .int 1, []),
  (46, .if_icmp .ne 28, 3, 74, 0, .null, []),
  (49, .iload 4, 2, 4, 0, .null, []),
  (51, .aload_n 0, 1, 0, 0, .null, []),
  (52, .getfield 20, 3, 0, 1, .null, []),
  (55, .iload_n 3, 1, 3, 0, .null, []),
  (56, .bipush 6, 2, 0, 0, .int 6, []),
  (58, .invokevirtual 50, 3, 20, 3, .null, []),
  (61, .aload_n 1, 1, 1, 0, .null, []),
  (62, .iload_n 2, 1, 2, 0, .null, []),
  (63, .bipush 7, 2, 0, 0, .int 7, []),
  (65, .invokevirtual 50, 3, 20, 3, .null, []),
  (68, .invokestatic 54, 3, 62, 2, .null, []),
  (71, .iadd, 1, 0, 0, .null, []),
  (72, .istore 4, 2, 4, 0, .null, []),
  (74, .iload 4, 2, 4, 0, .null, []),
  (76, .ireturn, 1, 0, 0, .null, [])]
/-- RailPasses.rideOf(II)I -/
def rp_k79 : List rp_En := [(0, .aload_n 0, 1, 0, 0, .null, []),
  (1, .getfield 12, 3, 7, 0, .null, []),
  (4, .getfield 169, 3, 0, 4, .null, []),
  (7, .iload_n 1, 1, 1, 0, .null, []),
  (8, .invokevirtual 91, 3, 25, 2, .null, []),
  (11, .ifCond .eq 12, 3, 23, 0, .null, []),
  (14, .iload_n 2, 1, 2, 0, .null, []),
  (15, .iconst 0, 1, 0, 0, .int 0, []),
  (16, .iconst 4, 1, 0, 0, .int 4, []),
  (17, .invokestatic 61, 3, 15, 3, .null, []),
  (20, .ifCond .ne 5, 3, 25, 0, .null, []),
  (23, .iconst (-1), 1, 0, 0, .int (-1), []),
  (24, .ireturn, 1, 0, 0, .null, []),
  (25, .aload_n 0, 1, 0, 0, .null, []),
  (26, .getfield 12, 3, 7, 0, .null, []),
  (29, .getfield 169, 3, 0, 4, .null, []),
  (32, .iload_n 1, 1, 1, 0, .null, []),
  (33, .iload_n 2, 1, 2, 0, .null, []),
  (34, .invokevirtual 103, 3, 20, 3, .null, []),
  (37, .ireturn, 1, 0, 0, .null, [])]
/-- RailPasses.giveBack(I)I -/
def rp_k80 : List rp_En := [(0, .aload_n 0, 1, 0, 0, .null, []),
  (1, .getfield 12, 3, 7, 0, .null, []),
  (4, .getfield 169, 3, 0, 4, .null, []),
  (7, .iload_n 1, 1, 1, 0, .null, []),
  (8, .invokevirtual 91, 3, 25, 2, .null, []),
  (11, .ifCond .ne 5, 3, 16, 0, .null, []),
  (14, .iconst (-1), 1, 0, 0, .int (-1), []),
  (15, .ireturn, 1, 0, 0, .null, []),
  (16, .aload_n 0, 1, 0, 0, .null, []),
  (17, .getfield 12, 3, 7, 0, .null, []),
  (20, .getfield 169, 3, 0, 4, .null, []),
  (23, .iload_n 1, 1, 1, 0, .null, []),
  (24, .invokevirtual 175, 3, 81, 2, .null, []),
  (27, .aload_n 0, 1, 0, 0, .null, []),
  (28, .getfield 12, 3, 7, 0, .null, []),
  (31, .getfield 169, 3, 0, 4, .null, []),
  (34, .invokevirtual 179, 3, 19, 1, .null, []),
  (37, .ireturn, 1, 0, 0, .null, [])]
/-- RailPasses$Table.drop(I)V -/
def rp_k81 : List rp_En := [(0, .aload_n 0, 1, 0, 0, .null, []),
  (1, .iload_n 1, 1, 1, 0, .null, []),
  (2, .invokevirtual 40, 3, 25, 2, .null, []),
  (5, .ifCond .ne 4, 3, 9, 0, .null, []),
  (8, .return_, 1, 0, 0, .null, []),
  (9, .iload_n 1, 1, 1, 0, .null, []),
  (10, .istore_n 2, 1, 2, 0, .null, []),
  (11, .iload_n 2, 1, 2, 0, .null, []),
  (12, .iconst 1, 1, 0, 0, .int 1, []),
  (13, .iadd, 1, 0, 0, .null, []),
  (14, .aload_n 0, 1, 0, 0, .null, []),
  (15, .getfield 26, 3, 5, 3, .null, []),
  (18, .if_icmp .ge 39, 3, 57, 0, .null, []),
  (21, .iconst 0, 1, 0, 0, .int 0, []),
  (22, .istore_n 3, 1, 3, 0, .null, []),
  (23, .iload_n 3, 1, 3, 0, .null, []),
  (24, .aload_n 0, 1, 0, 0, .null, []),
  (25, .getfield 19, 3, 5, 2, .null, []),
  (28, .if_icmp .ge 23, 3, 51, 0, .null, []),
  (31, .aload_n 0, 1, 0, 0, .null, []),
  (32, .iload_n 2, 1, 2, 0, .null, []),
  (33, .iload_n 3, 1, 3, 0, .null, []),
  (34, .aload_n 0, 1, 0, 0, .null, []),
  (35, .iload_n 2, 1, 2, 0, .null, []),
  (36, .iconst 1, 1, 0, 0, .int 1, []),
  (37, .iadd, 1, 0, 0, .null, []),
  (38, .iload_n 3, 1, 3, 0, .null, []),
  (39, .invokevirtual 44, 3, 20, 3, .null, []),
  (42, .invokevirtual 36, 3, 5, 4, .null, []),
  (45, .iinc 3 1, 3, 3, 0, .int 1, []),
  (48, .goto (-25), 3, 23, 0, .null, []),
  (51, .iinc 2 1, 3, 2, 0, .int 1, []),
  (54, .goto (-43), 3, 11, 0, .null, []),
  (57, .aload_n 0, 1, 0, 0, .null, []),
  (58, .dup, 1, 0, 0, .null, []),
  (59, .getfield 26, 3, 5, 3, .null, []),
  (62, .iconst 1, 1, 0, 0, .int 1, []),
  (63, .isub, 1, 0, 0, .null, []),
  (64, .putfield 26, 3, 5, 3, .null, []),
  (67, .return_, 1, 0, 0, .null, [])]
/-- RailPasses.taken(II)I -/
def rp_k82 : List rp_En := [(0, .aload_n 0, 1, 0, 0, .null, []),
  (1, .getfield 12, 3, 7, 0, .null, []),
  (4, .getfield 100, 3, 0, 1, .null, []),
  (7, .iload_n 1, 1, 1, 0, .null, []),
  (8, .invokevirtual 91, 3, 25, 2, .null, []),
  (11, .ifCond .eq 10, 3, 21, 0, .null, []),
  (14, .iload_n 2, 1, 2, 0, .null, []),
  (15, .invokestatic 140, 3, 60, 1, .null, []),
  (18, .ifCond .ne 5, 3, 23, 0, .null, []),
  (21, .iconst (-1), 1, 0, 0, .int (-1), []),
  (22, .ireturn, 1, 0, 0, .null, []),
  (23, .aload_n 0, 1, 0, 0, .null, []),
  (24, .getfield 12, 3, 7, 0, .null, []),
  (27, .iload_n 1, 1, 1, 0, .null, []),
  (28, .iload_n 2, 1, 2, 0, .null, []),
  (29, .invokevirtual 180, 3, 75, 3, .null, []),
  (32, .ireturn, 1, 0, 0, .null, [])]
/-- RailPasses.lose(I)I -/
def rp_k83 : List rp_En := [(0, .aload_n 0, 1, 0, 0, .null, []),
  (1, .getfield 12, 3, 7, 0, .null, []),
  (4, .getfield 143, 3, 0, 3, .null, []),
  (7, .iload_n 1, 1, 1, 0, .null, []),
  (8, .invokevirtual 91, 3, 25, 2, .null, []),
  (11, .ifCond .ne 5, 3, 16, 0, .null, []),
  (14, .iconst (-1), 1, 0, 0, .int (-1), []),
  (15, .ireturn, 1, 0, 0, .null, []),
  (16, .aload_n 0, 1, 0, 0, .null, []),
  (17, .getfield 12, 3, 7, 0, .null, []),
  (20, .iload_n 1, 1, 1, 0, .null, []),
  (21, .invokevirtual 183, 3, 69, 2, .null, []),
  (24, .ifCond .eq 6, 3, 30, 0, .null, []),
  (27, .bipush (-4), 2, 0, 0, .int (-4), []),
  (29, .ireturn, 1, 0, 0, .null, []),
  (30, .aload_n 0, 1, 0, 0, .null, []),
  (31, .getfield 12, 3, 7, 0, .null, []),
  (34, .getfield 143, 3, 0, 3, .null, []),
  (37, .iload_n 1, 1, 1, 0, .null, []),
  (38, .bipush 14, 2, 0, 0, .int 14, []),
  (40, .iconst 1, 1, 0, 0, .int 1, []),
  (41, .invokevirtual 79, 3, 5, 4, .null, []),
  (44, .aload_n 0, 1, 0, 0, .null, []),
  (45, .getfield 12, 3, 7, 0, .null, []),
  (48, .iload_n 1, 1, 1, 0, .null, []),
  (49, .invokevirtual 159, 3, 68, 2, .null, []),
  (52, .ireturn, 1, 0, 0, .null, [])]
/-- RailPasses.wish(II)I -/
def rp_k84 : List rp_En := [(0, .aload_n 0, 1, 0, 0, .null, []),
  (1, .getfield 12, 3, 7, 0, .null, []),
  (4, .getfield 100, 3, 0, 1, .null, []),
  (7, .iload_n 1, 1, 1, 0, .null, []),
  (8, .invokevirtual 91, 3, 25, 2, .null, []),
  (11, .ifCond .eq 10, 3, 21, 0, .null, []),
  (14, .iload_n 2, 1, 2, 0, .null, []),
  (15, .invokestatic 140, 3, 60, 1, .null, []),
  (18, .ifCond .ne 5, 3, 23, 0, .null, []),
  (21, .iconst (-1), 1, 0, 0, .int (-1), []),
  (22, .ireturn, 1, 0, 0, .null, []),
  (23, .aload_n 0, 1, 0, 0, .null, []),
  (24, .getfield 12, 3, 7, 0, .null, []),
  (27, .getfield 186, 3, 0, 5, .null, []),
  (30, .invokevirtual 69, 3, 4, 1, .null, []),
  (33, .ifCond .eq 6, 3, 39, 0, .null, []),
  (36, .bipush (-2), 2, 0, 0, .int (-2), []),
  (38, .ireturn, 1, 0, 0, .null, []),
  (39, .aload_n 0, 1, 0, 0, .null, []),
  (40, .getfield 12, 3, 7, 0, .null, []),
  (43, .getfield 186, 3, 0, 5, .null, []),
  (46, .invokevirtual 75, 3, 3, 1, .null, []),
  (49, .istore_n 3, 1, 3, 0, .null, []),
  (50, .aload_n 0, 1, 0, 0, .null, []),
  (51, .getfield 12, 3, 7, 0, .null, []),
  (54, .getfield 186, 3, 0, 5, .null, []),
  (57, .iload_n 3, 1, 3, 0, .null, []),
  (58, .iconst 0, 1, 0, 0, .int 0, []),
  (59, .iload_n 1, 1, 1, 0, .null, []),
  (60, .invokevirtual 79, 3, 5, 4, .null, []),
  (63, .aload_n 0, 1, 0, 0, .null, []),
  (64, .getfield 12, 3, 7, 0, .null, []),
  (67, .getfield 186, 3, 0, 5, .null, []),
  (70, .iload_n 3, 1, 3, 0, .null, []),
  (71, .iconst 1, 1, 0, 0, .int 1, []),
  (72, .iload_n 2, 1, 2, 0, .null, []),
  (73, .invokevirtual 79, 3, 5, 4, .null, []),
  (76, .aload_n 0, 1, 0, 0, .null, []),
  (77, .getfield 12, 3, 7, 0, .null, []),
  (80, .getfield 186, 3, 0, 5, .null, []),
  (83, .invokevirtual 179, 3, 19, 1, .null, []),
  (86, .ireturn, 1, 0, 0, .null, [])]
/-- RailPasses.unwish()I -/
def rp_k85 : List rp_En := [(0, .aload_n 0, 1, 0, 0, .null, []),
  (1, .getfield 12, 3, 7, 0, .null, []),
  (4, .getfield 186, 3, 0, 5, .null, []),
  (7, .invokevirtual 179, 3, 19, 1, .null, []),
  (10, .ifCond .ne 6, 3, 16, 0, .null, []),
  (13, .bipush (-3), 2, 0, 0, .int (-3), []),
  (15, .ireturn, 1, 0, 0, .null, []),
  (16, .aload_n 0, 1, 0, 0, .null, []),
  (17, .getfield 12, 3, 7, 0, .null, []),
  (20, .getfield 186, 3, 0, 5, .null, []),
  (23, .aload_n 0, 1, 0, 0, .null, []),
  (24, .getfield 12, 3, 7, 0, .null, []),
  (27, .getfield 186, 3, 0, 5, .null, []),
  (30, .invokevirtual 179, 3, 19, 1, .null, []),
  (33, .iconst 1, 1, 0, 0, .int 1, []),
  (34, .isub, 1, 0, 0, .null, []),
  (35, .invokevirtual 175, 3, 81, 2, .null, []),
  (38, .aload_n 0, 1, 0, 0, .null, []),
  (39, .getfield 12, 3, 7, 0, .null, []),
  (42, .getfield 186, 3, 0, 5, .null, []),
  (45, .invokevirtual 179, 3, 19, 1, .null, []),
  (48, .ireturn, 1, 0, 0, .null, [])]
/-- RailPasses.choice(I)I -/
def rp_k86 : List rp_En := [(0, .iload_n 1, 1, 1, 0, .null, []),
  (1, .iconst 0, 1, 0, 0, .int 0, []),
  (2, .bipush 14, 2, 0, 0, .int 14, []),
  (4, .invokestatic 61, 3, 15, 3, .null, []),
  (7, .ifCond .ne 5, 3, 12, 0, .null, []),
  (10, .iconst (-1), 1, 0, 0, .int (-1), []),
  (11, .ireturn, 1, 0, 0, .null, []),
  (12, .aload_n 0, 1, 0, 0, .null, []),
  (13, .getfield 36, 3, 7, 5, .null, []),
  (16, .aload_n 0, 1, 0, 0, .null, []),
  (17, .getfield 12, 3, 7, 0, .null, []),
  (20, .invokevirtual 189, 3, 87, 2, .null, []),
  (23, .iload_n 1, 1, 1, 0, .null, []),
  (24, .tableswitch 76 0 4 #[36, 44, 52, 60, 68], 36, 100, 0, .null, [(0, 60), (1, 68), (2, 76), (3, 84), (4, 92)]),
  (60, .aload_n 0, 1, 0, 0, .null, []),
  (61, .getfield 36, 3, 7, 5, .null, []),
  (64, .invokevirtual 193, 3, 100, 1, .null, []),
  (67, .ireturn, 1, 0, 0, .null, []),
  (68, .aload_n 0, 1, 0, 0, .null, []),
  (69, .getfield 36, 3, 7, 5, .null, []),
  (72, .invokevirtual 196, 3, 101, 1, .null, []),
  (75, .ireturn, 1, 0, 0, .null, []),
  (76, .aload_n 0, 1, 0, 0, .null, []),
  (77, .getfield 36, 3, 7, 5, .null, []),
  (80, .invokevirtual 199, 3, 102, 1, .null, []),
  (83, .ireturn, 1, 0, 0, .null, []),
  (84, .aload_n 0, 1, 0, 0, .null, []),
  (85, .getfield 36, 3, 7, 5, .null, []),
  (88, .invokevirtual 202, 3, 103, 1, .null, []),
  (91, .ireturn, 1, 0, 0, .null, []),
  (92, .aload_n 0, 1, 0, 0, .null, []),
  (93, .getfield 36, 3, 7, 5, .null, []),
  (96, .invokevirtual 205, 3, 104, 1, .null, []),
  (99, .ireturn, 1, 0, 0, .null, []),
  (100, .aload_n 0, 1, 0, 0, .null, []),
  (101, .getfield 36, 3, 7, 5, .null, []),
  (104, .iload_n 1, 1, 1, 0, .null, []),
  (105, .iconst 5, 1, 0, 0, .int 5, []),
  (106, .isub, 1, 0, 0, .null, []),
  (107, .invokevirtual 208, 3, 105, 2, .null, []),
  (110, .ireturn, 1, 0, 0, .null, [])]
/-- RailPasses$Plan.choose(LRailPasses$Book;)V -/
def rp_k87 : List rp_En := [(0, .aload_n 0, 1, 0, 0, .null, []),
  (1, .aload_n 1, 1, 1, 0, .null, []),
  (2, .bipush (-3), 2, 0, 0, .int (-3), []),
  (4, .invokevirtual 101, 3, 88, 3, .null, []),
  (7, .aload_n 0, 1, 0, 0, .null, []),
  (8, .aload_n 0, 1, 0, 0, .null, []),
  (9, .getfield 25, 3, 3, 7, .null, []),
  (12, .putfield 105, 3, 3, 8, .null, []),
  (15, .aload_n 0, 1, 0, 0, .null, []),
  (16, .bipush (-3), 2, 0, 0, .int (-3), []),
  (18, .putfield 108, 3, 3, 9, .null, []),
  (21, .aload_n 0, 1, 0, 0, .null, []),
  (22, .bipush (-3), 2, 0, 0, .int (-3), []),
  (24, .putfield 111, 3, 3, 10, .null, []),
  (27, .iconst 0, 1, 0, 0, .int 0, []),
  (28, .istore_n 2, 1, 2, 0, .null, []),
  (29, .iload_n 2, 1, 2, 0, .null, []),
  (30, .iconst 3, 1, 0, 0, .int 3, []),
  (31, .if_icmp .ge 68, 3, 99, 0, .null, []),
  (34, .aload_n 0, 1, 0, 0, .null, []),
  (35, .aload_n 1, 1, 1, 0, .null, []),
  (36, .iload_n 2, 1, 2, 0, .null, []),
  (37, .invokevirtual 101, 3, 88, 3, .null, []),
  (40, .iconst 0, 1, 0, 0, .int 0, []),
  (41, .istore_n 3, 1, 3, 0, .null, []),
  (42, .iload_n 3, 1, 3, 0, .null, []),
  (43, .bipush 120, 2, 0, 0, .int 120, []),
  (45, .if_icmp .gt 48, 3, 93, 0, .null, []),
  (48, .aload_n 0, 1, 0, 0, .null, []),
  (49, .iload_n 3, 1, 3, 0, .null, []),
  (50, .invokevirtual 114, 3, 95, 2, .null, []),
  (53, .ifCond .eq 34, 3, 87, 0, .null, []),
  (56, .aload_n 0, 1, 0, 0, .null, []),
  (57, .iload_n 3, 1, 3, 0, .null, []),
  (58, .invokevirtual 118, 3, 97, 2, .null, []),
  (61, .aload_n 0, 1, 0, 0, .null, []),
  (62, .getfield 105, 3, 3, 8, .null, []),
  (65, .if_icmp .ge 22, 3, 87, 0, .null, []),
  (68, .aload_n 0, 1, 0, 0, .null, []),
  (69, .aload_n 0, 1, 0, 0, .null, []),
  (70, .iload_n 3, 1, 3, 0, .null, []),
  (71, .invokevirtual 118, 3, 97, 2, .null, []),
  (74, .putfield 105, 3, 3, 8, .null, []),
  (77, .aload_n 0, 1, 0, 0, .null, []),
  (78, .iload_n 2, 1, 2, 0, .null, []),
  (79, .putfield 108, 3, 3, 9, .null, []),
  (82, .aload_n 0, 1, 0, 0, .null, []),
  (83, .iload_n 3, 1, 3, 0, .null, []),
  (84, .putfield 111, 3, 3, 10, .null, []),
  (87, .iinc 3 1, 3, 3, 0, .int 1, []),
  (90, .goto (-48), 3, 42, 0, .null, []),
  (93, .iinc 2 1, 3, 2, 0, .int 1, []),
  (96, .goto (-67), 3, 29, 0, .null, []),
  (99, .aload_n 0, 1, 0, 0, .null, []),
  (100, .aload_n 1, 1, 1, 0, .null, []),
  (101, .aload_n 0, 1, 0, 0, .null, []),
  (102, .getfield 108, 3, 3, 9, .null, []),
  (105, .invokevirtual 101, 3, 88, 3, .null, []),
  (108, .return_, 1, 0, 0, .null, [])]
/-- RailPasses$Plan.prepare(LRailPasses$Book;I)V -/
def rp_k88 : List rp_En := [(0, .aload_n 0, 1, 0, 0, .null, []),
  (1, .iconst 0, 1, 0, 0, .int 0, []),
  (2, .putfield 21, 3, 3, 3, .null, []),
  (5, .aload_n 0, 1, 0, 0, .null, []),
  (6, .iconst 0, 1, 0, 0, .int 0, []),
  (7, .putfield 25, 3, 3, 7, .null, []),
  (10, .aload_n 0, 1, 0, 0, .null, []),
  (11, .aload_n 1, 1, 1, 0, .null, []),
  (12, .getfield 28, 3, 0, 2, .null, []),
  (15, .iload_n 2, 1, 2, 0, .null, []),
  (16, .iconst 0, 1, 0, 0, .int 0, []),
  (17, .invokevirtual 34, 3, 20, 3, .null, []),
  (20, .putfield 40, 3, 3, 4, .null, []),
  (23, .aload_n 0, 1, 0, 0, .null, []),
  (24, .aload_n 1, 1, 1, 0, .null, []),
  (25, .getfield 28, 3, 0, 2, .null, []),
  (28, .iload_n 2, 1, 2, 0, .null, []),
  (29, .iconst 1, 1, 0, 0, .int 1, []),
  (30, .invokevirtual 34, 3, 20, 3, .null, []),
  (33, .putfield 43, 3, 3, 5, .null, []),
  (36, .aload_n 0, 1, 0, 0, .null, []),
  (37, .aload_n 1, 1, 1, 0, .null, []),
  (38, .getfield 28, 3, 0, 2, .null, []),
  (41, .iload_n 2, 1, 2, 0, .null, []),
  (42, .iconst 2, 1, 0, 0, .int 2, []),
  (43, .invokevirtual 34, 3, 20, 3, .null, []),
  (46, .putfield 46, 3, 3, 6, .null, []),
  (49, .iconst 0, 1, 0, 0, .int 0, []),
  (50, .istore_n 3, 1, 3, 0, .null, []),
  (51, .iload_n 3, 1, 3, 0, .null, []),
  (52, .aload_n 1, 1, 1, 0, .null, []),
  (53, .getfield 49, 3, 0, 5, .null, []),
  (56, .invokevirtual 52, 3, 19, 1, .null, []),
  (59, .if_icmp .ge 33, 3, 92, 0, .null, []),
  (62, .aload_n 0, 1, 0, 0, .null, []),
  (63, .aload_n 1, 1, 1, 0, .null, []),
  (64, .iload_n 2, 1, 2, 0, .null, []),
  (65, .aload_n 1, 1, 1, 0, .null, []),
  (66, .getfield 49, 3, 0, 5, .null, []),
  (69, .iload_n 3, 1, 3, 0, .null, []),
  (70, .iconst 0, 1, 0, 0, .int 0, []),
  (71, .invokevirtual 34, 3, 20, 3, .null, []),
  (74, .aload_n 1, 1, 1, 0, .null, []),
  (75, .getfield 49, 3, 0, 5, .null, []),
  (78, .iload_n 3, 1, 3, 0, .null, []),
  (79, .iconst 1, 1, 0, 0, .int 1, []),
  (80, .invokevirtual 34, 3, 20, 3, .null, []),
  (83, .invokevirtual 55, 3, 89, 5, .null, []),
  (86, .iinc 3 1, 3, 3, 0, .int 1, []),
  (89, .goto (-38), 3, 51, 0, .null, []),
  (92, .return_, 1, 0, 0, .null, [])]
/-- RailPasses$Plan.prepareWish(LRailPasses$Book;III)V -/
def rp_k89 : List rp_En := [(0, .aload_n 1, 1, 1, 0, .null, []),
  (1, .getfield 59, 3, 0, 1, .null, []),
  (4, .iload_n 3, 1, 3, 0, .null, []),
  (5, .bipush 6, 2, 0, 0, .int 6, []),
  (7, .invokevirtual 34, 3, 20, 3, .null, []),
  (10, .istore 5, 2, 5, 0, .null, []),
  (12, .aload_n 1, 1, 1, 0, .null, []),
  (13, .aload_n 1, 1, 1, 0, .null, []),
  (14, .getfield 28, 3, 0, 2, .null, []),
  (17, .iload_n 2, 1, 2, 0, .null, []),
  (18, .iload_n 3, 1, 3, 0, .null, []),
  (19, .invokevirtual 62, 3, 78, 4, .null, []),
  (22, .istore 6, 2, 6, 0, .null, []),
  (24, .aload_n 0, 1, 0, 0, .null, []),
  (25, .aload_n 1, 1, 1, 0, .null, []),
  (26, .aload_n 1, 1, 1, 0, .null, []),
  (27, .getfield 28, 3, 0, 2, .null, []),
  (30, .iload_n 2, 1, 2, 0, .null, []),
  (31, .iload_n 3, 1, 3, 0, .null, []),
  (32, .iload 4, 2, 4, 0, .null, []),
  (34, .invokevirtual 66, 3, 73, 5, .null, []),
  (37, .invokevirtual 70, 3, 90, 2, .null, []),
  (40, .istore 7, 2, 7, 0, .null, []),
  (42, .aload_n 0, 1, 0, 0, .null, []),
  (43, .dup, 1, 0, 0, .null, []),
  (44, .getfield 25, 3, 3, 7, .null, []),
  (47, .iload 5, 2, 5, 0, .null, []),
  (49, .iadd, 1, 0, 0, .null, []),
  (50, .putfield 25, 3, 3, 7, .null, []),
  (53, .iload 7, 2, 7, 0, .null, []),
  (55, .ifCond .lt 78, 3, 133, 0, .null, []),
  (58, .iload 7, 2, 7, 0, .null, []),
  (60, .aload_n 0, 1, 0, 0, .null, []),
  (61, .getfield 21, 3, 3, 3, .null, []),
  (64, .if_icmp .ge 69, 3, 133, 0, .null, []),
  (67, .iload 7, 2, 7, 0, .null, []),
  (69, .aload_n 0, 1, 0, 0, .null, []),
  (70, .getfield 15, 3, 3, 1, .null, []),
  (73, .arraylength, 1, 0, 0, .null, []),
  (74, .if_icmp .ge 59, 3, 133, 0, .null, []),
  (77, .iload 7, 2, 7, 0, .null, []),
  (79, .aload_n 0, 1, 0, 0, .null, []),
  (80, .getfield 18, 3, 3, 2, .null, []),
  (83, .arraylength, 1, 0, 0, .null, []),
  (84, .if_icmp .ge 49, 3, 133, 0, .null, []),
  (87, .iload 6, 2, 6, 0, .null, []),
  (89, .iload 5, 2, 5, 0, .null, []),
  (91, .if_icmp .ge 42, 3, 133, 0, .null, []),
  (94, .aload_n 1, 1, 1, 0, .null, []),
  (95, .aload_n 1, 1, 1, 0, .null, []),
  (96, .getfield 28, 3, 0, 2, .null, []),
  (99, .iload_n 2, 1, 2, 0, .null, []),
  (100, .iload_n 3, 1, 3, 0, .null, []),
  (101, .invokevirtual 74, 3, 74, 4, .null, []),
  (104, .ifCond .eq 29, 3, 133, 0, .null, []),
  (107, .aload_n 0, 1, 0, 0, .null, []),
  (108, .getfield 15, 3, 3, 1, .null, []),
  (111, .iload 7, 2, 7, 0, .null, []),
  (113, .dup2, 1, 0, 0, .null, []),
  (114, .iaload, 1, 0, 0, .null, []),
  (115, .iload 5, 2, 5, 0, .null, []),
  (117, .iload 6, 2, 6, 0, .null, []),
  (119, .isub, 1, 0, 0, .null, []),
  (120, .iadd, 1, 0, 0, .null, []),
  (121, .iastore, 1, 0, 0, .null, []),
  (122, .aload_n 0, 1, 0, 0, .null, []),
  (123, .getfield 18, 3, 3, 2, .null, []),
  (126, .iload 7, 2, 7, 0, .null, []),
  (128, .dup2, 1, 0, 0, .null, []),
  (129, .iaload, 1, 0, 0, .null, []),
  (130, .iconst 1, 1, 0, 0, .int 1, []),
  (131, .iadd, 1, 0, 0, .null, []),
  (132, .iastore, 1, 0, 0, .null, []),
  (133, .return_, 1, 0, 0, .null, [])]
/-- RailPasses$Plan.placeOf(I)I -/
def rp_k90 : List rp_En := [(0, .iconst 0, 1, 0, 0, .int 0, []),
  (1, .istore_n 2, 1, 2, 0, .null, []),
  (2, .iload_n 2, 1, 2, 0, .null, []),
  (3, .aload_n 0, 1, 0, 0, .null, []),
  (4, .getfield 21, 3, 3, 3, .null, []),
  (7, .if_icmp .ge 18, 3, 25, 0, .null, []),
  (10, .aload_n 0, 1, 0, 0, .null, []),
  (11, .iload_n 2, 1, 2, 0, .null, []),
  (12, .invokevirtual 78, 3, 91, 2, .null, []),
  (15, .iload_n 1, 1, 1, 0, .null, []),
  (16, .if_icmp .ge 9, 3, 25, 0, .null, []),
  (19, .iinc 2 1, 3, 2, 0, .int 1, []),
  (22, .goto (-20), 3, 2, 0, .null, []),
  (25, .iload_n 2, 1, 2, 0, .null, []),
  (26, .aload_n 0, 1, 0, 0, .null, []),
  (27, .getfield 21, 3, 3, 3, .null, []),
  (30, .if_icmp .ge 12, 3, 42, 0, .null, []),
  (33, .aload_n 0, 1, 0, 0, .null, []),
  (34, .iload_n 2, 1, 2, 0, .null, []),
  (35, .invokevirtual 78, 3, 91, 2, .null, []),
  (38, .iload_n 1, 1, 1, 0, .null, []),
  (39, .if_icmp .eq 12, 3, 51, 0, .null, []),
  (42, .aload_n 0, 1, 0, 0, .null, []),
  (43, .getfield 21, 3, 3, 3, .null, []),
  (46, .bipush 10, 2, 0, 0, .int 10, []),
  (48, .if_icmp .lt 5, 3, 53, 0, .null, []),
  (51, .iload_n 2, 1, 2, 0, .null, []),
  (52, .ireturn, 1, 0, 0, .null, []),
  (53, .aload_n 0, 1, 0, 0, .null, []),
  (54, .getfield 21, 3, 3, 3, .null, []),
  (57, .istore_n 3, 1, 3, 0, .null, []),
  (58, .iload_n 3, 1, 3, 0, .null, []),
  (59, .iload_n 2, 1, 2, 0, .null, []),
  (60, .if_icmp .le 35, 3, 95, 0, .null, []),
  (63, .aload_n 0, 1, 0, 0, .null, []),
  (64, .iload_n 3, 1, 3, 0, .null, []),
  (65, .aload_n 0, 1, 0, 0, .null, []),
  (66, .iload_n 3, 1, 3, 0, .null, []),
  (67, .iconst 1, 1, 0, 0, .int 1, []),
  (68, .isub, 1, 0, 0, .null, []),
  (69, .invokevirtual 78, 3, 91, 2, .null, []),
  (72, .aload_n 0, 1, 0, 0, .null, []),
  (73, .iload_n 3, 1, 3, 0, .null, []),
  (74, .iconst 1, 1, 0, 0, .int 1, []),
  (75, .isub, 1, 0, 0, .null, []),
  (76, .invokevirtual 81, 3, 92, 2, .null, []),
  (79, .aload_n 0, 1, 0, 0, .null, []),
  (80, .iload_n 3, 1, 3, 0, .null, []),
  (81, .iconst 1, 1, 0, 0, .int 1, []),
  (82, .isub, 1, 0, 0, .null, []),
  (83, .invokevirtual 84, 3, 93, 2, .null, []),
  (86, .invokevirtual 87, 3, 94, 5, .null, []),
  (89, .iinc 3 (-1), 3, 3, 0, .int (-1), []),
  (92, .goto (-34), 3, 58, 0, .null, []),
  (95, .aload_n 0, 1, 0, 0, .null, []),
  (96, .iload_n 2, 1, 2, 0, .null, []),
  (97, .iload_n 1, 1, 1, 0, .null, []),
  (98, .iconst 0, 1, 0, 0, .int 0, []),
  (99, .iconst 0, 1, 0, 0, .int 0, []),
  (100, .invokevirtual 87, 3, 94, 5, .null, []),
  (103, .aload_n 0, 1, 0, 0, .null, []),
  (104, .dup, 1, 0, 0, .null, []),
  (105, .getfield 21, 3, 3, 3, .null, []),
  (108, .iconst 1, 1, 0, 0, .int 1, []),
  (109, .iadd, 1, 0, 0, .null, []),
  (110, .putfield 21, 3, 3, 3, .null, []),
  (113, .iload_n 2, 1, 2, 0, .null, []),
  (114, .ireturn, 1, 0, 0, .null, [])]
/-- RailPasses$Plan.dayAt(I)I -/
def rp_k91 : List rp_En := [(0, .iload_n 1, 1, 1, 0, .null, []),
  (1, .ifCond .lt 21, 3, 22, 0, .null, []),
  (4, .iload_n 1, 1, 1, 0, .null, []),
  (5, .aload_n 0, 1, 0, 0, .null, []),
  (6, .getfield 9, 3, 3, 0, .null, []),
  (9, .arraylength, 1, 0, 0, .null, []),
  (10, .if_icmp .ge 12, 3, 22, 0, .null, []),
  (13, .aload_n 0, 1, 0, 0, .null, []),
  (14, .getfield 9, 3, 3, 0, .null, []),
  (17, .iload_n 1, 1, 1, 0, .null, []),
  (18, .iaload, 1, 0, 0, .null, []),
  (19, .goto 4, 3, 23, 0, .null, []),
  (22, .iconst 0, 1, 0, 0, .int 0, []),
  (23, .ireturn, 1, 0, 0, .null, [])]
/-- RailPasses$Plan.sparedAt(I)I -/
def rp_k92 : List rp_En := [(0, .iload_n 1, 1, 1, 0, .null, []),
  (1, .ifCond .lt 21, 3, 22, 0, .null, []),
  (4, .iload_n 1, 1, 1, 0, .null, []),
  (5, .aload_n 0, 1, 0, 0, .null, []),
  (6, .getfield 15, 3, 3, 1, .null, []),
  (9, .arraylength, 1, 0, 0, .null, []),
  (10, .if_icmp .ge 12, 3, 22, 0, .null, []),
  (13, .aload_n 0, 1, 0, 0, .null, []),
  (14, .getfield 15, 3, 3, 1, .null, []),
  (17, .iload_n 1, 1, 1, 0, .null, []),
  (18, .iaload, 1, 0, 0, .null, []),
  (19, .goto 4, 3, 23, 0, .null, []),
  (22, .iconst 0, 1, 0, 0, .int 0, []),
  (23, .ireturn, 1, 0, 0, .null, [])]
/-- RailPasses$Plan.goersAt(I)I -/
def rp_k93 : List rp_En := [(0, .iload_n 1, 1, 1, 0, .null, []),
  (1, .ifCond .lt 21, 3, 22, 0, .null, []),
  (4, .iload_n 1, 1, 1, 0, .null, []),
  (5, .aload_n 0, 1, 0, 0, .null, []),
  (6, .getfield 18, 3, 3, 2, .null, []),
  (9, .arraylength, 1, 0, 0, .null, []),
  (10, .if_icmp .ge 12, 3, 22, 0, .null, []),
  (13, .aload_n 0, 1, 0, 0, .null, []),
  (14, .getfield 18, 3, 3, 2, .null, []),
  (17, .iload_n 1, 1, 1, 0, .null, []),
  (18, .iaload, 1, 0, 0, .null, []),
  (19, .goto 4, 3, 23, 0, .null, []),
  (22, .iconst 0, 1, 0, 0, .int 0, []),
  (23, .ireturn, 1, 0, 0, .null, [])]
/-- RailPasses$Plan.put(IIII)V -/
def rp_k94 : List rp_En := [(0, .iload_n 1, 1, 1, 0, .null, []),
  (1, .ifCond .lt 52, 3, 53, 0, .null, []),
  (4, .iload_n 1, 1, 1, 0, .null, []),
  (5, .aload_n 0, 1, 0, 0, .null, []),
  (6, .getfield 9, 3, 3, 0, .null, []),
  (9, .arraylength, 1, 0, 0, .null, []),
  (10, .if_icmp .ge 43, 3, 53, 0, .null, []),
  (13, .iload_n 1, 1, 1, 0, .null, []),
  (14, .aload_n 0, 1, 0, 0, .null, []),
  (15, .getfield 15, 3, 3, 1, .null, []),
  (18, .arraylength, 1, 0, 0, .null, []),
  (19, .if_icmp .ge 34, 3, 53, 0, .null, []),
  (22, .iload_n 1, 1, 1, 0, .null, []),
  (23, .aload_n 0, 1, 0, 0, .null, []),
  (24, .getfield 18, 3, 3, 2, .null, []),
  (27, .arraylength, 1, 0, 0, .null, []),
  (28, .if_icmp .ge 25, 3, 53, 0, .null, []),
  (31, .aload_n 0, 1, 0, 0, .null, []),
  (32, .getfield 9, 3, 3, 0, .null, []),
  (35, .iload_n 1, 1, 1, 0, .null, []),
  (36, .iload_n 2, 1, 2, 0, .null, []),
  (37, .iastore, 1, 0, 0, .null, []),
  (38, .aload_n 0, 1, 0, 0, .null, []),
  (39, .getfield 15, 3, 3, 1, .null, []),
  (42, .iload_n 1, 1, 1, 0, .null, []),
  (43, .iload_n 3, 1, 3, 0, .null, []),
  (44, .iastore, 1, 0, 0, .null, []),
  (45, .aload_n 0, 1, 0, 0, .null, []),
  (46, .getfield 18, 3, 3, 2, .null, []),
  (49, .iload_n 1, 1, 1, 0, .null, []),
  (50, .iload 4, 2, 4, 0, .null, []),
  (52, .iastore, 1, 0, 0, .null, []),
  (53, .return_, 1, 0, 0, .null, [])]
/-- RailPasses$Plan.hasGoodDay(I)Z -/
def rp_k95 : List rp_En := [(0, .iconst 0, 1, 0, 0, .int 0, []),
  (1, .istore_n 2, 1, 2, 0, .null, []),
  (2, .iload_n 2, 1, 2, 0, .null, []),
  (3, .aload_n 0, 1, 0, 0, .null, []),
  (4, .getfield 21, 3, 3, 3, .null, []),
  (7, .if_icmp .ge 20, 3, 27, 0, .null, []),
  (10, .aload_n 0, 1, 0, 0, .null, []),
  (11, .iload_n 2, 1, 2, 0, .null, []),
  (12, .iload_n 1, 1, 1, 0, .null, []),
  (13, .invokevirtual 91, 3, 96, 3, .null, []),
  (16, .ifCond .eq 5, 3, 21, 0, .null, []),
  (19, .iconst 1, 1, 0, 0, .int 1, []),
  (20, .ireturn, 1, 0, 0, .null, []),
  (21, .iinc 2 1, 3, 2, 0, .int 1, []),
  (24, .goto (-22), 3, 2, 0, .null, []),
  (27, .iconst 0, 1, 0, 0, .int 0, []),
  (28, .ireturn, 1, 0, 0, .null, [])]
/-- RailPasses$Plan.isGood(II)Z -/
def rp_k96 : List rp_En := [(0, .aload_n 0, 1, 0, 0, .null, []),
  (1, .iload_n 1, 1, 1, 0, .null, []),
  (2, .invokevirtual 78, 3, 91, 2, .null, []),
  (5, .iload_n 2, 1, 2, 0, .null, []),
  (6, .if_icmp .lt 21, 3, 27, 0, .null, []),
  (9, .aload_n 0, 1, 0, 0, .null, []),
  (10, .iload_n 1, 1, 1, 0, .null, []),
  (11, .invokevirtual 78, 3, 91, 2, .null, []),
  (14, .iload_n 2, 1, 2, 0, .null, []),
  (15, .aload_n 0, 1, 0, 0, .null, []),
  (16, .getfield 43, 3, 3, 5, .null, []),
  (19, .iadd, 1, 0, 0, .null, []),
  (20, .if_icmp .ge 7, 3, 27, 0, .null, []),
  (23, .iconst 1, 1, 0, 0, .int 1, []),
  (24, .goto 4, 3, 28, 0, .null, []),
  (27, .iconst 0, 1, 0, 0, .int 0, []),
  (28, .ireturn, 1, 0, 0, .null, [])]
/-- RailPasses$Plan.costFrom(I)I -/
def rp_k97 : List rp_En := [(0, .aload_n 0, 1, 0, 0, .null, []),
  (1, .getfield 46, 3, 3, 6, .null, []),
  (4, .aload_n 0, 1, 0, 0, .null, []),
  (5, .getfield 25, 3, 3, 7, .null, []),
  (8, .iadd, 1, 0, 0, .null, []),
  (9, .istore_n 2, 1, 2, 0, .null, []),
  (10, .iconst 0, 1, 0, 0, .int 0, []),
  (11, .istore_n 3, 1, 3, 0, .null, []),
  (12, .iload_n 3, 1, 3, 0, .null, []),
  (13, .aload_n 0, 1, 0, 0, .null, []),
  (14, .getfield 21, 3, 3, 3, .null, []),
  (17, .if_icmp .ge 26, 3, 43, 0, .null, []),
  (20, .aload_n 0, 1, 0, 0, .null, []),
  (21, .iload_n 3, 1, 3, 0, .null, []),
  (22, .iload_n 1, 1, 1, 0, .null, []),
  (23, .invokevirtual 95, 3, 98, 3, .null, []),
  (26, .ifCond .eq 11, 3, 37, 0, .null, []),
  (29, .iload_n 2, 1, 2, 0, .null, []),
  (30, .aload_n 0, 1, 0, 0, .null, []),
  (31, .iload_n 3, 1, 3, 0, .null, []),
  (32, .invokevirtual 81, 3, 92, 2, .null, []),
  (35, .isub, 1, 0, 0, .null, []),
  (36, .istore_n 2, 1, 2, 0, .null, []),
  (37, .iinc 3 1, 3, 3, 0, .int 1, []),
  (40, .goto (-28), 3, 12, 0, .null, []),
  (43, .iload_n 2, 1, 2, 0, .null, []),
  (44, .ireturn, 1, 0, 0, .null, [])]
/-- RailPasses$Plan.isSpent(II)Z -/
def rp_k98 : List rp_En := [(0, .aload_n 0, 1, 0, 0, .null, []),
  (1, .iload_n 1, 1, 1, 0, .null, []),
  (2, .invokevirtual 81, 3, 92, 2, .null, []),
  (5, .ifCond .le 29, 3, 34, 0, .null, []),
  (8, .aload_n 0, 1, 0, 0, .null, []),
  (9, .iload_n 1, 1, 1, 0, .null, []),
  (10, .iload_n 2, 1, 2, 0, .null, []),
  (11, .invokevirtual 91, 3, 96, 3, .null, []),
  (14, .ifCond .eq 20, 3, 34, 0, .null, []),
  (17, .aload_n 0, 1, 0, 0, .null, []),
  (18, .iload_n 1, 1, 1, 0, .null, []),
  (19, .iload_n 2, 1, 2, 0, .null, []),
  (20, .invokevirtual 98, 3, 99, 3, .null, []),
  (23, .aload_n 0, 1, 0, 0, .null, []),
  (24, .getfield 40, 3, 3, 4, .null, []),
  (27, .if_icmp .ge 7, 3, 34, 0, .null, []),
  (30, .iconst 1, 1, 0, 0, .int 1, []),
  (31, .goto 4, 3, 35, 0, .null, []),
  (34, .iconst 0, 1, 0, 0, .int 0, []),
  (35, .ireturn, 1, 0, 0, .null, [])]
/-- RailPasses$Plan.betterDays(II)I -/
def rp_k99 : List rp_En := [(0, .iconst 0, 1, 0, 0, .int 0, []),
  (1, .istore_n 3, 1, 3, 0, .null, []),
  (2, .iconst 0, 1, 0, 0, .int 0, []),
  (3, .istore 4, 2, 4, 0, .null, []),
  (5, .iload 4, 2, 4, 0, .null, []),
  (7, .aload_n 0, 1, 0, 0, .null, []),
  (8, .getfield 21, 3, 3, 3, .null, []),
  (11, .if_icmp .ge 68, 3, 79, 0, .null, []),
  (14, .aload_n 0, 1, 0, 0, .null, []),
  (15, .iload 4, 2, 4, 0, .null, []),
  (17, .invokevirtual 81, 3, 92, 2, .null, []),
  (20, .aload_n 0, 1, 0, 0, .null, []),
  (21, .iload_n 1, 1, 1, 0, .null, []),
  (22, .invokevirtual 81, 3, 92, 2, .null, []),
  (25, .if_icmp .gt 23, 3, 48, 0, .null, []),
  (28, .aload_n 0, 1, 0, 0, .null, []),
  (29, .iload 4, 2, 4, 0, .null, []),
  (31, .invokevirtual 81, 3, 92, 2, .null, []),
  (34, .aload_n 0, 1, 0, 0, .null, []),
  (35, .iload_n 1, 1, 1, 0, .null, []),
  (36, .invokevirtual 81, 3, 92, 2, .null, []),
  (39, .if_icmp .ne 13, 3, 52, 0, .null, []),
  (42, .iload 4, 2, 4, 0, .null, []),
  (44, .iload_n 1, 1, 1, 0, .null, []),
  (45, .if_icmp .ge 7, 3, 52, 0, .null, []),
  (48, .iconst 1, 1, 0, 0, .int 1, []),
  (49, .goto 4, 3, 53, 0, .null, []),
  (52, .iconst 0, 1, 0, 0, .int 0, []),
  (53, .istore 5, 2, 5, 0, .null, []),
  (55, .iload 5, 2, 5, 0, .null, []),
  (57, .ifCond .eq 16, 3, 73, 0, .null, []),
  (60, .aload_n 0, 1, 0, 0, .null, []),
  (61, .iload 4, 2, 4, 0, .null, []),
  (63, .iload_n 2, 1, 2, 0, .null, []),
  (64, .invokevirtual 91, 3, 96, 3, .null, []),
  (67, .ifCond .eq 6, 3, 73, 0, .null, []),
  (70, .iinc 3 1, 3, 3, 0, .int 1, []),
  (73, .iinc 4 1, 3, 4, 0, .int 1, []),
  (76, .goto (-71), 3, 5, 0, .null, []),
  (79, .iload_n 3, 1, 3, 0, .null, []),
  (80, .ireturn, 1, 0, 0, .null, [])]
/-- RailPasses$Plan.chosenCost()I -/
def rp_k100 : List rp_En := [(0, .aload_n 0, 1, 0, 0, .null, []),
  (1, .getfield 105, 3, 3, 8, .null, []),
  (4, .ireturn, 1, 0, 0, .null, [])]
/-- RailPasses$Plan.chosenLaw()I -/
def rp_k101 : List rp_En := [(0, .aload_n 0, 1, 0, 0, .null, []),
  (1, .getfield 108, 3, 3, 9, .null, []),
  (4, .ireturn, 1, 0, 0, .null, [])]
/-- RailPasses$Plan.chosenStart()I -/
def rp_k102 : List rp_En := [(0, .aload_n 0, 1, 0, 0, .null, []),
  (1, .getfield 111, 3, 3, 10, .null, []),
  (4, .ireturn, 1, 0, 0, .null, [])]
/-- RailPasses$Plan.chosenDays()I -/
def rp_k103 : List rp_En := [(0, .iconst 0, 1, 0, 0, .int 0, []),
  (1, .istore_n 1, 1, 1, 0, .null, []),
  (2, .iconst 0, 1, 0, 0, .int 0, []),
  (3, .istore_n 2, 1, 2, 0, .null, []),
  (4, .iload_n 2, 1, 2, 0, .null, []),
  (5, .aload_n 0, 1, 0, 0, .null, []),
  (6, .getfield 21, 3, 3, 3, .null, []),
  (9, .if_icmp .ge 24, 3, 33, 0, .null, []),
  (12, .aload_n 0, 1, 0, 0, .null, []),
  (13, .iload_n 2, 1, 2, 0, .null, []),
  (14, .aload_n 0, 1, 0, 0, .null, []),
  (15, .getfield 111, 3, 3, 10, .null, []),
  (18, .invokevirtual 95, 3, 98, 3, .null, []),
  (21, .ifCond .eq 6, 3, 27, 0, .null, []),
  (24, .iinc 1 1, 3, 1, 0, .int 1, []),
  (27, .iinc 2 1, 3, 2, 0, .int 1, []),
  (30, .goto (-26), 3, 4, 0, .null, []),
  (33, .iload_n 1, 1, 1, 0, .null, []),
  (34, .ireturn, 1, 0, 0, .null, [])]
/-- RailPasses$Plan.chosenGoers()I -/
def rp_k104 : List rp_En := [(0, .iconst 0, 1, 0, 0, .int 0, []),
  (1, .istore_n 1, 1, 1, 0, .null, []),
  (2, .iconst 0, 1, 0, 0, .int 0, []),
  (3, .istore_n 2, 1, 2, 0, .null, []),
  (4, .iload_n 2, 1, 2, 0, .null, []),
  (5, .aload_n 0, 1, 0, 0, .null, []),
  (6, .getfield 21, 3, 3, 3, .null, []),
  (9, .if_icmp .ge 29, 3, 38, 0, .null, []),
  (12, .aload_n 0, 1, 0, 0, .null, []),
  (13, .iload_n 2, 1, 2, 0, .null, []),
  (14, .aload_n 0, 1, 0, 0, .null, []),
  (15, .getfield 111, 3, 3, 10, .null, []),
  (18, .invokevirtual 95, 3, 98, 3, .null, []),
  (21, .ifCond .eq 11, 3, 32, 0, .null, []),
  (24, .iload_n 1, 1, 1, 0, .null, []),
  (25, .aload_n 0, 1, 0, 0, .null, []),
  (26, .iload_n 2, 1, 2, 0, .null, []),
  (27, .invokevirtual 84, 3, 93, 2, .null, []),
  (30, .iadd, 1, 0, 0, .null, []),
  (31, .istore_n 1, 1, 1, 0, .null, []),
  (32, .iinc 2 1, 3, 2, 0, .int 1, []),
  (35, .goto (-31), 3, 4, 0, .null, []),
  (38, .iload_n 1, 1, 1, 0, .null, []),
  (39, .ireturn, 1, 0, 0, .null, [])]
/-- RailPasses$Plan.chosenDay(I)I -/
def rp_k105 : List rp_En := [(0, .iconst 0, 1, 0, 0, .int 0, []),
  (1, .istore_n 2, 1, 2, 0, .null, []),
  (2, .iconst 0, 1, 0, 0, .int 0, []),
  (3, .istore_n 3, 1, 3, 0, .null, []),
  (4, .iload_n 3, 1, 3, 0, .null, []),
  (5, .aload_n 0, 1, 0, 0, .null, []),
  (6, .getfield 21, 3, 3, 3, .null, []),
  (9, .if_icmp .ge 35, 3, 44, 0, .null, []),
  (12, .aload_n 0, 1, 0, 0, .null, []),
  (13, .iload_n 3, 1, 3, 0, .null, []),
  (14, .aload_n 0, 1, 0, 0, .null, []),
  (15, .getfield 111, 3, 3, 10, .null, []),
  (18, .invokevirtual 95, 3, 98, 3, .null, []),
  (21, .ifCond .eq 17, 3, 38, 0, .null, []),
  (24, .iload_n 2, 1, 2, 0, .null, []),
  (25, .iload_n 1, 1, 1, 0, .null, []),
  (26, .if_icmp .ne 9, 3, 35, 0, .null, []),
  (29, .aload_n 0, 1, 0, 0, .null, []),
  (30, .iload_n 3, 1, 3, 0, .null, []),
  (31, .invokevirtual 78, 3, 91, 2, .null, []),
  (34, .ireturn, 1, 0, 0, .null, []),
  (35, .iinc 2 1, 3, 2, 0, .int 1, []),
  (38, .iinc 3 1, 3, 3, 0, .int 1, []),
  (41, .goto (-37), 3, 4, 0, .null, []),
  (44, .bipush (-3), 2, 0, 0, .int (-3), []),
  (46, .ireturn, 1, 0, 0, .null, [])]
/-- RailPasses.least(II)I -/
def rp_k106 : List rp_En := [(0, .iload_n 1, 1, 1, 0, .null, []),
  (1, .invokestatic 124, 3, 55, 1, .null, []),
  (4, .ifCond .eq 10, 3, 14, 0, .null, []),
  (7, .iload_n 2, 1, 2, 0, .null, []),
  (8, .invokestatic 140, 3, 60, 1, .null, []),
  (11, .ifCond .ne 5, 3, 16, 0, .null, []),
  (14, .iconst (-1), 1, 0, 0, .int (-1), []),
  (15, .ireturn, 1, 0, 0, .null, []),
  (16, .aload_n 0, 1, 0, 0, .null, []),
  (17, .getfield 12, 3, 7, 0, .null, []),
  (20, .iload_n 1, 1, 1, 0, .null, []),
  (21, .invokevirtual 137, 3, 58, 2, .null, []),
  (24, .ifCond .ne 6, 3, 30, 0, .null, []),
  (27, .bipush (-3), 2, 0, 0, .int (-3), []),
  (29, .ireturn, 1, 0, 0, .null, []),
  (30, .aload_n 0, 1, 0, 0, .null, []),
  (31, .getfield 36, 3, 7, 5, .null, []),
  (34, .aload_n 0, 1, 0, 0, .null, []),
  (35, .getfield 12, 3, 7, 0, .null, []),
  (38, .iload_n 1, 1, 1, 0, .null, []),
  (39, .invokevirtual 211, 3, 88, 3, .null, []),
  (42, .aload_n 0, 1, 0, 0, .null, []),
  (43, .getfield 36, 3, 7, 5, .null, []),
  (46, .iload_n 2, 1, 2, 0, .null, []),
  (47, .invokevirtual 215, 3, 97, 2, .null, []),
  (50, .ireturn, 1, 0, 0, .null, [])]
/-- RailPasses.prove()I -/
def rp_k107 : List rp_En := [(0, .aload_n 0, 1, 0, 0, .null, []),
  (1, .getfield 43, 3, 7, 6, .null, []),
  (4, .aload_n 0, 1, 0, 0, .null, []),
  (5, .getfield 12, 3, 7, 0, .null, []),
  (8, .aload_n 0, 1, 0, 0, .null, []),
  (9, .getfield 36, 3, 7, 5, .null, []),
  (12, .invokevirtual 218, 3, 108, 3, .null, []),
  (15, .sipush 200, 3, 0, 0, .int 200, []),
  (18, .if_icmp .le 6, 3, 24, 0, .null, []),
  (21, .bipush (-2), 2, 0, 0, .int (-2), []),
  (23, .ireturn, 1, 0, 0, .null, []),
  (24, .aload_n 0, 1, 0, 0, .null, []),
  (25, .getfield 43, 3, 7, 6, .null, []),
  (28, .aload_n 0, 1, 0, 0, .null, []),
  (29, .getfield 12, 3, 7, 0, .null, []),
  (32, .aload_n 0, 1, 0, 0, .null, []),
  (33, .getfield 36, 3, 7, 5, .null, []),
  (36, .invokevirtual 222, 3, 109, 3, .null, []),
  (39, .aload_n 0, 1, 0, 0, .null, []),
  (40, .getfield 43, 3, 7, 6, .null, []),
  (43, .getfield 226, 3, 4, 0, .null, []),
  (46, .invokevirtual 179, 3, 19, 1, .null, []),
  (49, .ireturn, 1, 0, 0, .null, [])]
/-- RailPasses$Proof.due(LRailPasses$Book;LRailPasses$Plan;)I -/
def rp_k108 : List rp_En := [(0, .iconst 0, 1, 0, 0, .int 0, []),
  (1, .istore_n 3, 1, 3, 0, .null, []),
  (2, .iconst 0, 1, 0, 0, .int 0, []),
  (3, .istore 4, 2, 4, 0, .null, []),
  (5, .iload 4, 2, 4, 0, .null, []),
  (7, .iconst 3, 1, 0, 0, .int 3, []),
  (8, .if_icmp .ge 44, 3, 52, 0, .null, []),
  (11, .aload_n 2, 1, 2, 0, .null, []),
  (12, .aload_n 1, 1, 1, 0, .null, []),
  (13, .iload 4, 2, 4, 0, .null, []),
  (15, .invokevirtual 20, 3, 88, 3, .null, []),
  (18, .iconst 0, 1, 0, 0, .int 0, []),
  (19, .istore 5, 2, 5, 0, .null, []),
  (21, .iload 5, 2, 5, 0, .null, []),
  (23, .bipush 120, 2, 0, 0, .int 120, []),
  (25, .if_icmp .gt 21, 3, 46, 0, .null, []),
  (28, .aload_n 2, 1, 2, 0, .null, []),
  (29, .iload 5, 2, 5, 0, .null, []),
  (31, .invokevirtual 26, 3, 95, 2, .null, []),
  (34, .ifCond .eq 6, 3, 40, 0, .null, []),
  (37, .iinc 3 1, 3, 3, 0, .int 1, []),
  (40, .iinc 5 1, 3, 5, 0, .int 1, []),
  (43, .goto (-22), 3, 21, 0, .null, []),
  (46, .iinc 4 1, 3, 4, 0, .int 1, []),
  (49, .goto (-44), 3, 5, 0, .null, []),
  (52, .iload_n 3, 1, 3, 0, .null, []),
  (53, .ireturn, 1, 0, 0, .null, [])]
/-- RailPasses$Proof.write(LRailPasses$Book;LRailPasses$Plan;)V -/
def rp_k109 : List rp_En := [(0, .aload_n 0, 1, 0, 0, .null, []),
  (1, .getfield 14, 3, 4, 0, .null, []),
  (4, .invokevirtual 30, 3, 110, 1, .null, []),
  (7, .iconst 0, 1, 0, 0, .int 0, []),
  (8, .istore_n 3, 1, 3, 0, .null, []),
  (9, .iload_n 3, 1, 3, 0, .null, []),
  (10, .iconst 3, 1, 0, 0, .int 3, []),
  (11, .if_icmp .ge 88, 3, 99, 0, .null, []),
  (14, .aload_n 2, 1, 2, 0, .null, []),
  (15, .aload_n 1, 1, 1, 0, .null, []),
  (16, .iload_n 3, 1, 3, 0, .null, []),
  (17, .invokevirtual 20, 3, 88, 3, .null, []),
  (20, .iconst 0, 1, 0, 0, .int 0, []),
  (21, .istore 4, 2, 4, 0, .null, []),
  (23, .iload 4, 2, 4, 0, .null, []),
  (25, .bipush 120, 2, 0, 0, .int 120, []),
  (27, .if_icmp .gt 66, 3, 93, 0, .null, []),
  (30, .aload_n 2, 1, 2, 0, .null, []),
  (31, .iload 4, 2, 4, 0, .null, []),
  (33, .invokevirtual 26, 3, 95, 2, .null, []),
  (36, .ifCond .eq 51, 3, 87, 0, .null, []),
  (39, .aload_n 0, 1, 0, 0, .null, []),
  (40, .getfield 14, 3, 4, 0, .null, []),
  (43, .invokevirtual 33, 3, 3, 1, .null, []),
  (46, .istore 5, 2, 5, 0, .null, []),
  (48, .aload_n 0, 1, 0, 0, .null, []),
  (49, .getfield 14, 3, 4, 0, .null, []),
  (52, .iload 5, 2, 5, 0, .null, []),
  (54, .iconst 0, 1, 0, 0, .int 0, []),
  (55, .iload_n 3, 1, 3, 0, .null, []),
  (56, .invokevirtual 37, 3, 5, 4, .null, []),
  (59, .aload_n 0, 1, 0, 0, .null, []),
  (60, .getfield 14, 3, 4, 0, .null, []),
  (63, .iload 5, 2, 5, 0, .null, []),
  (65, .iconst 1, 1, 0, 0, .int 1, []),
  (66, .iload 4, 2, 4, 0, .null, []),
  (68, .invokevirtual 37, 3, 5, 4, .null, []),
  (71, .aload_n 0, 1, 0, 0, .null, []),
  (72, .getfield 14, 3, 4, 0, .null, []),
  (75, .iload 5, 2, 5, 0, .null, []),
  (77, .iconst 2, 1, 0, 0, .int 2, []),
  (78, .aload_n 2, 1, 2, 0, .null, []),
  (79, .iload 4, 2, 4, 0, .null, []),
  (81, .invokevirtual 41, 3, 97, 2, .null, []),
  (84, .invokevirtual 37, 3, 5, 4, .null, []),
  (87, .iinc 4 1, 3, 4, 0, .int 1, []),
  (90, .goto (-67), 3, 23, 0, .null, []),
  (93, .iinc 3 1, 3, 3, 0, .int 1, []),
  (96, .goto (-87), 3, 9, 0, .null, []),
  (99, .return_, 1, 0, 0, .null, [])]
/-- RailPasses$Table.clear()V -/
def rp_k110 : List rp_En := [(0, .aload_n 0, 1, 0, 0, .null, []),
  (1, .iconst 0, 1, 0, 0, .int 0, []),
  (2, .putfield 26, 3, 5, 3, .null, []),
  (5, .return_, 1, 0, 0, .null, [])]
/-- RailPasses.row(II)I -/
def rp_k111 : List rp_En := [(0, .iload_n 2, 1, 2, 0, .null, []),
  (1, .iconst 0, 1, 0, 0, .int 0, []),
  (2, .iconst 2, 1, 0, 0, .int 2, []),
  (3, .invokestatic 61, 3, 15, 3, .null, []),
  (6, .ifCond .ne 5, 3, 11, 0, .null, []),
  (9, .iconst (-1), 1, 0, 0, .int (-1), []),
  (10, .ireturn, 1, 0, 0, .null, []),
  (11, .aload_n 0, 1, 0, 0, .null, []),
  (12, .getfield 43, 3, 7, 6, .null, []),
  (15, .getfield 226, 3, 4, 0, .null, []),
  (18, .iload_n 1, 1, 1, 0, .null, []),
  (19, .invokevirtual 91, 3, 25, 2, .null, []),
  (22, .ifCond .eq 18, 3, 40, 0, .null, []),
  (25, .aload_n 0, 1, 0, 0, .null, []),
  (26, .getfield 43, 3, 7, 6, .null, []),
  (29, .getfield 226, 3, 4, 0, .null, []),
  (32, .iload_n 1, 1, 1, 0, .null, []),
  (33, .iload_n 2, 1, 2, 0, .null, []),
  (34, .invokevirtual 103, 3, 20, 3, .null, []),
  (37, .goto 5, 3, 42, 0, .null, []),
  (40, .bipush (-3), 2, 0, 0, .int (-3), []),
  (42, .ireturn, 1, 0, 0, .null, [])]
/-- RailPasses.forge(III)I -/
def rp_k112 : List rp_En := [(0, .iload_n 2, 1, 2, 0, .null, []),
  (1, .iconst 0, 1, 0, 0, .int 0, []),
  (2, .iconst 2, 1, 0, 0, .int 2, []),
  (3, .invokestatic 61, 3, 15, 3, .null, []),
  (6, .ifCond .ne 5, 3, 11, 0, .null, []),
  (9, .iconst (-1), 1, 0, 0, .int (-1), []),
  (10, .ireturn, 1, 0, 0, .null, []),
  (11, .aload_n 0, 1, 0, 0, .null, []),
  (12, .getfield 43, 3, 7, 6, .null, []),
  (15, .getfield 226, 3, 4, 0, .null, []),
  (18, .iload_n 1, 1, 1, 0, .null, []),
  (19, .invokevirtual 91, 3, 25, 2, .null, []),
  (22, .ifCond .ne 6, 3, 28, 0, .null, []),
  (25, .bipush (-3), 2, 0, 0, .int (-3), []),
  (27, .ireturn, 1, 0, 0, .null, []),
  (28, .aload_n 0, 1, 0, 0, .null, []),
  (29, .getfield 43, 3, 7, 6, .null, []),
  (32, .getfield 226, 3, 4, 0, .null, []),
  (35, .iload_n 1, 1, 1, 0, .null, []),
  (36, .iload_n 2, 1, 2, 0, .null, []),
  (37, .invokevirtual 103, 3, 20, 3, .null, []),
  (40, .istore 4, 2, 4, 0, .null, []),
  (42, .aload_n 0, 1, 0, 0, .null, []),
  (43, .getfield 43, 3, 7, 6, .null, []),
  (46, .getfield 226, 3, 4, 0, .null, []),
  (49, .iload_n 1, 1, 1, 0, .null, []),
  (50, .iload_n 2, 1, 2, 0, .null, []),
  (51, .iload_n 3, 1, 3, 0, .null, []),
  (52, .invokevirtual 79, 3, 5, 4, .null, []),
  (55, .iload 4, 2, 4, 0, .null, []),
  (57, .ireturn, 1, 0, 0, .null, [])]
/-- RailPasses.check()I -/
def rp_k113 : List rp_En := [(0, .aload_n 0, 1, 0, 0, .null, []),
  (1, .getfield 43, 3, 7, 6, .null, []),
  (4, .aload_n 0, 1, 0, 0, .null, []),
  (5, .getfield 12, 3, 7, 0, .null, []),
  (8, .aload_n 0, 1, 0, 0, .null, []),
  (9, .getfield 36, 3, 7, 5, .null, []),
  (12, .invokevirtual 218, 3, 108, 3, .null, []),
  (15, .sipush 200, 3, 0, 0, .int 200, []),
  (18, .if_icmp .le 6, 3, 24, 0, .null, []),
  (21, .bipush (-2), 2, 0, 0, .int (-2), []),
  (23, .ireturn, 1, 0, 0, .null, []),
  (24, .aload_n 0, 1, 0, 0, .null, []),
  (25, .getfield 43, 3, 7, 6, .null, []),
  (28, .aload_n 0, 1, 0, 0, .null, []),
  (29, .getfield 12, 3, 7, 0, .null, []),
  (32, .aload_n 0, 1, 0, 0, .null, []),
  (33, .getfield 36, 3, 7, 5, .null, []),
  (36, .invokevirtual 229, 3, 114, 3, .null, []),
  (39, .ireturn, 1, 0, 0, .null, [])]
/-- RailPasses$Proof.firstWrong(LRailPasses$Book;LRailPasses$Plan;)I -/
def rp_k114 : List rp_En := [(0, .iconst 0, 1, 0, 0, .int 0, []),
  (1, .istore_n 3, 1, 3, 0, .null, []),
  (2, .iconst 0, 1, 0, 0, .int 0, []),
  (3, .istore 4, 2, 4, 0, .null, []),
  (5, .iload 4, 2, 4, 0, .null, []),
  (7, .iconst 3, 1, 0, 0, .int 3, []),
  (8, .if_icmp .ge 64, 3, 72, 0, .null, []),
  (11, .aload_n 2, 1, 2, 0, .null, []),
  (12, .aload_n 1, 1, 1, 0, .null, []),
  (13, .iload 4, 2, 4, 0, .null, []),
  (15, .invokevirtual 20, 3, 88, 3, .null, []),
  (18, .iconst 0, 1, 0, 0, .int 0, []),
  (19, .istore 5, 2, 5, 0, .null, []),
  (21, .iload 5, 2, 5, 0, .null, []),
  (23, .bipush 120, 2, 0, 0, .int 120, []),
  (25, .if_icmp .gt 41, 3, 66, 0, .null, []),
  (28, .aload_n 2, 1, 2, 0, .null, []),
  (29, .iload 5, 2, 5, 0, .null, []),
  (31, .invokevirtual 26, 3, 95, 2, .null, []),
  (34, .ifCond .eq 26, 3, 60, 0, .null, []),
  (37, .aload_n 0, 1, 0, 0, .null, []),
  (38, .iload_n 3, 1, 3, 0, .null, []),
  (39, .iload 4, 2, 4, 0, .null, []),
  (41, .iload 5, 2, 5, 0, .null, []),
  (43, .aload_n 2, 1, 2, 0, .null, []),
  (44, .iload 5, 2, 5, 0, .null, []),
  (46, .invokevirtual 41, 3, 97, 2, .null, []),
  (49, .invokevirtual 45, 3, 115, 5, .null, []),
  (52, .ifCond .ne 5, 3, 57, 0, .null, []),
  (55, .iload_n 3, 1, 3, 0, .null, []),
  (56, .ireturn, 1, 0, 0, .null, []),
  (57, .iinc 3 1, 3, 3, 0, .int 1, []),
  (60, .iinc 5 1, 3, 5, 0, .int 1, []),
  (63, .goto (-42), 3, 21, 0, .null, []),
  (66, .iinc 4 1, 3, 4, 0, .int 1, []),
  (69, .goto (-64), 3, 5, 0, .null, []),
  (72, .iload_n 3, 1, 3, 0, .null, []),
  (73, .aload_n 0, 1, 0, 0, .null, []),
  (74, .getfield 14, 3, 4, 0, .null, []),
  (77, .invokevirtual 49, 3, 19, 1, .null, []),
  (80, .if_icmp .ge 7, 3, 87, 0, .null, []),
  (83, .iload_n 3, 1, 3, 0, .null, []),
  (84, .goto 4, 3, 88, 0, .null, []),
  (87, .iconst (-1), 1, 0, 0, .int (-1), []),
  (88, .ireturn, 1, 0, 0, .null, [])]
/-- RailPasses$Proof.isRow(IIII)Z -/
def rp_k115 : List rp_En := [(0, .aload_n 0, 1, 0, 0, .null, []),
  (1, .getfield 14, 3, 4, 0, .null, []),
  (4, .iload_n 1, 1, 1, 0, .null, []),
  (5, .invokevirtual 52, 3, 25, 2, .null, []),
  (8, .ifCond .eq 47, 3, 55, 0, .null, []),
  (11, .aload_n 0, 1, 0, 0, .null, []),
  (12, .getfield 14, 3, 4, 0, .null, []),
  (15, .iload_n 1, 1, 1, 0, .null, []),
  (16, .iconst 0, 1, 0, 0, .int 0, []),
  (17, .invokevirtual 55, 3, 20, 3, .null, []),
  (20, .iload_n 2, 1, 2, 0, .null, []),
  (21, .if_icmp .ne 34, 3, 55, 0, .null, []),
  (24, .aload_n 0, 1, 0, 0, .null, []),
  (25, .getfield 14, 3, 4, 0, .null, []),
  (28, .iload_n 1, 1, 1, 0, .null, []),
  (29, .iconst 1, 1, 0, 0, .int 1, []),
  (30, .invokevirtual 55, 3, 20, 3, .null, []),
  (33, .iload_n 3, 1, 3, 0, .null, []),
  (34, .if_icmp .ne 21, 3, 55, 0, .null, []),
  (37, .aload_n 0, 1, 0, 0, .null, []),
  (38, .getfield 14, 3, 4, 0, .null, []),
  (41, .iload_n 1, 1, 1, 0, .null, []),
  (42, .iconst 2, 1, 0, 0, .int 2, []),
  (43, .invokevirtual 55, 3, 20, 3, .null, []),
  (46, .iload 4, 2, 4, 0, .null, []),
  (48, .if_icmp .ne 7, 3, 55, 0, .null, []),
  (51, .iconst 1, 1, 0, 0, .int 1, []),
  (52, .goto 4, 3, 56, 0, .null, []),
  (55, .iconst 0, 1, 0, 0, .int 0, []),
  (56, .ireturn, 1, 0, 0, .null, [])]
/-- RailPasses.scan(IIII)I -/
def rp_k116 : List rp_En := [(0, .aload_n 0, 1, 0, 0, .null, []),
  (1, .getfield 12, 3, 7, 0, .null, []),
  (4, .getfield 143, 3, 0, 3, .null, []),
  (7, .iload_n 1, 1, 1, 0, .null, []),
  (8, .invokevirtual 91, 3, 25, 2, .null, []),
  (11, .ifCond .eq 26, 3, 37, 0, .null, []),
  (14, .iload 4, 2, 4, 0, .null, []),
  (16, .invokestatic 54, 3, 14, 1, .null, []),
  (19, .ifCond .eq 18, 3, 37, 0, .null, []),
  (22, .aload_n 0, 1, 0, 0, .null, []),
  (23, .iload_n 2, 1, 2, 0, .null, []),
  (24, .invokevirtual 232, 3, 117, 2, .null, []),
  (27, .ifCond .eq 10, 3, 37, 0, .null, []),
  (30, .iload_n 3, 1, 3, 0, .null, []),
  (31, .invokestatic 94, 3, 26, 1, .null, []),
  (34, .ifCond .ne 5, 3, 39, 0, .null, []),
  (37, .iconst (-1), 1, 0, 0, .int (-1), []),
  (38, .ireturn, 1, 0, 0, .null, []),
  (39, .aload_n 0, 1, 0, 0, .null, []),
  (40, .getfield 12, 3, 7, 0, .null, []),
  (43, .getfield 235, 3, 0, 6, .null, []),
  (46, .invokevirtual 69, 3, 4, 1, .null, []),
  (49, .ifCond .eq 6, 3, 55, 0, .null, []),
  (52, .bipush (-2), 2, 0, 0, .int (-2), []),
  (54, .ireturn, 1, 0, 0, .null, []),
  (55, .aload_n 0, 1, 0, 0, .null, []),
  (56, .getfield 12, 3, 7, 0, .null, []),
  (59, .getfield 235, 3, 0, 6, .null, []),
  (62, .invokevirtual 75, 3, 3, 1, .null, []),
  (65, .istore 5, 2, 5, 0, .null, []),
  (67, .aload_n 0, 1, 0, 0, .null, []),
  (68, .getfield 12, 3, 7, 0, .null, []),
  (71, .getfield 235, 3, 0, 6, .null, []),
  (74, .iload 5, 2, 5, 0, .null, []),
  (76, .iconst 0, 1, 0, 0, .int 0, []),
  (77, .iload_n 1, 1, 1, 0, .null, []),
  (78, .invokevirtual 79, 3, 5, 4, .null, []),
  (81, .aload_n 0, 1, 0, 0, .null, []),
  (82, .getfield 12, 3, 7, 0, .null, []),
  (85, .getfield 235, 3, 0, 6, .null, []),
  (88, .iload 5, 2, 5, 0, .null, []),
  (90, .iconst 1, 1, 0, 0, .int 1, []),
  (91, .iload_n 2, 1, 2, 0, .null, []),
  (92, .invokevirtual 79, 3, 5, 4, .null, []),
  (95, .aload_n 0, 1, 0, 0, .null, []),
  (96, .getfield 12, 3, 7, 0, .null, []),
  (99, .getfield 235, 3, 0, 6, .null, []),
  (102, .iload 5, 2, 5, 0, .null, []),
  (104, .iconst 2, 1, 0, 0, .int 2, []),
  (105, .iload_n 3, 1, 3, 0, .null, []),
  (106, .invokevirtual 79, 3, 5, 4, .null, []),
  (109, .aload_n 0, 1, 0, 0, .null, []),
  (110, .getfield 12, 3, 7, 0, .null, []),
  (113, .getfield 235, 3, 0, 6, .null, []),
  (116, .iload 5, 2, 5, 0, .null, []),
  (118, .iconst 3, 1, 0, 0, .int 3, []),
  (119, .iload 4, 2, 4, 0, .null, []),
  (121, .invokevirtual 79, 3, 5, 4, .null, []),
  (124, .aload_n 0, 1, 0, 0, .null, []),
  (125, .getfield 12, 3, 7, 0, .null, []),
  (128, .getfield 235, 3, 0, 6, .null, []),
  (131, .iload 5, 2, 5, 0, .null, []),
  (133, .iconst 4, 1, 0, 0, .int 4, []),
  (134, .aload_n 0, 1, 0, 0, .null, []),
  (135, .getfield 12, 3, 7, 0, .null, []),
  (138, .getfield 107, 3, 0, 7, .null, []),
  (141, .invokevirtual 79, 3, 5, 4, .null, []),
  (144, .iload 5, 2, 5, 0, .null, []),
  (146, .ireturn, 1, 0, 0, .null, [])]
/-- RailPasses.isPast(I)Z -/
def rp_k117 : List rp_En := [(0, .iload_n 1, 1, 1, 0, .null, []),
  (1, .iconst 0, 1, 0, 0, .int 0, []),
  (2, .aload_n 0, 1, 0, 0, .null, []),
  (3, .getfield 12, 3, 7, 0, .null, []),
  (6, .getfield 107, 3, 0, 7, .null, []),
  (9, .invokestatic 61, 3, 15, 3, .null, []),
  (12, .ireturn, 1, 0, 0, .null, [])]
/-- RailPasses.miles(II)I -/
def rp_k118 : List rp_En := [(0, .iload_n 1, 1, 1, 0, .null, []),
  (1, .invokestatic 54, 3, 14, 1, .null, []),
  (4, .ifCond .eq 10, 3, 14, 0, .null, []),
  (7, .iload_n 2, 1, 2, 0, .null, []),
  (8, .invokestatic 54, 3, 14, 1, .null, []),
  (11, .ifCond .ne 5, 3, 16, 0, .null, []),
  (14, .iconst (-1), 1, 0, 0, .int (-1), []),
  (15, .ireturn, 1, 0, 0, .null, []),
  (16, .aload_n 0, 1, 0, 0, .null, []),
  (17, .getfield 29, 3, 7, 4, .null, []),
  (20, .iload_n 1, 1, 1, 0, .null, []),
  (21, .iload_n 2, 1, 2, 0, .null, []),
  (22, .invokevirtual 238, 3, 22, 3, .null, []),
  (25, .ifCond .eq 15, 3, 40, 0, .null, []),
  (28, .aload_n 0, 1, 0, 0, .null, []),
  (29, .getfield 29, 3, 7, 4, .null, []),
  (32, .iload_n 1, 1, 1, 0, .null, []),
  (33, .iload_n 2, 1, 2, 0, .null, []),
  (34, .invokevirtual 242, 3, 119, 3, .null, []),
  (37, .goto 5, 3, 42, 0, .null, []),
  (40, .bipush (-3), 2, 0, 0, .int (-3), []),
  (42, .ireturn, 1, 0, 0, .null, [])]
/-- RailPasses$Ways.milesOf(II)I -/
def rp_k119 : List rp_En := [(0, .aload_n 0, 1, 0, 0, .null, []),
  (1, .iload_n 1, 1, 1, 0, .null, []),
  (2, .iload_n 2, 1, 2, 0, .null, []),
  (3, .invokevirtual 36, 3, 23, 3, .null, []),
  (6, .bipush 14, 2, 0, 0, .int 14, []),
  (8, .ishr, 1, 0, 0, .null, []),
  (9, .ireturn, 1, 0, 0, .null, [])]
/-- RailPasses.way(II)I -/
def rp_k120 : List rp_En := [(0, .iload_n 1, 1, 1, 0, .null, []),
  (1, .invokestatic 54, 3, 14, 1, .null, []),
  (4, .ifCond .eq 10, 3, 14, 0, .null, []),
  (7, .iload_n 2, 1, 2, 0, .null, []),
  (8, .invokestatic 54, 3, 14, 1, .null, []),
  (11, .ifCond .ne 5, 3, 16, 0, .null, []),
  (14, .iconst (-1), 1, 0, 0, .int (-1), []),
  (15, .ireturn, 1, 0, 0, .null, []),
  (16, .aload_n 0, 1, 0, 0, .null, []),
  (17, .getfield 29, 3, 7, 4, .null, []),
  (20, .iload_n 1, 1, 1, 0, .null, []),
  (21, .iload_n 2, 1, 2, 0, .null, []),
  (22, .invokevirtual 238, 3, 22, 3, .null, []),
  (25, .ifCond .eq 15, 3, 40, 0, .null, []),
  (28, .aload_n 0, 1, 0, 0, .null, []),
  (29, .getfield 29, 3, 7, 4, .null, []),
  (32, .iload_n 1, 1, 1, 0, .null, []),
  (33, .iload_n 2, 1, 2, 0, .null, []),
  (34, .invokevirtual 245, 3, 121, 3, .null, []),
  (37, .goto 5, 3, 42, 0, .null, []),
  (40, .bipush (-3), 2, 0, 0, .int (-3), []),
  (42, .ireturn, 1, 0, 0, .null, [])]
/-- RailPasses$Ways.linesOf(II)I -/
def rp_k121 : List rp_En := [(0, .aload_n 0, 1, 0, 0, .null, []),
  (1, .iload_n 1, 1, 1, 0, .null, []),
  (2, .iload_n 2, 1, 2, 0, .null, []),
  (3, .invokevirtual 36, 3, 23, 3, .null, []),
  (6, .sipush 16383, 3, 0, 0, .int 16383, []),
  (9, .iand, 1, 0, 0, .null, []),
  (10, .ireturn, 1, 0, 0, .null, [])]
/-- RailPasses.ridden(III)I -/
def rp_k122 : List rp_En := [(0, .aload_n 0, 1, 0, 0, .null, []),
  (1, .getfield 12, 3, 7, 0, .null, []),
  (4, .getfield 143, 3, 0, 3, .null, []),
  (7, .iload_n 1, 1, 1, 0, .null, []),
  (8, .invokevirtual 91, 3, 25, 2, .null, []),
  (11, .ifCond .eq 21, 3, 32, 0, .null, []),
  (14, .iload_n 3, 1, 3, 0, .null, []),
  (15, .iconst 0, 1, 0, 0, .int 0, []),
  (16, .bipush 8, 2, 0, 0, .int 8, []),
  (18, .invokestatic 61, 3, 15, 3, .null, []),
  (21, .ifCond .eq 11, 3, 32, 0, .null, []),
  (24, .aload_n 0, 1, 0, 0, .null, []),
  (25, .iload_n 2, 1, 2, 0, .null, []),
  (26, .invokevirtual 232, 3, 117, 2, .null, []),
  (29, .ifCond .ne 5, 3, 34, 0, .null, []),
  (32, .iconst (-1), 1, 0, 0, .int (-1), []),
  (33, .ireturn, 1, 0, 0, .null, []),
  (34, .aload_n 0, 1, 0, 0, .null, []),
  (35, .getfield 50, 3, 7, 7, .null, []),
  (38, .aload_n 0, 1, 0, 0, .null, []),
  (39, .getfield 12, 3, 7, 0, .null, []),
  (42, .aload_n 0, 1, 0, 0, .null, []),
  (43, .getfield 29, 3, 7, 4, .null, []),
  (46, .iload_n 1, 1, 1, 0, .null, []),
  (47, .iload_n 2, 1, 2, 0, .null, []),
  (48, .invokevirtual 248, 3, 123, 5, .null, []),
  (51, .iload_n 3, 1, 3, 0, .null, []),
  (52, .tableswitch 64 0 3 #[32, 40, 48, 56], 32, 116, 0, .null, [(0, 84), (1, 92), (2, 100), (3, 108)]),
  (84, .aload_n 0, 1, 0, 0, .null, []),
  (85, .getfield 50, 3, 7, 7, .null, []),
  (88, .invokevirtual 251, 3, 131, 1, .null, []),
  (91, .ireturn, 1, 0, 0, .null, []),
  (92, .aload_n 0, 1, 0, 0, .null, []),
  (93, .getfield 50, 3, 7, 7, .null, []),
  (96, .invokevirtual 254, 3, 132, 1, .null, []),
  (99, .ireturn, 1, 0, 0, .null, []),
  (100, .aload_n 0, 1, 0, 0, .null, []),
  (101, .getfield 50, 3, 7, 7, .null, []),
  (104, .invokevirtual 257, 3, 133, 1, .null, []),
  (107, .ireturn, 1, 0, 0, .null, []),
  (108, .aload_n 0, 1, 0, 0, .null, []),
  (109, .getfield 50, 3, 7, 7, .null, []),
  (112, .invokevirtual 260, 3, 134, 1, .null, []),
  (115, .ireturn, 1, 0, 0, .null, []),
  (116, .aload_n 0, 1, 0, 0, .null, []),
  (117, .getfield 50, 3, 7, 7, .null, []),
  (120, .iload_n 3, 1, 3, 0, .null, []),
  (121, .iconst 4, 1, 0, 0, .int 4, []),
  (122, .isub, 1, 0, 0, .null, []),
  (123, .invokevirtual 263, 3, 135, 2, .null, []),
  (126, .ireturn, 1, 0, 0, .null, [])]
/-- RailPasses$Ledger.reckon(LRailPasses$Book;LRailPasses$Ways;II)V -/
def rp_k123 : List rp_En := [(0, .aload_n 0, 1, 0, 0, .null, []),
  (1, .aload_n 1, 1, 1, 0, .null, []),
  (2, .getfield 18, 3, 0, 6, .null, []),
  (5, .iload_n 3, 1, 3, 0, .null, []),
  (6, .iload 4, 2, 4, 0, .null, []),
  (8, .invokevirtual 24, 3, 124, 4, .null, []),
  (11, .aload_n 0, 1, 0, 0, .null, []),
  (12, .iconst 0, 1, 0, 0, .int 0, []),
  (13, .putfield 28, 3, 2, 2, .null, []),
  (16, .aload_n 0, 1, 0, 0, .null, []),
  (17, .iconst 0, 1, 0, 0, .int 0, []),
  (18, .putfield 32, 3, 2, 3, .null, []),
  (21, .aload_n 0, 1, 0, 0, .null, []),
  (22, .iconst 0, 1, 0, 0, .int 0, []),
  (23, .putfield 35, 3, 2, 4, .null, []),
  (26, .iconst 0, 1, 0, 0, .int 0, []),
  (27, .istore 5, 2, 5, 0, .null, []),
  (29, .iload 5, 2, 5, 0, .null, []),
  (31, .aload_n 0, 1, 0, 0, .null, []),
  (32, .getfield 15, 3, 2, 5, .null, []),
  (35, .arraylength, 1, 0, 0, .null, []),
  (36, .if_icmp .ge 17, 3, 53, 0, .null, []),
  (39, .aload_n 0, 1, 0, 0, .null, []),
  (40, .getfield 15, 3, 2, 5, .null, []),
  (43, .iload 5, 2, 5, 0, .null, []),
  (45, .iconst 0, 1, 0, 0, .int 0, []),
  (46, .iastore, 1, 0, 0, .null, []),
  (47, .iinc 5 1, 3, 5, 0, .int 1, []),
  (50, .goto (-21), 3, 29, 0, .null, []),
  (53, .iconst 0, 1, 0, 0, .int 0, []),
  (54, .istore 5, 2, 5, 0, .null, []),
  (56, .iload 5, 2, 5, 0, .null, []),
  (58, .iconst 1, 1, 0, 0, .int 1, []),
  (59, .iadd, 1, 0, 0, .null, []),
  (60, .aload_n 0, 1, 0, 0, .null, []),
  (61, .getfield 38, 3, 2, 1, .null, []),
  (64, .if_icmp .ge 29, 3, 93, 0, .null, []),
  (67, .aload_n 0, 1, 0, 0, .null, []),
  (68, .aload_n 1, 1, 1, 0, .null, []),
  (69, .aload_n 2, 1, 2, 0, .null, []),
  (70, .aload_n 0, 1, 0, 0, .null, []),
  (71, .iload 5, 2, 5, 0, .null, []),
  (73, .invokevirtual 41, 3, 126, 2, .null, []),
  (76, .aload_n 0, 1, 0, 0, .null, []),
  (77, .iload 5, 2, 5, 0, .null, []),
  (79, .iconst 1, 1, 0, 0, .int 1, []),
  (80, .iadd, 1, 0, 0, .null, []),
  (81, .invokevirtual 41, 3, 126, 2, .null, []),
  (84, .invokevirtual 45, 3, 129, 5, .null, []),
  (87, .iinc 5 1, 3, 5, 0, .int 1, []),
  (90, .goto (-34), 3, 56, 0, .null, []),
  (93, .return_, 1, 0, 0, .null, [])]
/-- RailPasses$Ledger.sortScans(LRailPasses$Table;II)V -/
def rp_k124 : List rp_En := [(0, .aload_n 0, 1, 0, 0, .null, []),
  (1, .iconst 0, 1, 0, 0, .int 0, []),
  (2, .putfield 38, 3, 2, 1, .null, []),
  (5, .iconst 0, 1, 0, 0, .int 0, []),
  (6, .istore 4, 2, 4, 0, .null, []),
  (8, .iload 4, 2, 4, 0, .null, []),
  (10, .aload_n 1, 1, 1, 0, .null, []),
  (11, .invokevirtual 49, 3, 19, 1, .null, []),
  (14, .if_icmp .ge 38, 3, 52, 0, .null, []),
  (17, .aload_n 1, 1, 1, 0, .null, []),
  (18, .iload 4, 2, 4, 0, .null, []),
  (20, .iconst 0, 1, 0, 0, .int 0, []),
  (21, .invokevirtual 55, 3, 20, 3, .null, []),
  (24, .iload_n 2, 1, 2, 0, .null, []),
  (25, .if_icmp .ne 21, 3, 46, 0, .null, []),
  (28, .aload_n 1, 1, 1, 0, .null, []),
  (29, .iload 4, 2, 4, 0, .null, []),
  (31, .iconst 4, 1, 0, 0, .int 4, []),
  (32, .invokevirtual 55, 3, 20, 3, .null, []),
  (35, .iload_n 3, 1, 3, 0, .null, []),
  (36, .if_icmp .gt 10, 3, 46, 0, .null, []),
  (39, .aload_n 0, 1, 0, 0, .null, []),
  (40, .aload_n 1, 1, 1, 0, .null, []),
  (41, .iload 4, 2, 4, 0, .null, []),
  (43, .invokevirtual 59, 3, 125, 3, .null, []),
  (46, .iinc 4 1, 3, 4, 0, .int 1, []),
  (49, .goto (-41), 3, 8, 0, .null, []),
  (52, .return_, 1, 0, 0, .null, [])]
/-- RailPasses$Ledger.insert(LRailPasses$Table;I)V -/
def rp_k125 : List rp_En := [(0, .aload_n 0, 1, 0, 0, .null, []),
  (1, .getfield 38, 3, 2, 1, .null, []),
  (4, .istore_n 3, 1, 3, 0, .null, []),
  (5, .iload_n 3, 1, 3, 0, .null, []),
  (6, .ifCond .le 40, 3, 46, 0, .null, []),
  (9, .aload_n 1, 1, 1, 0, .null, []),
  (10, .aload_n 0, 1, 0, 0, .null, []),
  (11, .iload_n 3, 1, 3, 0, .null, []),
  (12, .iconst 1, 1, 0, 0, .int 1, []),
  (13, .isub, 1, 0, 0, .null, []),
  (14, .invokevirtual 41, 3, 126, 2, .null, []),
  (17, .invokestatic 63, 3, 127, 2, .null, []),
  (20, .aload_n 1, 1, 1, 0, .null, []),
  (21, .iload_n 2, 1, 2, 0, .null, []),
  (22, .invokestatic 63, 3, 127, 2, .null, []),
  (25, .if_icmp .le 21, 3, 46, 0, .null, []),
  (28, .aload_n 0, 1, 0, 0, .null, []),
  (29, .iload_n 3, 1, 3, 0, .null, []),
  (30, .aload_n 0, 1, 0, 0, .null, []),
  (31, .iload_n 3, 1, 3, 0, .null, []),
  (32, .iconst 1, 1, 0, 0, .int 1, []),
  (33, .isub, 1, 0, 0, .null, []),
  (34, .invokevirtual 41, 3, 126, 2, .null, []),
  (37, .invokevirtual 67, 3, 128, 3, .null, []),
  (40, .iinc 3 (-1), 3, 3, 0, .int (-1), []),
  (43, .goto (-38), 3, 5, 0, .null, []),
  (46, .aload_n 0, 1, 0, 0, .null, []),
  (47, .iload_n 3, 1, 3, 0, .null, []),
  (48, .iload_n 2, 1, 2, 0, .null, []),
  (49, .invokevirtual 67, 3, 128, 3, .null, []),
  (52, .aload_n 0, 1, 0, 0, .null, []),
  (53, .dup, 1, 0, 0, .null, []),
  (54, .getfield 38, 3, 2, 1, .null, []),
  (57, .iconst 1, 1, 0, 0, .int 1, []),
  (58, .iadd, 1, 0, 0, .null, []),
  (59, .putfield 38, 3, 2, 1, .null, []),
  (62, .return_, 1, 0, 0, .null, [])]
/-- RailPasses$Ledger.scanAt(I)I -/
def rp_k126 : List rp_En := [(0, .iload_n 1, 1, 1, 0, .null, []),
  (1, .ifCond .lt 21, 3, 22, 0, .null, []),
  (4, .iload_n 1, 1, 1, 0, .null, []),
  (5, .aload_n 0, 1, 0, 0, .null, []),
  (6, .getfield 9, 3, 2, 0, .null, []),
  (9, .arraylength, 1, 0, 0, .null, []),
  (10, .if_icmp .ge 12, 3, 22, 0, .null, []),
  (13, .aload_n 0, 1, 0, 0, .null, []),
  (14, .getfield 9, 3, 2, 0, .null, []),
  (17, .iload_n 1, 1, 1, 0, .null, []),
  (18, .iaload, 1, 0, 0, .null, []),
  (19, .goto 4, 3, 23, 0, .null, []),
  (22, .iconst (-1), 1, 0, 0, .int (-1), []),
  (23, .ireturn, 1, 0, 0, .null, [])]
/-- RailPasses$Ledger.timeOf(LRailPasses$Table;I)I -/
def rp_k127 : List rp_En := [(0, .aload_n 0, 1, 0, 0, .null, []),
  (1, .iload_n 1, 1, 1, 0, .null, []),
  (2, .iconst 1, 1, 0, 0, .int 1, []),
  (3, .invokevirtual 55, 3, 20, 3, .null, []),
  (6, .sipush 1440, 3, 0, 0, .int 1440, []),
  (9, .imul, 1, 0, 0, .null, []),
  (10, .aload_n 0, 1, 0, 0, .null, []),
  (11, .iload_n 1, 1, 1, 0, .null, []),
  (12, .iconst 2, 1, 0, 0, .int 2, []),
  (13, .invokevirtual 55, 3, 20, 3, .null, []),
  (16, .iadd, 1, 0, 0, .null, []),
  (17, .ireturn, 1, 0, 0, .null, [])]
/-- RailPasses$Ledger.setScan(II)V -/
def rp_k128 : List rp_En := [(0, .iload_n 1, 1, 1, 0, .null, []),
  (1, .ifCond .lt 19, 3, 20, 0, .null, []),
  (4, .iload_n 1, 1, 1, 0, .null, []),
  (5, .aload_n 0, 1, 0, 0, .null, []),
  (6, .getfield 9, 3, 2, 0, .null, []),
  (9, .arraylength, 1, 0, 0, .null, []),
  (10, .if_icmp .ge 10, 3, 20, 0, .null, []),
  (13, .aload_n 0, 1, 0, 0, .null, []),
  (14, .getfield 9, 3, 2, 0, .null, []),
  (17, .iload_n 1, 1, 1, 0, .null, []),
  (18, .iload_n 2, 1, 2, 0, .null, []),
  (19, .iastore, 1, 0, 0, .null, []),
  (20, .return_, 1, 0, 0, .null, [])]
/-- RailPasses$Ledger.reckonPair(LRailPasses$Book;LRailPasses$Ways;II)V -/
def rp_k129 : List rp_En := [(0, .aload_n 1, 1, 1, 0, .null, []),
  (1, .getfield 18, 3, 0, 6, .null, []),
  (4, .iload_n 3, 1, 3, 0, .null, []),
  (5, .iconst 3, 1, 0, 0, .int 3, []),
  (6, .invokevirtual 55, 3, 20, 3, .null, []),
  (9, .istore 5, 2, 5, 0, .null, []),
  (11, .aload_n 1, 1, 1, 0, .null, []),
  (12, .getfield 18, 3, 0, 6, .null, []),
  (15, .iload 4, 2, 4, 0, .null, []),
  (17, .iconst 3, 1, 0, 0, .int 3, []),
  (18, .invokevirtual 55, 3, 20, 3, .null, []),
  (21, .istore 6, 2, 6, 0, .null, []),
  (23, .iload 5, 2, 5, 0, .null, []),
  (25, .iload 6, 2, 6, 0, .null, []),
  (27, .if_icmp .eq 25, 3, 52, 0, .null, []),
  (30, .aload_n 1, 1, 1, 0, .null, []),
  (31, .getfield 18, 3, 0, 6, .null, []),
  (34, .iload_n 3, 1, 3, 0, .null, []),
  (35, .iconst 1, 1, 0, 0, .int 1, []),
  (36, .invokevirtual 55, 3, 20, 3, .null, []),
  (39, .aload_n 1, 1, 1, 0, .null, []),
  (40, .getfield 18, 3, 0, 6, .null, []),
  (43, .iload 4, 2, 4, 0, .null, []),
  (45, .iconst 1, 1, 0, 0, .int 1, []),
  (46, .invokevirtual 55, 3, 20, 3, .null, []),
  (49, .if_icmp .eq 4, 3, 53, 0, .null, []),
  (52, .return_, 1, 0, 0, .null, []),
  (53, .aload_n 0, 1, 0, 0, .null, []),
  (54, .dup, 1, 0, 0, .null, []),
  (55, .getfield 28, 3, 2, 2, .null, []),
  (58, .iconst 1, 1, 0, 0, .int 1, []),
  (59, .iadd, 1, 0, 0, .null, []),
  (60, .putfield 28, 3, 2, 2, .null, []),
  (63, .aload_n 1, 1, 1, 0, .null, []),
  (64, .getfield 18, 3, 0, 6, .null, []),
  (67, .iload 4, 2, 4, 0, .null, []),
  (69, .invokestatic 63, 3, 127, 2, .null, []),
  (72, .aload_n 1, 1, 1, 0, .null, []),
  (73, .getfield 18, 3, 0, 6, .null, []),
  (76, .iload_n 3, 1, 3, 0, .null, []),
  (77, .invokestatic 63, 3, 127, 2, .null, []),
  (80, .isub, 1, 0, 0, .null, []),
  (81, .istore 7, 2, 7, 0, .null, []),
  (83, .aload_n 2, 1, 2, 0, .null, []),
  (84, .iload 5, 2, 5, 0, .null, []),
  (86, .iload 6, 2, 6, 0, .null, []),
  (88, .invokevirtual 71, 3, 22, 3, .null, []),
  (91, .ifCond .ne 16, 3, 107, 0, .null, []),
  (94, .aload_n 0, 1, 0, 0, .null, []),
  (95, .dup, 1, 0, 0, .null, []),
  (96, .getfield 32, 3, 2, 3, .null, []),
  (99, .iconst 1, 1, 0, 0, .int 1, []),
  (100, .iadd, 1, 0, 0, .null, []),
  (101, .putfield 32, 3, 2, 3, .null, []),
  (104, .goto 47, 3, 151, 0, .null, []),
  (107, .aload_n 2, 1, 2, 0, .null, []),
  (108, .iload 5, 2, 5, 0, .null, []),
  (110, .iload 6, 2, 6, 0, .null, []),
  (112, .invokevirtual 77, 3, 119, 3, .null, []),
  (115, .iconst 3, 1, 0, 0, .int 3, []),
  (116, .iload 7, 2, 7, 0, .null, []),
  (118, .imul, 1, 0, 0, .null, []),
  (119, .if_icmp .le 16, 3, 135, 0, .null, []),
  (122, .aload_n 0, 1, 0, 0, .null, []),
  (123, .dup, 1, 0, 0, .null, []),
  (124, .getfield 35, 3, 2, 4, .null, []),
  (127, .iconst 1, 1, 0, 0, .int 1, []),
  (128, .iadd, 1, 0, 0, .null, []),
  (129, .putfield 35, 3, 2, 4, .null, []),
  (132, .goto 19, 3, 151, 0, .null, []),
  (135, .aload_n 0, 1, 0, 0, .null, []),
  (136, .aload_n 1, 1, 1, 0, .null, []),
  (137, .getfield 80, 3, 0, 0, .null, []),
  (140, .aload_n 2, 1, 2, 0, .null, []),
  (141, .iload 5, 2, 5, 0, .null, []),
  (143, .iload 6, 2, 6, 0, .null, []),
  (145, .invokevirtual 83, 3, 121, 3, .null, []),
  (148, .invokevirtual 86, 3, 130, 3, .null, []),
  (151, .return_, 1, 0, 0, .null, [])]
/-- RailPasses$Ledger.addMiles(LRailPasses$Table;I)V -/
def rp_k130 : List rp_En := [(0, .iconst 0, 1, 0, 0, .int 0, []),
  (1, .istore_n 3, 1, 3, 0, .null, []),
  (2, .iload_n 3, 1, 3, 0, .null, []),
  (3, .aload_n 1, 1, 1, 0, .null, []),
  (4, .invokevirtual 49, 3, 19, 1, .null, []),
  (7, .if_icmp .ge 57, 3, 64, 0, .null, []),
  (10, .aload_n 1, 1, 1, 0, .null, []),
  (11, .iload_n 3, 1, 3, 0, .null, []),
  (12, .iconst 2, 1, 0, 0, .int 2, []),
  (13, .invokevirtual 55, 3, 20, 3, .null, []),
  (16, .istore 4, 2, 4, 0, .null, []),
  (18, .iload_n 2, 1, 2, 0, .null, []),
  (19, .iload_n 3, 1, 3, 0, .null, []),
  (20, .ishr, 1, 0, 0, .null, []),
  (21, .iconst 1, 1, 0, 0, .int 1, []),
  (22, .iand, 1, 0, 0, .null, []),
  (23, .iconst 1, 1, 0, 0, .int 1, []),
  (24, .if_icmp .ne 34, 3, 58, 0, .null, []),
  (27, .iload 4, 2, 4, 0, .null, []),
  (29, .ifCond .lt 29, 3, 58, 0, .null, []),
  (32, .iload 4, 2, 4, 0, .null, []),
  (34, .aload_n 0, 1, 0, 0, .null, []),
  (35, .getfield 15, 3, 2, 5, .null, []),
  (38, .arraylength, 1, 0, 0, .null, []),
  (39, .if_icmp .ge 19, 3, 58, 0, .null, []),
  (42, .aload_n 0, 1, 0, 0, .null, []),
  (43, .getfield 15, 3, 2, 5, .null, []),
  (46, .iload 4, 2, 4, 0, .null, []),
  (48, .dup2, 1, 0, 0, .null, []),
  (49, .iaload, 1, 0, 0, .null, []),
  (50, .aload_n 1, 1, 1, 0, .null, []),
  (51, .iload_n 3, 1, 3, 0, .null, []),
  (52, .iconst 3, 1, 0, 0, .int 3, []),
  (53, .invokevirtual 55, 3, 20, 3, .null, []),
  (56, .iadd, 1, 0, 0, .null, []),
  (57, .iastore, 1, 0, 0, .null, []),
  (58, .iinc 3 1, 3, 3, 0, .int 1, []),
  (61, .goto (-59), 3, 2, 0, .null, []),
  (64, .return_, 1, 0, 0, .null, [])]
/-- RailPasses$Ledger.legs()I -/
def rp_k131 : List rp_En := [(0, .aload_n 0, 1, 0, 0, .null, []),
  (1, .getfield 28, 3, 2, 2, .null, []),
  (4, .ireturn, 1, 0, 0, .null, [])]
/-- RailPasses$Ledger.wayless()I -/
def rp_k132 : List rp_En := [(0, .aload_n 0, 1, 0, 0, .null, []),
  (1, .getfield 32, 3, 2, 3, .null, []),
  (4, .ireturn, 1, 0, 0, .null, [])]
/-- RailPasses$Ledger.doubted()I -/
def rp_k133 : List rp_En := [(0, .aload_n 0, 1, 0, 0, .null, []),
  (1, .getfield 35, 3, 2, 4, .null, []),
  (4, .ireturn, 1, 0, 0, .null, [])]
/-- RailPasses$Ledger.allMiles()I -/
def rp_k134 : List rp_En := [(0, .iconst 0, 1, 0, 0, .int 0, []),
  (1, .istore_n 1, 1, 1, 0, .null, []),
  (2, .iconst 0, 1, 0, 0, .int 0, []),
  (3, .istore_n 2, 1, 2, 0, .null, []),
  (4, .iload_n 2, 1, 2, 0, .null, []),
  (5, .iconst 5, 1, 0, 0, .int 5, []),
  (6, .if_icmp .ge 17, 3, 23, 0, .null, []),
  (9, .iload_n 1, 1, 1, 0, .null, []),
  (10, .aload_n 0, 1, 0, 0, .null, []),
  (11, .iload_n 2, 1, 2, 0, .null, []),
  (12, .invokevirtual 89, 3, 135, 2, .null, []),
  (15, .iadd, 1, 0, 0, .null, []),
  (16, .istore_n 1, 1, 1, 0, .null, []),
  (17, .iinc 2 1, 3, 2, 0, .int 1, []),
  (20, .goto (-16), 3, 4, 0, .null, []),
  (23, .iload_n 1, 1, 1, 0, .null, []),
  (24, .ireturn, 1, 0, 0, .null, [])]
/-- RailPasses$Ledger.milesBy(I)I -/
def rp_k135 : List rp_En := [(0, .iload_n 1, 1, 1, 0, .null, []),
  (1, .ifCond .lt 21, 3, 22, 0, .null, []),
  (4, .iload_n 1, 1, 1, 0, .null, []),
  (5, .aload_n 0, 1, 0, 0, .null, []),
  (6, .getfield 15, 3, 2, 5, .null, []),
  (9, .arraylength, 1, 0, 0, .null, []),
  (10, .if_icmp .ge 12, 3, 22, 0, .null, []),
  (13, .aload_n 0, 1, 0, 0, .null, []),
  (14, .getfield 15, 3, 2, 5, .null, []),
  (17, .iload_n 1, 1, 1, 0, .null, []),
  (18, .iaload, 1, 0, 0, .null, []),
  (19, .goto 4, 3, 23, 0, .null, []),
  (22, .iconst 0, 1, 0, 0, .int 0, []),
  (23, .ireturn, 1, 0, 0, .null, [])]
/-- RailPasses.part(III)I -/
def rp_k136 : List rp_En := [(0, .aload_n 0, 1, 0, 0, .null, []),
  (1, .getfield 12, 3, 7, 0, .null, []),
  (4, .getfield 143, 3, 0, 3, .null, []),
  (7, .iload_n 1, 1, 1, 0, .null, []),
  (8, .invokevirtual 91, 3, 25, 2, .null, []),
  (11, .ifCond .eq 18, 3, 29, 0, .null, []),
  (14, .iload_n 2, 1, 2, 0, .null, []),
  (15, .invokestatic 58, 3, 16, 1, .null, []),
  (18, .ifCond .eq 11, 3, 29, 0, .null, []),
  (21, .aload_n 0, 1, 0, 0, .null, []),
  (22, .iload_n 3, 1, 3, 0, .null, []),
  (23, .invokevirtual 232, 3, 117, 2, .null, []),
  (26, .ifCond .ne 5, 3, 31, 0, .null, []),
  (29, .iconst (-1), 1, 0, 0, .int (-1), []),
  (30, .ireturn, 1, 0, 0, .null, []),
  (31, .aload_n 0, 1, 0, 0, .null, []),
  (32, .getfield 50, 3, 7, 7, .null, []),
  (35, .aload_n 0, 1, 0, 0, .null, []),
  (36, .getfield 12, 3, 7, 0, .null, []),
  (39, .aload_n 0, 1, 0, 0, .null, []),
  (40, .getfield 29, 3, 7, 4, .null, []),
  (43, .iload_n 1, 1, 1, 0, .null, []),
  (44, .iload_n 3, 1, 3, 0, .null, []),
  (45, .invokevirtual 248, 3, 123, 5, .null, []),
  (48, .aload_n 0, 1, 0, 0, .null, []),
  (49, .getfield 50, 3, 7, 7, .null, []),
  (52, .aload_n 0, 1, 0, 0, .null, []),
  (53, .getfield 12, 3, 7, 0, .null, []),
  (56, .getfield 143, 3, 0, 3, .null, []),
  (59, .iload_n 1, 1, 1, 0, .null, []),
  (60, .bipush 11, 2, 0, 0, .int 11, []),
  (62, .invokevirtual 103, 3, 20, 3, .null, []),
  (65, .iload_n 2, 1, 2, 0, .null, []),
  (66, .invokevirtual 266, 3, 137, 3, .null, []),
  (69, .ireturn, 1, 0, 0, .null, [])]
/-- RailPasses$Ledger.share(II)I -/
def rp_k137 : List rp_En := [(0, .aload_n 0, 1, 0, 0, .null, []),
  (1, .invokevirtual 92, 3, 134, 1, .null, []),
  (4, .istore_n 3, 1, 3, 0, .null, []),
  (5, .iload_n 3, 1, 3, 0, .null, []),
  (6, .ifCond .gt 13, 3, 19, 0, .null, []),
  (9, .iload_n 2, 1, 2, 0, .null, []),
  (10, .ifCond .ne 7, 3, 17, 0, .null, []),
  (13, .iload_n 1, 1, 1, 0, .null, []),
  (14, .goto 4, 3, 18, 0, .null, []),
  (17, .iconst 0, 1, 0, 0, .int 0, []),
  (18, .ireturn, 1, 0, 0, .null, []),
  (19, .iload_n 1, 1, 1, 0, .null, []),
  (20, .istore 4, 2, 4, 0, .null, []),
  (22, .iconst 0, 1, 0, 0, .int 0, []),
  (23, .istore 5, 2, 5, 0, .null, []),
  (25, .iload_n 1, 1, 1, 0, .null, []),
  (26, .aload_n 0, 1, 0, 0, .null, []),
  (27, .iload_n 2, 1, 2, 0, .null, []),
  (28, .invokevirtual 89, 3, 135, 2, .null, []),
  (31, .imul, 1, 0, 0, .null, []),
  (32, .iload_n 3, 1, 3, 0, .null, []),
  (33, .irem, 1, 0, 0, .null, []),
  (34, .istore 6, 2, 6, 0, .null, []),
  (36, .iconst 0, 1, 0, 0, .int 0, []),
  (37, .istore 7, 2, 7, 0, .null, []),
  (39, .iload 7, 2, 7, 0, .null, []),
  (41, .iconst 5, 1, 0, 0, .int 5, []),
  (42, .if_icmp .ge 59, 3, 101, 0, .null, []),
  (45, .iload 4, 2, 4, 0, .null, []),
  (47, .iload_n 1, 1, 1, 0, .null, []),
  (48, .aload_n 0, 1, 0, 0, .null, []),
  (49, .iload 7, 2, 7, 0, .null, []),
  (51, .invokevirtual 89, 3, 135, 2, .null, []),
  (54, .imul, 1, 0, 0, .null, []),
  (55, .iload_n 3, 1, 3, 0, .null, []),
  (56, .idiv, 1, 0, 0, .null, []),
  (57, .isub, 1, 0, 0, .null, []),
  (58, .istore 4, 2, 4, 0, .null, []),
  (60, .iload_n 1, 1, 1, 0, .null, []),
  (61, .aload_n 0, 1, 0, 0, .null, []),
  (62, .iload 7, 2, 7, 0, .null, []),
  (64, .invokevirtual 89, 3, 135, 2, .null, []),
  (67, .imul, 1, 0, 0, .null, []),
  (68, .iload_n 3, 1, 3, 0, .null, []),
  (69, .irem, 1, 0, 0, .null, []),
  (70, .istore 8, 2, 8, 0, .null, []),
  (72, .iload 8, 2, 8, 0, .null, []),
  (74, .iload 6, 2, 6, 0, .null, []),
  (76, .if_icmp .gt 16, 3, 92, 0, .null, []),
  (79, .iload 8, 2, 8, 0, .null, []),
  (81, .iload 6, 2, 6, 0, .null, []),
  (83, .if_icmp .ne 12, 3, 95, 0, .null, []),
  (86, .iload 7, 2, 7, 0, .null, []),
  (88, .iload_n 2, 1, 2, 0, .null, []),
  (89, .if_icmp .ge 6, 3, 95, 0, .null, []),
  (92, .iinc 5 1, 3, 5, 0, .int 1, []),
  (95, .iinc 7 1, 3, 7, 0, .int 1, []),
  (98, .goto (-59), 3, 39, 0, .null, []),
  (101, .iload_n 1, 1, 1, 0, .null, []),
  (102, .aload_n 0, 1, 0, 0, .null, []),
  (103, .iload_n 2, 1, 2, 0, .null, []),
  (104, .invokevirtual 89, 3, 135, 2, .null, []),
  (107, .imul, 1, 0, 0, .null, []),
  (108, .iload_n 3, 1, 3, 0, .null, []),
  (109, .idiv, 1, 0, 0, .null, []),
  (110, .iload 5, 2, 5, 0, .null, []),
  (112, .iload 4, 2, 4, 0, .null, []),
  (114, .if_icmp .ge 7, 3, 121, 0, .null, []),
  (117, .iconst 1, 1, 0, 0, .int 1, []),
  (118, .goto 4, 3, 122, 0, .null, []),
  (121, .iconst 0, 1, 0, 0, .int 0, []),
  (122, .iadd, 1, 0, 0, .null, []),
  (123, .ireturn, 1, 0, 0, .null, [])]
/-- RailPasses.account(II)I -/
def rp_k138 : List rp_En := [(0, .iload_n 1, 1, 1, 0, .null, []),
  (1, .invokestatic 58, 3, 16, 1, .null, []),
  (4, .ifCond .eq 11, 3, 15, 0, .null, []),
  (7, .aload_n 0, 1, 0, 0, .null, []),
  (8, .iload_n 2, 1, 2, 0, .null, []),
  (9, .invokevirtual 232, 3, 117, 2, .null, []),
  (12, .ifCond .ne 5, 3, 17, 0, .null, []),
  (15, .iconst (-1), 1, 0, 0, .int (-1), []),
  (16, .ireturn, 1, 0, 0, .null, []),
  (17, .iconst 0, 1, 0, 0, .int 0, []),
  (18, .istore_n 3, 1, 3, 0, .null, []),
  (19, .iconst 0, 1, 0, 0, .int 0, []),
  (20, .istore 4, 2, 4, 0, .null, []),
  (22, .iload 4, 2, 4, 0, .null, []),
  (24, .aload_n 0, 1, 0, 0, .null, []),
  (25, .getfield 12, 3, 7, 0, .null, []),
  (28, .getfield 143, 3, 0, 3, .null, []),
  (31, .invokevirtual 179, 3, 19, 1, .null, []),
  (34, .if_icmp .ge 84, 3, 118, 0, .null, []),
  (37, .aload_n 0, 1, 0, 0, .null, []),
  (38, .getfield 50, 3, 7, 7, .null, []),
  (41, .aload_n 0, 1, 0, 0, .null, []),
  (42, .getfield 12, 3, 7, 0, .null, []),
  (45, .aload_n 0, 1, 0, 0, .null, []),
  (46, .getfield 29, 3, 7, 4, .null, []),
  (49, .iload 4, 2, 4, 0, .null, []),
  (51, .iload_n 2, 1, 2, 0, .null, []),
  (52, .invokevirtual 248, 3, 123, 5, .null, []),
  (55, .iload_n 3, 1, 3, 0, .null, []),
  (56, .aload_n 0, 1, 0, 0, .null, []),
  (57, .getfield 50, 3, 7, 7, .null, []),
  (60, .aload_n 0, 1, 0, 0, .null, []),
  (61, .getfield 12, 3, 7, 0, .null, []),
  (64, .getfield 143, 3, 0, 3, .null, []),
  (67, .iload 4, 2, 4, 0, .null, []),
  (69, .bipush 11, 2, 0, 0, .int 11, []),
  (71, .invokevirtual 103, 3, 20, 3, .null, []),
  (74, .iload_n 1, 1, 1, 0, .null, []),
  (75, .invokevirtual 266, 3, 137, 3, .null, []),
  (78, .iadd, 1, 0, 0, .null, []),
  (79, .istore_n 3, 1, 3, 0, .null, []),
  (80, .aload_n 0, 1, 0, 0, .null, []),
  (81, .getfield 12, 3, 7, 0, .null, []),
  (84, .iload 4, 2, 4, 0, .null, []),
  (86, .invokevirtual 183, 3, 69, 2, .null, []),
  (89, .ifCond .eq 23, 3, 112, 0, .null, []),
  (92, .iload_n 3, 1, 3, 0, .null, []),
  (93, .aload_n 0, 1, 0, 0, .null, []),
  (94, .getfield 50, 3, 7, 7, .null, []),
  (97, .aload_n 0, 1, 0, 0, .null, []),
  (98, .getfield 12, 3, 7, 0, .null, []),
  (101, .iload 4, 2, 4, 0, .null, []),
  (103, .invokevirtual 159, 3, 68, 2, .null, []),
  (106, .iload_n 1, 1, 1, 0, .null, []),
  (107, .invokevirtual 266, 3, 137, 3, .null, []),
  (110, .isub, 1, 0, 0, .null, []),
  (111, .istore_n 3, 1, 3, 0, .null, []),
  (112, .iinc 4 1, 3, 4, 0, .int 1, []),
  (115, .goto (-93), 3, 22, 0, .null, []),
  (118, .iload_n 3, 1, 3, 0, .null, []),
  (119, .ireturn, 1, 0, 0, .null, [])]
/-- RailPasses.many(I)I -/
def rp_k139 : List rp_En := [(0, .iload_n 1, 1, 1, 0, .null, []),
  (1, .tableswitch 156 0 9 #[55, 66, 77, 85, 96, 107, 118, 129, 140, 148], 55, 157, 0, .null, [(0, 56), (1, 67), (2, 78), (3, 86), (4, 97), (5, 108), (6, 119), (7, 130), (8, 141), (9, 149)]),
  (56, .aload_n 0, 1, 0, 0, .null, []),
  (57, .getfield 12, 3, 7, 0, .null, []),
  (60, .getfield 65, 3, 0, 0, .null, []),
  (63, .invokevirtual 179, 3, 19, 1, .null, []),
  (66, .ireturn, 1, 0, 0, .null, []),
  (67, .aload_n 0, 1, 0, 0, .null, []),
  (68, .getfield 12, 3, 7, 0, .null, []),
  (71, .getfield 100, 3, 0, 1, .null, []),
  (74, .invokevirtual 179, 3, 19, 1, .null, []),
  (77, .ireturn, 1, 0, 0, .null, []),
  (78, .aload_n 0, 1, 0, 0, .null, []),
  (79, .getfield 12, 3, 7, 0, .null, []),
  (82, .invokevirtual 269, 3, 140, 1, .null, []),
  (85, .ireturn, 1, 0, 0, .null, []),
  (86, .aload_n 0, 1, 0, 0, .null, []),
  (87, .getfield 12, 3, 7, 0, .null, []),
  (90, .getfield 143, 3, 0, 3, .null, []),
  (93, .invokevirtual 179, 3, 19, 1, .null, []),
  (96, .ireturn, 1, 0, 0, .null, []),
  (97, .aload_n 0, 1, 0, 0, .null, []),
  (98, .getfield 12, 3, 7, 0, .null, []),
  (101, .getfield 169, 3, 0, 4, .null, []),
  (104, .invokevirtual 179, 3, 19, 1, .null, []),
  (107, .ireturn, 1, 0, 0, .null, []),
  (108, .aload_n 0, 1, 0, 0, .null, []),
  (109, .getfield 12, 3, 7, 0, .null, []),
  (112, .getfield 186, 3, 0, 5, .null, []),
  (115, .invokevirtual 179, 3, 19, 1, .null, []),
  (118, .ireturn, 1, 0, 0, .null, []),
  (119, .aload_n 0, 1, 0, 0, .null, []),
  (120, .getfield 43, 3, 7, 6, .null, []),
  (123, .getfield 226, 3, 4, 0, .null, []),
  (126, .invokevirtual 179, 3, 19, 1, .null, []),
  (129, .ireturn, 1, 0, 0, .null, []),
  (130, .aload_n 0, 1, 0, 0, .null, []),
  (131, .getfield 12, 3, 7, 0, .null, []),
  (134, .getfield 235, 3, 0, 6, .null, []),
  (137, .invokevirtual 179, 3, 19, 1, .null, []),
  (140, .ireturn, 1, 0, 0, .null, []),
  (141, .aload_n 0, 1, 0, 0, .null, []),
  (142, .getfield 22, 3, 7, 3, .null, []),
  (145, .invokevirtual 111, 3, 31, 1, .null, []),
  (148, .ireturn, 1, 0, 0, .null, []),
  (149, .aload_n 0, 1, 0, 0, .null, []),
  (150, .getfield 12, 3, 7, 0, .null, []),
  (153, .getfield 107, 3, 0, 7, .null, []),
  (156, .ireturn, 1, 0, 0, .null, []),
  (157, .iconst (-1), 1, 0, 0, .int (-1), []),
  (158, .ireturn, 1, 0, 0, .null, [])]
/-- RailPasses$Book.lawsThere()I -/
def rp_k140 : List rp_En := [(0, .iconst 0, 1, 0, 0, .int 0, []),
  (1, .istore_n 1, 1, 1, 0, .null, []),
  (2, .iconst 0, 1, 0, 0, .int 0, []),
  (3, .istore_n 2, 1, 2, 0, .null, []),
  (4, .iload_n 2, 1, 2, 0, .null, []),
  (5, .iconst 3, 1, 0, 0, .int 3, []),
  (6, .if_icmp .ge 22, 3, 28, 0, .null, []),
  (9, .iload_n 1, 1, 1, 0, .null, []),
  (10, .aload_n 0, 1, 0, 0, .null, []),
  (11, .getfield 23, 3, 0, 2, .null, []),
  (14, .iload_n 2, 1, 2, 0, .null, []),
  (15, .bipush 11, 2, 0, 0, .int 11, []),
  (17, .invokevirtual 50, 3, 20, 3, .null, []),
  (20, .iadd, 1, 0, 0, .null, []),
  (21, .istore_n 1, 1, 1, 0, .null, []),
  (22, .iinc 2 1, 3, 2, 0, .int 1, []),
  (25, .goto (-21), 3, 4, 0, .null, []),
  (28, .iload_n 1, 1, 1, 0, .null, []),
  (29, .ireturn, 1, 0, 0, .null, [])]
/-- RailPasses.keep()I -/
def rp_k141 : List rp_En := [(0, .aload_n 0, 1, 0, 0, .null, []),
  (1, .getfield 16, 3, 7, 1, .null, []),
  (4, .aload_n 0, 1, 0, 0, .null, []),
  (5, .getfield 12, 3, 7, 0, .null, []),
  (8, .invokevirtual 272, 3, 142, 2, .null, []),
  (11, .aload_n 0, 1, 0, 0, .null, []),
  (12, .iconst 1, 1, 0, 0, .int 1, []),
  (13, .putfield 275, 3, 7, 2, .int 1, []),
  (16, .iconst 1, 1, 0, 0, .int 1, []),
  (17, .ireturn, 1, 0, 0, .null, [])]
/-- RailPasses$Book.copyFrom(LRailPasses$Book;)V -/
def rp_k142 : List rp_En := [(0, .aload_n 0, 1, 0, 0, .null, []),
  (1, .getfield 14, 3, 0, 0, .null, []),
  (4, .aload_n 1, 1, 1, 0, .null, []),
  (5, .getfield 14, 3, 0, 0, .null, []),
  (8, .invokevirtual 42, 3, 143, 2, .null, []),
  (11, .aload_n 0, 1, 0, 0, .null, []),
  (12, .getfield 20, 3, 0, 1, .null, []),
  (15, .aload_n 1, 1, 1, 0, .null, []),
  (16, .getfield 20, 3, 0, 1, .null, []),
  (19, .invokevirtual 42, 3, 143, 2, .null, []),
  (22, .aload_n 0, 1, 0, 0, .null, []),
  (23, .getfield 23, 3, 0, 2, .null, []),
  (26, .aload_n 1, 1, 1, 0, .null, []),
  (27, .getfield 23, 3, 0, 2, .null, []),
  (30, .invokevirtual 42, 3, 143, 2, .null, []),
  (33, .aload_n 0, 1, 0, 0, .null, []),
  (34, .getfield 26, 3, 0, 3, .null, []),
  (37, .aload_n 1, 1, 1, 0, .null, []),
  (38, .getfield 26, 3, 0, 3, .null, []),
  (41, .invokevirtual 42, 3, 143, 2, .null, []),
  (44, .aload_n 0, 1, 0, 0, .null, []),
  (45, .getfield 29, 3, 0, 4, .null, []),
  (48, .aload_n 1, 1, 1, 0, .null, []),
  (49, .getfield 29, 3, 0, 4, .null, []),
  (52, .invokevirtual 42, 3, 143, 2, .null, []),
  (55, .aload_n 0, 1, 0, 0, .null, []),
  (56, .getfield 32, 3, 0, 5, .null, []),
  (59, .aload_n 1, 1, 1, 0, .null, []),
  (60, .getfield 32, 3, 0, 5, .null, []),
  (63, .invokevirtual 42, 3, 143, 2, .null, []),
  (66, .aload_n 0, 1, 0, 0, .null, []),
  (67, .getfield 35, 3, 0, 6, .null, []),
  (70, .aload_n 1, 1, 1, 0, .null, []),
  (71, .getfield 35, 3, 0, 6, .null, []),
  (74, .invokevirtual 42, 3, 143, 2, .null, []),
  (77, .aload_n 0, 1, 0, 0, .null, []),
  (78, .aload_n 1, 1, 1, 0, .null, []),
  (79, .getfield 46, 3, 0, 7, .null, []),
  (82, .putfield 46, 3, 0, 7, .null, []),
  (85, .return_, 1, 0, 0, .null, [])]
/-- RailPasses$Table.copyFrom(LRailPasses$Table;)V -/
def rp_k143 : List rp_En := [(0, .aload_n 0, 1, 0, 0, .null, []),
  (1, .aload_n 1, 1, 1, 0, .null, []),
  (2, .getfield 26, 3, 5, 3, .null, []),
  (5, .aload_n 0, 1, 0, 0, .null, []),
  (6, .getfield 13, 3, 5, 1, .null, []),
  (9, .invokestatic 47, 3, 5002, 2, .null, []),
  (12, .putfield 26, 3, 5, 3, .null, []),
  (15, .iconst 0, 1, 0, 0, .int 0, []),
  (16, .istore_n 2, 1, 2, 0, .null, []),
  (17, .iload_n 2, 1, 2, 0, .null, []),
  (18, .aload_n 0, 1, 0, 0, .null, []),
  (19, .getfield 22, 3, 5, 0, .null, []),
  (22, .arraylength, 1, 0, 0, .null, []),
  (23, .if_icmp .ge 30, 3, 53, 0, .null, []),
  (26, .iload_n 2, 1, 2, 0, .null, []),
  (27, .aload_n 1, 1, 1, 0, .null, []),
  (28, .getfield 22, 3, 5, 0, .null, []),
  (31, .arraylength, 1, 0, 0, .null, []),
  (32, .if_icmp .ge 21, 3, 53, 0, .null, []),
  (35, .aload_n 0, 1, 0, 0, .null, []),
  (36, .getfield 22, 3, 5, 0, .null, []),
  (39, .iload_n 2, 1, 2, 0, .null, []),
  (40, .aload_n 1, 1, 1, 0, .null, []),
  (41, .getfield 22, 3, 5, 0, .null, []),
  (44, .iload_n 2, 1, 2, 0, .null, []),
  (45, .iaload, 1, 0, 0, .null, []),
  (46, .iastore, 1, 0, 0, .null, []),
  (47, .iinc 2 1, 3, 2, 0, .int 1, []),
  (50, .goto (-33), 3, 17, 0, .null, []),
  (53, .return_, 1, 0, 0, .null, [])]
/-- RailPasses.back()I -/
def rp_k144 : List rp_En := [(0, .aload_n 0, 1, 0, 0, .null, []),
  (1, .getfield 275, 3, 7, 2, .int 1, []),
  (4, .ifCond .ne 6, 3, 10, 0, .null, []),
  (7, .bipush (-3), 2, 0, 0, .int (-3), []),
  (9, .ireturn, 1, 0, 0, .null, []),
  (10, .aload_n 0, 1, 0, 0, .null, []),
  (11, .getfield 12, 3, 7, 0, .null, []),
  (14, .aload_n 0, 1, 0, 0, .null, []),
  (15, .getfield 16, 3, 7, 1, .null, []),
  (18, .invokevirtual 272, 3, 142, 2, .null, []),
  (21, .aload_n 0, 1, 0, 0, .null, []),
  (22, .getfield 29, 3, 7, 4, .null, []),
  (25, .aload_n 0, 1, 0, 0, .null, []),
  (26, .getfield 12, 3, 7, 0, .null, []),
  (29, .getfield 65, 3, 0, 0, .null, []),
  (32, .invokevirtual 87, 3, 18, 2, .null, []),
  (35, .iconst 1, 1, 0, 0, .int 1, []),
  (36, .ireturn, 1, 0, 0, .null, [])]
/-- RailPassesModel.<init>()V -/
def rp_k145 : List rp_En := [(0, .aload_n 0, 1, 0, 0, .null, []),
  (1, .invokespecial 1, 3, 5000, 1, .null, []),
  (4, .aload_n 0, 1, 0, 0, .null, []),
  (5, .bipush 7, 2, 0, 0, .int 7, []),
  (7, .newarray .int, 2, 0, 0, .null, []),
  (9, .putfield 7, 3, 8, 0, .ref 0, [(0, 0)]),
  (12, .aload_n 0, 1, 0, 0, .null, []),
  (13, .bipush 70, 2, 0, 0, .int 70, []),
  (15, .newarray .int, 2, 0, 0, .null, []),
  (17, .putfield 13, 3, 8, 1, .ref 0, [(0, 0)]),
  (20, .aload_n 0, 1, 0, 0, .null, []),
  (21, .sipush 128, 3, 0, 0, .int 128, []),
  (24, .newarray .int, 2, 0, 0, .null, []),
  (26, .putfield 16, 3, 8, 2, .ref 0, [(0, 0)]),
  (29, .aload_n 0, 1, 0, 0, .null, []),
  (30, .bipush 48, 2, 0, 0, .int 48, []),
  (32, .newarray .int, 2, 0, 0, .null, []),
  (34, .putfield 19, 3, 8, 3, .ref 0, [(0, 0)]),
  (37, .aload_n 0, 1, 0, 0, .null, []),
  (38, .sipush 128, 3, 0, 0, .int 128, []),
  (41, .newarray .int, 2, 0, 0, .null, []),
  (43, .putfield 22, 3, 8, 4, .ref 0, [(0, 0)]),
  (46, .aload_n 0, 1, 0, 0, .null, []),
  (47, .bipush 120, 2, 0, 0, .int 120, []),
  (49, .newarray .int, 2, 0, 0, .null, []),
  (51, .putfield 25, 3, 8, 5, .ref 0, [(0, 0)]),
  (54, .aload_n 0, 1, 0, 0, .null, []),
  (55, .bipush 20, 2, 0, 0, .int 20, []),
  (57, .newarray .int, 2, 0, 0, .null, []),
  (59, .putfield 28, 3, 8, 6, .ref 0, [(0, 0)]),
  (62, .aload_n 0, 1, 0, 0, .null, []),
  (63, .sipush 200, 3, 0, 0, .int 200, []),
  (66, .newarray .int, 2, 0, 0, .null, []),
  (68, .putfield 31, 3, 8, 7, .ref 0, [(0, 0)]),
  (71, .aload_n 0, 1, 0, 0, .null, []),
  (72, .sipush 300, 3, 0, 0, .int 300, []),
  (75, .newarray .int, 2, 0, 0, .null, []),
  (77, .putfield 34, 3, 8, 8, .ref 0, [(0, 0)]),
  (80, .aload_n 0, 1, 0, 0, .null, []),
  (81, .bipush 122, 2, 0, 0, .int 122, []),
  (83, .newarray .int, 2, 0, 0, .null, []),
  (85, .putfield 37, 3, 8, 16, .ref 0, [(0, 0)]),
  (88, .aload_n 0, 1, 0, 0, .null, []),
  (89, .bipush 122, 2, 0, 0, .int 122, []),
  (91, .newarray .int, 2, 0, 0, .null, []),
  (93, .putfield 40, 3, 8, 17, .ref 0, [(0, 0)]),
  (96, .aload_n 0, 1, 0, 0, .null, []),
  (97, .bipush 122, 2, 0, 0, .int 122, []),
  (99, .newarray .boolean, 2, 0, 0, .null, []),
  (101, .putfield 43, 3, 8, 18, .ref 0, [(0, 0)]),
  (104, .aload_n 0, 1, 0, 0, .null, []),
  (105, .sipush 1089, 3, 0, 0, .int 1089, []),
  (108, .newarray .int, 2, 0, 0, .null, []),
  (110, .putfield 47, 3, 8, 22, .ref 0, [(0, 0)]),
  (113, .aload_n 0, 1, 0, 0, .null, []),
  (114, .sipush 600, 3, 0, 0, .int 600, []),
  (117, .newarray .int, 2, 0, 0, .null, []),
  (119, .putfield 50, 3, 8, 24, .ref 0, [(0, 0)]),
  (122, .aload_n 0, 1, 0, 0, .null, []),
  (123, .bipush 10, 2, 0, 0, .int 10, []),
  (125, .newarray .int, 2, 0, 0, .null, []),
  (127, .putfield 53, 3, 8, 26, .ref 0, [(0, 0)]),
  (130, .aload_n 0, 1, 0, 0, .null, []),
  (131, .bipush 9, 2, 0, 0, .int 9, []),
  (133, .newarray .int, 2, 0, 0, .null, []),
  (135, .putfield 56, 3, 8, 27, .ref 0, [(0, 0)]),
  (138, .aload_n 0, 1, 0, 0, .null, []),
  (139, .iconst 5, 1, 0, 0, .int 5, []),
  (140, .newarray .int, 2, 0, 0, .null, []),
  (142, .putfield 59, 3, 8, 28, .ref 0, [(0, 0)]),
  (145, .aload_n 0, 1, 0, 0, .null, []),
  (146, .iconst 5, 1, 0, 0, .int 5, []),
  (147, .newarray .int, 2, 0, 0, .null, []),
  (149, .putfield 62, 3, 8, 29, .ref 0, [(0, 0)]),
  (152, .aload_n 0, 1, 0, 0, .null, []),
  (153, .sipush 725, 3, 0, 0, .int 725, []),
  (156, .newarray .int, 2, 0, 0, .null, []),
  (158, .putfield 65, 3, 8, 31, .ref 0, [(0, 0)]),
  (161, .return_, 1, 0, 0, .null, [])]
/-- RailPassesModel.line(IIIIZ)I -/
def rp_k146 : List rp_En := [(0, .iload_n 1, 1, 1, 0, .null, []),
  (1, .invokestatic 72, 3, 147, 1, .null, []),
  (4, .ifCond .eq 36, 3, 40, 0, .null, []),
  (7, .iload_n 2, 1, 2, 0, .null, []),
  (8, .invokestatic 72, 3, 147, 1, .null, []),
  (11, .ifCond .eq 29, 3, 40, 0, .null, []),
  (14, .iload_n 1, 1, 1, 0, .null, []),
  (15, .iload_n 2, 1, 2, 0, .null, []),
  (16, .if_icmp .eq 24, 3, 40, 0, .null, []),
  (19, .iload_n 3, 1, 3, 0, .null, []),
  (20, .iconst 0, 1, 0, 0, .int 0, []),
  (21, .iconst 4, 1, 0, 0, .int 4, []),
  (22, .invokestatic 68, 3, 148, 3, .null, []),
  (25, .ifCond .eq 15, 3, 40, 0, .null, []),
  (28, .iload 4, 2, 4, 0, .null, []),
  (30, .iconst 1, 1, 0, 0, .int 1, []),
  (31, .sipush 300, 3, 0, 0, .int 300, []),
  (34, .invokestatic 68, 3, 148, 3, .null, []),
  (37, .ifCond .ne 5, 3, 42, 0, .null, []),
  (40, .iconst (-1), 1, 0, 0, .int (-1), []),
  (41, .ireturn, 1, 0, 0, .null, []),
  (42, .aload_n 0, 1, 0, 0, .null, []),
  (43, .getfield 7, 3, 8, 0, .null, []),
  (46, .iconst 0, 1, 0, 0, .int 0, []),
  (47, .iaload, 1, 0, 0, .null, []),
  (48, .bipush 14, 2, 0, 0, .int 14, []),
  (50, .if_icmp .ne 6, 3, 56, 0, .null, []),
  (53, .bipush (-2), 2, 0, 0, .int (-2), []),
  (55, .ireturn, 1, 0, 0, .null, []),
  (56, .iconst 5, 1, 0, 0, .int 5, []),
  (57, .aload_n 0, 1, 0, 0, .null, []),
  (58, .getfield 7, 3, 8, 0, .null, []),
  (61, .iconst 0, 1, 0, 0, .int 0, []),
  (62, .iaload, 1, 0, 0, .null, []),
  (63, .imul, 1, 0, 0, .null, []),
  (64, .istore 6, 2, 6, 0, .null, []),
  (66, .aload_n 0, 1, 0, 0, .null, []),
  (67, .getfield 13, 3, 8, 1, .null, []),
  (70, .iload 6, 2, 6, 0, .null, []),
  (72, .iload_n 1, 1, 1, 0, .null, []),
  (73, .iastore, 1, 0, 0, .null, []),
  (74, .aload_n 0, 1, 0, 0, .null, []),
  (75, .getfield 13, 3, 8, 1, .null, []),
  (78, .iload 6, 2, 6, 0, .null, []),
  (80, .iconst 1, 1, 0, 0, .int 1, []),
  (81, .iadd, 1, 0, 0, .null, []),
  (82, .iload_n 2, 1, 2, 0, .null, []),
  (83, .iastore, 1, 0, 0, .null, []),
  (84, .aload_n 0, 1, 0, 0, .null, []),
  (85, .getfield 13, 3, 8, 1, .null, []),
  (88, .iload 6, 2, 6, 0, .null, []),
  (90, .iconst 2, 1, 0, 0, .int 2, []),
  (91, .iadd, 1, 0, 0, .null, []),
  (92, .iload_n 3, 1, 3, 0, .null, []),
  (93, .iastore, 1, 0, 0, .null, []),
  (94, .aload_n 0, 1, 0, 0, .null, []),
  (95, .getfield 13, 3, 8, 1, .null, []),
  (98, .iload 6, 2, 6, 0, .null, []),
  (100, .iconst 3, 1, 0, 0, .int 3, []),
  (101, .iadd, 1, 0, 0, .null, []),
  (102, .iload 4, 2, 4, 0, .null, []),
  (104, .iastore, 1, 0, 0, .null, []),
  (105, .aload_n 0, 1, 0, 0, .null, []),
  (106, .getfield 13, 3, 8, 1, .null, []),
  (109, .iload 6, 2, 6, 0, .null, []),
  (111, .iconst 4, 1, 0, 0, .int 4, []),
  (112, .iadd, 1, 0, 0, .null, []),
  (113, .iload 5, 2, 5, 0, .null, []),
  (115, .ifCond .eq 7, 3, 122, 0, .null, []),
  (118, .iconst 1, 1, 0, 0, .int 1, []),
  (119, .goto 4, 3, 123, 0, .null, []),
  (122, .iconst 0, 1, 0, 0, .int 0, []),
  (123, .iastore, 1, 0, 0, .null, []),
  (124, .aload_n 0, 1, 0, 0, .null, []),
  (125, .getfield 7, 3, 8, 0, .null, []),
  (128, .iconst 0, 1, 0, 0, .int 0, []),
  (129, .dup2, 1, 0, 0, .null, []),
  (130, .iaload, 1, 0, 0, .null, []),
  (131, .iconst 1, 1, 0, 0, .int 1, []),
  (132, .iadd, 1, 0, 0, .null, []),
  (133, .iastore, 1, 0, 0, .null, []),
  (134, .aload_n 0, 1, 0, 0, .null, []),
  (135, .getfield 7, 3, 8, 0, .null, []),
  (138, .iconst 0, 1, 0, 0, .int 0, []),
  (139, .iaload, 1, 0, 0, .null, []),
  (140, .iconst 1, 1, 0, 0, .int 1, []),
  (141, .isub, 1, 0, 0, .null, []),
  (142, .ireturn, 1, 0, 0, .null, [])]
/-- RailPassesModel.isStation(I)Z -/
def rp_k147 : List rp_En := [(0, .iload_n 0, 1, 0, 0, .null, []),
  (1, .iconst 0, 1, 0, 0, .int 0, []),
  (2, .bipush 9, 2, 0, 0, .int 9, []),
  (4, .invokestatic 68, 3, 148, 3, .null, []),
  (7, .ireturn, 1, 0, 0, .null, [])]
/-- RailPassesModel.in(III)Z -/
def rp_k148 : List rp_En := [(0, .iload_n 0, 1, 0, 0, .null, []),
  (1, .iload_n 1, 1, 1, 0, .null, []),
  (2, .if_icmp .lt 12, 3, 14, 0, .null, []),
  (5, .iload_n 0, 1, 0, 0, .null, []),
  (6, .iload_n 2, 1, 2, 0, .null, []),
  (7, .if_icmp .gt 7, 3, 14, 0, .null, []),
  (10, .iconst 1, 1, 0, 0, .int 1, []),
  (11, .goto 4, 3, 15, 0, .null, []),
  (14, .iconst 0, 1, 0, 0, .int 0, []),
  (15, .ireturn, 1, 0, 0, .null, [])]
/-- RailPassesModel.train(IZIIZI)I -/
def rp_k149 : List rp_En := [(0, .iload_n 1, 1, 1, 0, .null, []),
  (1, .iconst 0, 1, 0, 0, .int 0, []),
  (2, .aload_n 0, 1, 0, 0, .null, []),
  (3, .getfield 7, 3, 8, 0, .null, []),
  (6, .iconst 0, 1, 0, 0, .int 0, []),
  (7, .iaload, 1, 0, 0, .null, []),
  (8, .iconst 1, 1, 0, 0, .int 1, []),
  (9, .isub, 1, 0, 0, .null, []),
  (10, .invokestatic 68, 3, 148, 3, .null, []),
  (13, .ifCond .eq 30, 3, 43, 0, .null, []),
  (16, .iload_n 3, 1, 3, 0, .null, []),
  (17, .iconst 0, 1, 0, 0, .int 0, []),
  (18, .sipush 1439, 3, 0, 0, .int 1439, []),
  (21, .invokestatic 68, 3, 148, 3, .null, []),
  (24, .ifCond .eq 19, 3, 43, 0, .null, []),
  (27, .iload 4, 2, 4, 0, .null, []),
  (29, .iconst 1, 1, 0, 0, .int 1, []),
  (30, .sipush 900, 3, 0, 0, .int 900, []),
  (33, .invokestatic 68, 3, 148, 3, .null, []),
  (36, .ifCond .eq 7, 3, 43, 0, .null, []),
  (39, .iconst 1, 1, 0, 0, .int 1, []),
  (40, .goto 4, 3, 44, 0, .null, []),
  (43, .iconst 0, 1, 0, 0, .int 0, []),
  (44, .istore 7, 2, 7, 0, .null, []),
  (46, .iload 7, 2, 7, 0, .null, []),
  (48, .ifCond .eq 27, 3, 75, 0, .null, []),
  (51, .iload 6, 2, 6, 0, .null, []),
  (53, .iconst 0, 1, 0, 0, .int 0, []),
  (54, .sipush 9999, 3, 0, 0, .int 9999, []),
  (57, .invokestatic 68, 3, 148, 3, .null, []),
  (60, .ifCond .eq 15, 3, 75, 0, .null, []),
  (63, .iload 6, 2, 6, 0, .null, []),
  (65, .sipush 1000, 3, 0, 0, .int 1000, []),
  (68, .irem, 1, 0, 0, .null, []),
  (69, .sipush 500, 3, 0, 0, .int 500, []),
  (72, .if_icmp .le 5, 3, 77, 0, .null, []),
  (75, .iconst (-1), 1, 0, 0, .int (-1), []),
  (76, .ireturn, 1, 0, 0, .null, []),
  (77, .aload_n 0, 1, 0, 0, .null, []),
  (78, .getfield 7, 3, 8, 0, .null, []),
  (81, .iconst 1, 1, 0, 0, .int 1, []),
  (82, .iaload, 1, 0, 0, .null, []),
  (83, .bipush 16, 2, 0, 0, .int 16, []),
  (85, .if_icmp .ne 6, 3, 91, 0, .null, []),
  (88, .bipush (-2), 2, 0, 0, .int (-2), []),
  (90, .ireturn, 1, 0, 0, .null, []),
  (91, .bipush 8, 2, 0, 0, .int 8, []),
  (93, .aload_n 0, 1, 0, 0, .null, []),
  (94, .getfield 7, 3, 8, 0, .null, []),
  (97, .iconst 1, 1, 0, 0, .int 1, []),
  (98, .iaload, 1, 0, 0, .null, []),
  (99, .imul, 1, 0, 0, .null, []),
  (100, .istore 8, 2, 8, 0, .null, []),
  (102, .aload_n 0, 1, 0, 0, .null, []),
  (103, .getfield 16, 3, 8, 2, .null, []),
  (106, .iload 8, 2, 8, 0, .null, []),
  (108, .iload_n 1, 1, 1, 0, .null, []),
  (109, .iastore, 1, 0, 0, .null, []),
  (110, .aload_n 0, 1, 0, 0, .null, []),
  (111, .getfield 16, 3, 8, 2, .null, []),
  (114, .iload 8, 2, 8, 0, .null, []),
  (116, .iconst 1, 1, 0, 0, .int 1, []),
  (117, .iadd, 1, 0, 0, .null, []),
  (118, .aload_n 0, 1, 0, 0, .null, []),
  (119, .getfield 13, 3, 8, 1, .null, []),
  (122, .iconst 5, 1, 0, 0, .int 5, []),
  (123, .iload_n 1, 1, 1, 0, .null, []),
  (124, .imul, 1, 0, 0, .null, []),
  (125, .iload_n 2, 1, 2, 0, .null, []),
  (126, .ifCond .eq 7, 3, 133, 0, .null, []),
  (129, .iconst 0, 1, 0, 0, .int 0, []),
  (130, .goto 4, 3, 134, 0, .null, []),
  (133, .iconst 1, 1, 0, 0, .int 1, []),
  (134, .iadd, 1, 0, 0, .null, []),
  (135, .iaload, 1, 0, 0, .null, []),
  (136, .iastore, 1, 0, 0, .null, []),
  (137, .aload_n 0, 1, 0, 0, .null, []),
  (138, .getfield 16, 3, 8, 2, .null, []),
  (141, .iload 8, 2, 8, 0, .null, []),
  (143, .iconst 2, 1, 0, 0, .int 2, []),
  (144, .iadd, 1, 0, 0, .null, []),
  (145, .aload_n 0, 1, 0, 0, .null, []),
  (146, .getfield 13, 3, 8, 1, .null, []),
  (149, .iconst 5, 1, 0, 0, .int 5, []),
  (150, .iload_n 1, 1, 1, 0, .null, []),
  (151, .imul, 1, 0, 0, .null, []),
  (152, .iload_n 2, 1, 2, 0, .null, []),
  (153, .ifCond .eq 7, 3, 160, 0, .null, []),
  (156, .iconst 1, 1, 0, 0, .int 1, []),
  (157, .goto 4, 3, 161, 0, .null, []),
  (160, .iconst 0, 1, 0, 0, .int 0, []),
  (161, .iadd, 1, 0, 0, .null, []),
  (162, .iaload, 1, 0, 0, .null, []),
  (163, .iastore, 1, 0, 0, .null, []),
  (164, .aload_n 0, 1, 0, 0, .null, []),
  (165, .getfield 16, 3, 8, 2, .null, []),
  (168, .iload 8, 2, 8, 0, .null, []),
  (170, .iconst 3, 1, 0, 0, .int 3, []),
  (171, .iadd, 1, 0, 0, .null, []),
  (172, .iload_n 3, 1, 3, 0, .null, []),
  (173, .iastore, 1, 0, 0, .null, []),
  (174, .aload_n 0, 1, 0, 0, .null, []),
  (175, .getfield 16, 3, 8, 2, .null, []),
  (178, .iload 8, 2, 8, 0, .null, []),
  (180, .iconst 4, 1, 0, 0, .int 4, []),
  (181, .iadd, 1, 0, 0, .null, []),
  (182, .iload 4, 2, 4, 0, .null, []),
  (184, .iastore, 1, 0, 0, .null, []),
  (185, .aload_n 0, 1, 0, 0, .null, []),
  (186, .getfield 16, 3, 8, 2, .null, []),
  (189, .iload 8, 2, 8, 0, .null, []),
  (191, .iconst 5, 1, 0, 0, .int 5, []),
  (192, .iadd, 1, 0, 0, .null, []),
  (193, .iload 5, 2, 5, 0, .null, []),
  (195, .ifCond .eq 7, 3, 202, 0, .null, []),
  (198, .iconst 1, 1, 0, 0, .int 1, []),
  (199, .goto 4, 3, 203, 0, .null, []),
  (202, .iconst 0, 1, 0, 0, .int 0, []),
  (203, .iastore, 1, 0, 0, .null, []),
  (204, .aload_n 0, 1, 0, 0, .null, []),
  (205, .getfield 16, 3, 8, 2, .null, []),
  (208, .iload 8, 2, 8, 0, .null, []),
  (210, .bipush 6, 2, 0, 0, .int 6, []),
  (212, .iadd, 1, 0, 0, .null, []),
  (213, .iload 6, 2, 6, 0, .null, []),
  (215, .sipush 1000, 3, 0, 0, .int 1000, []),
  (218, .irem, 1, 0, 0, .null, []),
  (219, .iastore, 1, 0, 0, .null, []),
  (220, .aload_n 0, 1, 0, 0, .null, []),
  (221, .getfield 16, 3, 8, 2, .null, []),
  (224, .iload 8, 2, 8, 0, .null, []),
  (226, .bipush 7, 2, 0, 0, .int 7, []),
  (228, .iadd, 1, 0, 0, .null, []),
  (229, .iload 6, 2, 6, 0, .null, []),
  (231, .sipush 1000, 3, 0, 0, .int 1000, []),
  (234, .idiv, 1, 0, 0, .null, []),
  (235, .iastore, 1, 0, 0, .null, []),
  (236, .aload_n 0, 1, 0, 0, .null, []),
  (237, .getfield 7, 3, 8, 0, .null, []),
  (240, .iconst 1, 1, 0, 0, .int 1, []),
  (241, .dup2, 1, 0, 0, .null, []),
  (242, .iaload, 1, 0, 0, .null, []),
  (243, .iconst 1, 1, 0, 0, .int 1, []),
  (244, .iadd, 1, 0, 0, .null, []),
  (245, .iastore, 1, 0, 0, .null, []),
  (246, .aload_n 0, 1, 0, 0, .null, []),
  (247, .getfield 7, 3, 8, 0, .null, []),
  (250, .iconst 1, 1, 0, 0, .int 1, []),
  (251, .iaload, 1, 0, 0, .null, []),
  (252, .iconst 1, 1, 0, 0, .int 1, []),
  (253, .isub, 1, 0, 0, .null, []),
  (254, .ireturn, 1, 0, 0, .null, [])]
/-- RailPassesModel.of(II)I -/
def rp_k150 : List rp_En := [(0, .aload_n 0, 1, 0, 0, .null, []),
  (1, .iload_n 1, 1, 1, 0, .null, []),
  (2, .invokevirtual 76, 3, 151, 2, .null, []),
  (5, .ifCond .eq 13, 3, 18, 0, .null, []),
  (8, .iload_n 2, 1, 2, 0, .null, []),
  (9, .iconst 0, 1, 0, 0, .int 0, []),
  (10, .bipush 8, 2, 0, 0, .int 8, []),
  (12, .invokestatic 68, 3, 148, 3, .null, []),
  (15, .ifCond .ne 5, 3, 20, 0, .null, []),
  (18, .iconst (-1), 1, 0, 0, .int (-1), []),
  (19, .ireturn, 1, 0, 0, .null, []),
  (20, .iload_n 2, 1, 2, 0, .null, []),
  (21, .bipush 8, 2, 0, 0, .int 8, []),
  (23, .if_icmp .ne 19, 3, 42, 0, .null, []),
  (26, .aload_n 0, 1, 0, 0, .null, []),
  (27, .iload_n 1, 1, 1, 0, .null, []),
  (28, .invokevirtual 79, 3, 152, 2, .null, []),
  (31, .ifCond .eq 7, 3, 38, 0, .null, []),
  (34, .iconst 1, 1, 0, 0, .int 1, []),
  (35, .goto 18, 3, 53, 0, .null, []),
  (38, .iconst 0, 1, 0, 0, .int 0, []),
  (39, .goto 14, 3, 53, 0, .null, []),
  (42, .aload_n 0, 1, 0, 0, .null, []),
  (43, .getfield 16, 3, 8, 2, .null, []),
  (46, .bipush 8, 2, 0, 0, .int 8, []),
  (48, .iload_n 1, 1, 1, 0, .null, []),
  (49, .imul, 1, 0, 0, .null, []),
  (50, .iload_n 2, 1, 2, 0, .null, []),
  (51, .iadd, 1, 0, 0, .null, []),
  (52, .iaload, 1, 0, 0, .null, []),
  (53, .ireturn, 1, 0, 0, .null, [])]
/-- RailPassesModel.isTrain(I)Z -/
def rp_k151 : List rp_En := [(0, .iload_n 1, 1, 1, 0, .null, []),
  (1, .iconst 0, 1, 0, 0, .int 0, []),
  (2, .aload_n 0, 1, 0, 0, .null, []),
  (3, .getfield 7, 3, 8, 0, .null, []),
  (6, .iconst 1, 1, 0, 0, .int 1, []),
  (7, .iaload, 1, 0, 0, .null, []),
  (8, .iconst 1, 1, 0, 0, .int 1, []),
  (9, .isub, 1, 0, 0, .null, []),
  (10, .invokestatic 68, 3, 148, 3, .null, []),
  (13, .ireturn, 1, 0, 0, .null, [])]
/-- RailPassesModel.isOver(I)Z -/
def rp_k152 : List rp_En := [(0, .aload_n 0, 1, 0, 0, .null, []),
  (1, .getfield 16, 3, 8, 2, .null, []),
  (4, .bipush 8, 2, 0, 0, .int 8, []),
  (6, .iload_n 1, 1, 1, 0, .null, []),
  (7, .imul, 1, 0, 0, .null, []),
  (8, .iconst 3, 1, 0, 0, .int 3, []),
  (9, .iadd, 1, 0, 0, .null, []),
  (10, .iaload, 1, 0, 0, .null, []),
  (11, .aload_n 0, 1, 0, 0, .null, []),
  (12, .getfield 16, 3, 8, 2, .null, []),
  (15, .bipush 8, 2, 0, 0, .int 8, []),
  (17, .iload_n 1, 1, 1, 0, .null, []),
  (18, .imul, 1, 0, 0, .null, []),
  (19, .iconst 4, 1, 0, 0, .int 4, []),
  (20, .iadd, 1, 0, 0, .null, []),
  (21, .iaload, 1, 0, 0, .null, []),
  (22, .iadd, 1, 0, 0, .null, []),
  (23, .sipush 1440, 3, 0, 0, .int 1440, []),
  (26, .if_icmp .lt 7, 3, 33, 0, .null, []),
  (29, .iconst 1, 1, 0, 0, .int 1, []),
  (30, .goto 4, 3, 34, 0, .null, []),
  (33, .iconst 0, 1, 0, 0, .int 0, []),
  (34, .ireturn, 1, 0, 0, .null, [])]
/-- RailPassesModel.days(I)I -/
def rp_k153 : List rp_En := [(0, .iload_n 1, 1, 1, 0, .null, []),
  (1, .iconst 1, 1, 0, 0, .int 1, []),
  (2, .bipush 20, 2, 0, 0, .int 20, []),
  (4, .invokestatic 68, 3, 148, 3, .null, []),
  (7, .ifCond .ne 5, 3, 12, 0, .null, []),
  (10, .iconst (-1), 1, 0, 0, .int (-1), []),
  (11, .ireturn, 1, 0, 0, .null, []),
  (12, .aload_n 0, 1, 0, 0, .null, []),
  (13, .getfield 7, 3, 8, 0, .null, []),
  (16, .bipush 6, 2, 0, 0, .int 6, []),
  (18, .iaload, 1, 0, 0, .null, []),
  (19, .iload_n 1, 1, 1, 0, .null, []),
  (20, .iadd, 1, 0, 0, .null, []),
  (21, .bipush 120, 2, 0, 0, .int 120, []),
  (23, .if_icmp .le 6, 3, 29, 0, .null, []),
  (26, .bipush (-4), 2, 0, 0, .int (-4), []),
  (28, .ireturn, 1, 0, 0, .null, []),
  (29, .aload_n 0, 1, 0, 0, .null, []),
  (30, .getfield 7, 3, 8, 0, .null, []),
  (33, .bipush 6, 2, 0, 0, .int 6, []),
  (35, .dup2, 1, 0, 0, .null, []),
  (36, .iaload, 1, 0, 0, .null, []),
  (37, .iload_n 1, 1, 1, 0, .null, []),
  (38, .iadd, 1, 0, 0, .null, []),
  (39, .iastore, 1, 0, 0, .null, []),
  (40, .aload_n 0, 1, 0, 0, .null, []),
  (41, .getfield 7, 3, 8, 0, .null, []),
  (44, .bipush 6, 2, 0, 0, .int 6, []),
  (46, .iaload, 1, 0, 0, .null, []),
  (47, .ireturn, 1, 0, 0, .null, [])]
/-- RailPassesModel.feed(JI)I -/
def rp_k154 : List rp_En := [(0, .iload_n 3, 1, 3, 0, .null, []),
  (1, .iconst 1, 1, 0, 0, .int 1, []),
  (2, .bipush 8, 2, 0, 0, .int 8, []),
  (4, .invokestatic 68, 3, 148, 3, .null, []),
  (7, .ifCond .ne 5, 3, 12, 0, .null, []),
  (10, .iconst (-1), 1, 0, 0, .int (-1), []),
  (11, .ireturn, 1, 0, 0, .null, []),
  (12, .aload_n 0, 1, 0, 0, .null, []),
  (13, .getfield 82, 3, 8, 9, .null, []),
  (16, .iload_n 3, 1, 3, 0, .null, []),
  (17, .iadd, 1, 0, 0, .null, []),
  (18, .sipush 300, 3, 0, 0, .int 300, []),
  (21, .if_icmp .le 6, 3, 27, 0, .null, []),
  (24, .bipush (-2), 2, 0, 0, .int (-2), []),
  (26, .ireturn, 1, 0, 0, .null, []),
  (27, .iconst 0, 1, 0, 0, .int 0, []),
  (28, .istore 4, 2, 4, 0, .null, []),
  (30, .iload 4, 2, 4, 0, .null, []),
  (32, .iload_n 3, 1, 3, 0, .null, []),
  (33, .if_icmp .ge 40, 3, 73, 0, .null, []),
  (36, .aload_n 0, 1, 0, 0, .null, []),
  (37, .getfield 34, 3, 8, 8, .null, []),
  (40, .aload_n 0, 1, 0, 0, .null, []),
  (41, .getfield 82, 3, 8, 9, .null, []),
  (44, .lload_n 1, 1, 1, 0, .null, []),
  (45, .bipush 8, 2, 0, 0, .int 8, []),
  (47, .iload 4, 2, 4, 0, .null, []),
  (49, .imul, 1, 0, 0, .null, []),
  (50, .lushr, 1, 0, 0, .null, []),
  (51, .ldc2_w 86, 3, 0, 0, .long 255, []),
  (54, .land, 1, 0, 0, .null, []),
  (55, .l2i, 1, 0, 0, .null, []),
  (56, .iastore, 1, 0, 0, .null, []),
  (57, .aload_n 0, 1, 0, 0, .null, []),
  (58, .dup, 1, 0, 0, .null, []),
  (59, .getfield 82, 3, 8, 9, .null, []),
  (62, .iconst 1, 1, 0, 0, .int 1, []),
  (63, .iadd, 1, 0, 0, .null, []),
  (64, .putfield 82, 3, 8, 9, .null, []),
  (67, .iinc 4 1, 3, 4, 0, .int 1, []),
  (70, .goto (-40), 3, 30, 0, .null, []),
  (73, .aload_n 0, 1, 0, 0, .null, []),
  (74, .getfield 82, 3, 8, 9, .null, []),
  (77, .ireturn, 1, 0, 0, .null, [])]
/-- RailPassesModel.read(I)I -/
def rp_k155 : List rp_En := [(0, .iload_n 1, 1, 1, 0, .null, []),
  (1, .invokestatic 138, 3, 156, 1, .null, []),
  (4, .ifCond .ne 10, 3, 14, 0, .null, []),
  (7, .aload_n 0, 1, 0, 0, .null, []),
  (8, .iconst 0, 1, 0, 0, .int 0, []),
  (9, .putfield 82, 3, 8, 9, .null, []),
  (12, .iconst (-1), 1, 0, 0, .int (-1), []),
  (13, .ireturn, 1, 0, 0, .null, []),
  (14, .bipush 36, 2, 0, 0, .int 36, []),
  (16, .istore_n 2, 1, 2, 0, .null, []),
  (17, .iconst 0, 1, 0, 0, .int 0, []),
  (18, .istore_n 3, 1, 3, 0, .null, []),
  (19, .iload_n 3, 1, 3, 0, .null, []),
  (20, .bipush 12, 2, 0, 0, .int 12, []),
  (22, .if_icmp .ge 39, 3, 61, 0, .null, []),
  (25, .aload_n 0, 1, 0, 0, .null, []),
  (26, .getfield 19, 3, 8, 3, .null, []),
  (29, .iload_n 2, 1, 2, 0, .null, []),
  (30, .iload_n 3, 1, 3, 0, .null, []),
  (31, .iadd, 1, 0, 0, .null, []),
  (32, .iload_n 3, 1, 3, 0, .null, []),
  (33, .iconst 5, 1, 0, 0, .int 5, []),
  (34, .if_icmp .ne 8, 3, 42, 0, .null, []),
  (37, .bipush 24, 2, 0, 0, .int 24, []),
  (39, .goto 15, 3, 54, 0, .null, []),
  (42, .iload_n 3, 1, 3, 0, .null, []),
  (43, .bipush 8, 2, 0, 0, .int 8, []),
  (45, .if_icmp .ne 8, 3, 53, 0, .null, []),
  (48, .bipush 100, 2, 0, 0, .int 100, []),
  (50, .goto 4, 3, 54, 0, .null, []),
  (53, .iconst 0, 1, 0, 0, .int 0, []),
  (54, .iastore, 1, 0, 0, .null, []),
  (55, .iinc 3 1, 3, 3, 0, .int 1, []),
  (58, .goto (-39), 3, 19, 0, .null, []),
  (61, .aload_n 0, 1, 0, 0, .null, []),
  (62, .iconst (-1), 1, 0, 0, .int (-1), []),
  (63, .putfield 106, 3, 8, 14, .null, []),
  (66, .aload_n 0, 1, 0, 0, .null, []),
  (67, .iconst 0, 1, 0, 0, .int 0, []),
  (68, .putfield 127, 3, 8, 15, .null, []),
  (71, .aload_n 0, 1, 0, 0, .null, []),
  (72, .iconst 0, 1, 0, 0, .int 0, []),
  (73, .putfield 88, 3, 8, 12, .null, []),
  (76, .aload_n 0, 1, 0, 0, .null, []),
  (77, .invokevirtual 113, 3, 157, 1, .null, []),
  (80, .iconst 0, 1, 0, 0, .int 0, []),
  (81, .istore_n 3, 1, 3, 0, .null, []),
  (82, .aload_n 0, 1, 0, 0, .null, []),
  (83, .getfield 97, 3, 8, 10, .null, []),
  (86, .ifCond .eq 20, 3, 106, 0, .null, []),
  (89, .aload_n 0, 1, 0, 0, .null, []),
  (90, .invokevirtual 109, 3, 160, 1, .null, []),
  (93, .ifCond .eq 13, 3, 106, 0, .null, []),
  (96, .aload_n 0, 1, 0, 0, .null, []),
  (97, .invokevirtual 141, 3, 161, 1, .null, []),
  (100, .iinc 3 1, 3, 3, 0, .int 1, []),
  (103, .goto (-21), 3, 82, 0, .null, []),
  (106, .aload_n 0, 1, 0, 0, .null, []),
  (107, .invokevirtual 109, 3, 160, 1, .null, []),
  (110, .ifCond .eq 31, 3, 141, 0, .null, []),
  (113, .aload_n 0, 1, 0, 0, .null, []),
  (114, .getfield 127, 3, 8, 15, .null, []),
  (117, .iconst 1, 1, 0, 0, .int 1, []),
  (118, .iand, 1, 0, 0, .null, []),
  (119, .ifCond .eq 14, 3, 133, 0, .null, []),
  (122, .aload_n 0, 1, 0, 0, .null, []),
  (123, .getfield 127, 3, 8, 15, .null, []),
  (126, .iconst 2, 1, 0, 0, .int 2, []),
  (127, .ishr, 1, 0, 0, .null, []),
  (128, .iconst 1, 1, 0, 0, .int 1, []),
  (129, .iand, 1, 0, 0, .null, []),
  (130, .ifCond .ne 11, 3, 141, 0, .null, []),
  (133, .aload_n 0, 1, 0, 0, .null, []),
  (134, .aload_n 0, 1, 0, 0, .null, []),
  (135, .getfield 82, 3, 8, 9, .null, []),
  (138, .putfield 106, 3, 8, 14, .null, []),
  (141, .aload_n 0, 1, 0, 0, .null, []),
  (142, .iconst 0, 1, 0, 0, .int 0, []),
  (143, .putfield 82, 3, 8, 9, .null, []),
  (146, .aload_n 0, 1, 0, 0, .null, []),
  (147, .invokevirtual 109, 3, 160, 1, .null, []),
  (150, .ifCond .ne 11, 3, 161, 0, .null, []),
  (153, .bipush (-100), 2, 0, 0, .int (-100), []),
  (155, .aload_n 0, 1, 0, 0, .null, []),
  (156, .getfield 106, 3, 8, 14, .null, []),
  (159, .isub, 1, 0, 0, .null, []),
  (160, .ireturn, 1, 0, 0, .null, []),
  (161, .aload_n 0, 1, 0, 0, .null, []),
  (162, .getfield 19, 3, 8, 3, .null, []),
  (165, .iload_n 2, 1, 2, 0, .null, []),
  (166, .iconst 3, 1, 0, 0, .int 3, []),
  (167, .iadd, 1, 0, 0, .null, []),
  (168, .aload_n 0, 1, 0, 0, .null, []),
  (169, .getfield 19, 3, 8, 3, .null, []),
  (172, .iload_n 2, 1, 2, 0, .null, []),
  (173, .iconst 3, 1, 0, 0, .int 3, []),
  (174, .iadd, 1, 0, 0, .null, []),
  (175, .iaload, 1, 0, 0, .null, []),
  (176, .ifCond .ne 8, 3, 184, 0, .null, []),
  (179, .bipush 31, 2, 0, 0, .int 31, []),
  (181, .goto 11, 3, 192, 0, .null, []),
  (184, .aload_n 0, 1, 0, 0, .null, []),
  (185, .getfield 19, 3, 8, 3, .null, []),
  (188, .iload_n 2, 1, 2, 0, .null, []),
  (189, .iconst 3, 1, 0, 0, .int 3, []),
  (190, .iadd, 1, 0, 0, .null, []),
  (191, .iaload, 1, 0, 0, .null, []),
  (192, .iastore, 1, 0, 0, .null, []),
  (193, .aload_n 0, 1, 0, 0, .null, []),
  (194, .getfield 19, 3, 8, 3, .null, []),
  (197, .iload_n 2, 1, 2, 0, .null, []),
  (198, .bipush 11, 2, 0, 0, .int 11, []),
  (200, .iadd, 1, 0, 0, .null, []),
  (201, .iconst 1, 1, 0, 0, .int 1, []),
  (202, .iastore, 1, 0, 0, .null, []),
  (203, .iconst 0, 1, 0, 0, .int 0, []),
  (204, .istore 4, 2, 4, 0, .null, []),
  (206, .iload 4, 2, 4, 0, .null, []),
  (208, .bipush 12, 2, 0, 0, .int 12, []),
  (210, .if_icmp .ge 30, 3, 240, 0, .null, []),
  (213, .aload_n 0, 1, 0, 0, .null, []),
  (214, .getfield 19, 3, 8, 3, .null, []),
  (217, .bipush 12, 2, 0, 0, .int 12, []),
  (219, .iload_n 1, 1, 1, 0, .null, []),
  (220, .imul, 1, 0, 0, .null, []),
  (221, .iload 4, 2, 4, 0, .null, []),
  (223, .iadd, 1, 0, 0, .null, []),
  (224, .aload_n 0, 1, 0, 0, .null, []),
  (225, .getfield 19, 3, 8, 3, .null, []),
  (228, .iload_n 2, 1, 2, 0, .null, []),
  (229, .iload 4, 2, 4, 0, .null, []),
  (231, .iadd, 1, 0, 0, .null, []),
  (232, .iaload, 1, 0, 0, .null, []),
  (233, .iastore, 1, 0, 0, .null, []),
  (234, .iinc 4 1, 3, 4, 0, .int 1, []),
  (237, .goto (-31), 3, 206, 0, .null, []),
  (240, .iload_n 3, 1, 3, 0, .null, []),
  (241, .ireturn, 1, 0, 0, .null, [])]
/-- RailPassesModel.isLaw(I)Z -/
def rp_k156 : List rp_En := [(0, .iload_n 0, 1, 0, 0, .null, []),
  (1, .iconst 0, 1, 0, 0, .int 0, []),
  (2, .iconst 2, 1, 0, 0, .int 2, []),
  (3, .invokestatic 68, 3, 148, 3, .null, []),
  (6, .ireturn, 1, 0, 0, .null, [])]
/-- RailPassesModel.advance()V -/
def rp_k157 : List rp_En := [(0, .aload_n 0, 1, 0, 0, .null, []),
  (1, .getfield 88, 3, 8, 12, .null, []),
  (4, .istore_n 1, 1, 1, 0, .null, []),
  (5, .iload_n 1, 1, 1, 0, .null, []),
  (6, .aload_n 0, 1, 0, 0, .null, []),
  (7, .getfield 82, 3, 8, 9, .null, []),
  (10, .if_icmp .ge 20, 3, 30, 0, .null, []),
  (13, .aload_n 0, 1, 0, 0, .null, []),
  (14, .getfield 34, 3, 8, 8, .null, []),
  (17, .iload_n 1, 1, 1, 0, .null, []),
  (18, .iaload, 1, 0, 0, .null, []),
  (19, .bipush 32, 2, 0, 0, .int 32, []),
  (21, .if_icmp .ne 9, 3, 30, 0, .null, []),
  (24, .iinc 1 1, 3, 1, 0, .int 1, []),
  (27, .goto (-22), 3, 5, 0, .null, []),
  (30, .aload_n 0, 1, 0, 0, .null, []),
  (31, .iload_n 1, 1, 1, 0, .null, []),
  (32, .putfield 91, 3, 8, 11, .null, []),
  (35, .aload_n 0, 1, 0, 0, .null, []),
  (36, .iconst 0, 1, 0, 0, .int 0, []),
  (37, .putfield 94, 3, 8, 13, .null, []),
  (40, .iload_n 1, 1, 1, 0, .null, []),
  (41, .aload_n 0, 1, 0, 0, .null, []),
  (42, .getfield 82, 3, 8, 9, .null, []),
  (45, .if_icmp .ne 11, 3, 56, 0, .null, []),
  (48, .aload_n 0, 1, 0, 0, .null, []),
  (49, .iconst 0, 1, 0, 0, .int 0, []),
  (50, .putfield 97, 3, 8, 10, .null, []),
  (53, .goto 207, 3, 260, 0, .null, []),
  (56, .aload_n 0, 1, 0, 0, .null, []),
  (57, .getfield 34, 3, 8, 8, .null, []),
  (60, .iload_n 1, 1, 1, 0, .null, []),
  (61, .iaload, 1, 0, 0, .null, []),
  (62, .invokestatic 100, 3, 158, 1, .null, []),
  (65, .ifCond .eq 96, 3, 161, 0, .null, []),
  (68, .aload_n 0, 1, 0, 0, .null, []),
  (69, .iconst 1, 1, 0, 0, .int 1, []),
  (70, .putfield 97, 3, 8, 10, .null, []),
  (73, .iload_n 1, 1, 1, 0, .null, []),
  (74, .aload_n 0, 1, 0, 0, .null, []),
  (75, .getfield 82, 3, 8, 9, .null, []),
  (78, .if_icmp .ge 57, 3, 135, 0, .null, []),
  (81, .aload_n 0, 1, 0, 0, .null, []),
  (82, .getfield 34, 3, 8, 8, .null, []),
  (85, .iload_n 1, 1, 1, 0, .null, []),
  (86, .iaload, 1, 0, 0, .null, []),
  (87, .invokestatic 100, 3, 158, 1, .null, []),
  (90, .ifCond .eq 45, 3, 135, 0, .null, []),
  (93, .aload_n 0, 1, 0, 0, .null, []),
  (94, .iload_n 1, 1, 1, 0, .null, []),
  (95, .aload_n 0, 1, 0, 0, .null, []),
  (96, .getfield 91, 3, 8, 11, .null, []),
  (99, .isub, 1, 0, 0, .null, []),
  (100, .bipush 6, 2, 0, 0, .int 6, []),
  (102, .if_icmp .ge 23, 3, 125, 0, .null, []),
  (105, .bipush 27, 2, 0, 0, .int 27, []),
  (107, .aload_n 0, 1, 0, 0, .null, []),
  (108, .getfield 94, 3, 8, 13, .null, []),
  (111, .imul, 1, 0, 0, .null, []),
  (112, .aload_n 0, 1, 0, 0, .null, []),
  (113, .getfield 34, 3, 8, 8, .null, []),
  (116, .iload_n 1, 1, 1, 0, .null, []),
  (117, .iaload, 1, 0, 0, .null, []),
  (118, .iadd, 1, 0, 0, .null, []),
  (119, .bipush 96, 2, 0, 0, .int 96, []),
  (121, .isub, 1, 0, 0, .null, []),
  (122, .goto 4, 3, 126, 0, .null, []),
  (125, .iconst 0, 1, 0, 0, .int 0, []),
  (126, .putfield 94, 3, 8, 13, .null, []),
  (129, .iinc 1 1, 3, 1, 0, .int 1, []),
  (132, .goto (-59), 3, 73, 0, .null, []),
  (135, .aload_n 0, 1, 0, 0, .null, []),
  (136, .iload_n 1, 1, 1, 0, .null, []),
  (137, .aload_n 0, 1, 0, 0, .null, []),
  (138, .getfield 91, 3, 8, 11, .null, []),
  (141, .isub, 1, 0, 0, .null, []),
  (142, .bipush 6, 2, 0, 0, .int 6, []),
  (144, .if_icmp .le 7, 3, 151, 0, .null, []),
  (147, .iconst 0, 1, 0, 0, .int 0, []),
  (148, .goto 7, 3, 155, 0, .null, []),
  (151, .aload_n 0, 1, 0, 0, .null, []),
  (152, .getfield 94, 3, 8, 13, .null, []),
  (155, .putfield 94, 3, 8, 13, .null, []),
  (158, .goto 102, 3, 260, 0, .null, []),
  (161, .aload_n 0, 1, 0, 0, .null, []),
  (162, .getfield 34, 3, 8, 8, .null, []),
  (165, .iload_n 1, 1, 1, 0, .null, []),
  (166, .iaload, 1, 0, 0, .null, []),
  (167, .invokestatic 103, 3, 159, 1, .null, []),
  (170, .ifCond .eq 72, 3, 242, 0, .null, []),
  (173, .aload_n 0, 1, 0, 0, .null, []),
  (174, .iconst 2, 1, 0, 0, .int 2, []),
  (175, .putfield 97, 3, 8, 10, .null, []),
  (178, .iload_n 1, 1, 1, 0, .null, []),
  (179, .aload_n 0, 1, 0, 0, .null, []),
  (180, .getfield 82, 3, 8, 9, .null, []),
  (183, .if_icmp .ge 77, 3, 260, 0, .null, []),
  (186, .aload_n 0, 1, 0, 0, .null, []),
  (187, .getfield 34, 3, 8, 8, .null, []),
  (190, .iload_n 1, 1, 1, 0, .null, []),
  (191, .iaload, 1, 0, 0, .null, []),
  (192, .invokestatic 103, 3, 159, 1, .null, []),
  (195, .ifCond .eq 65, 3, 260, 0, .null, []),
  (198, .aload_n 0, 1, 0, 0, .null, []),
  (199, .iload_n 1, 1, 1, 0, .null, []),
  (200, .aload_n 0, 1, 0, 0, .null, []),
  (201, .getfield 91, 3, 8, 11, .null, []),
  (204, .isub, 1, 0, 0, .null, []),
  (205, .iconst 3, 1, 0, 0, .int 3, []),
  (206, .if_icmp .ge 23, 3, 229, 0, .null, []),
  (209, .bipush 10, 2, 0, 0, .int 10, []),
  (211, .aload_n 0, 1, 0, 0, .null, []),
  (212, .getfield 94, 3, 8, 13, .null, []),
  (215, .imul, 1, 0, 0, .null, []),
  (216, .aload_n 0, 1, 0, 0, .null, []),
  (217, .getfield 34, 3, 8, 8, .null, []),
  (220, .iload_n 1, 1, 1, 0, .null, []),
  (221, .iaload, 1, 0, 0, .null, []),
  (222, .iadd, 1, 0, 0, .null, []),
  (223, .bipush 48, 2, 0, 0, .int 48, []),
  (225, .isub, 1, 0, 0, .null, []),
  (226, .goto 7, 3, 233, 0, .null, []),
  (229, .aload_n 0, 1, 0, 0, .null, []),
  (230, .getfield 94, 3, 8, 13, .null, []),
  (233, .putfield 94, 3, 8, 13, .null, []),
  (236, .iinc 1 1, 3, 1, 0, .int 1, []),
  (239, .goto (-61), 3, 178, 0, .null, []),
  (242, .aload_n 0, 1, 0, 0, .null, []),
  (243, .iconst 3, 1, 0, 0, .int 3, []),
  (244, .putfield 97, 3, 8, 10, .null, []),
  (247, .aload_n 0, 1, 0, 0, .null, []),
  (248, .aload_n 0, 1, 0, 0, .null, []),
  (249, .getfield 34, 3, 8, 8, .null, []),
  (252, .iload_n 1, 1, 1, 0, .null, []),
  (253, .iaload, 1, 0, 0, .null, []),
  (254, .putfield 94, 3, 8, 13, .null, []),
  (257, .iinc 1 1, 3, 1, 0, .int 1, []),
  (260, .aload_n 0, 1, 0, 0, .null, []),
  (261, .iload_n 1, 1, 1, 0, .null, []),
  (262, .putfield 88, 3, 8, 12, .null, []),
  (265, .return_, 1, 0, 0, .null, [])]
/-- RailPassesModel.isLetter(I)Z -/
def rp_k158 : List rp_En := [(0, .iload_n 0, 1, 0, 0, .null, []),
  (1, .bipush 97, 2, 0, 0, .int 97, []),
  (3, .if_icmp .lt 13, 3, 16, 0, .null, []),
  (6, .iload_n 0, 1, 0, 0, .null, []),
  (7, .bipush 122, 2, 0, 0, .int 122, []),
  (9, .if_icmp .gt 7, 3, 16, 0, .null, []),
  (12, .iconst 1, 1, 0, 0, .int 1, []),
  (13, .goto 4, 3, 17, 0, .null, []),
  (16, .iconst 0, 1, 0, 0, .int 0, []),
  (17, .ireturn, 1, 0, 0, .null, [])]
/-- RailPassesModel.isDigit(I)Z -/
def rp_k159 : List rp_En := [(0, .iload_n 0, 1, 0, 0, .null, []),
  (1, .bipush 48, 2, 0, 0, .int 48, []),
  (3, .if_icmp .lt 13, 3, 16, 0, .null, []),
  (6, .iload_n 0, 1, 0, 0, .null, []),
  (7, .bipush 57, 2, 0, 0, .int 57, []),
  (9, .if_icmp .gt 7, 3, 16, 0, .null, []),
  (12, .iconst 1, 1, 0, 0, .int 1, []),
  (13, .goto 4, 3, 17, 0, .null, []),
  (16, .iconst 0, 1, 0, 0, .int 0, []),
  (17, .ireturn, 1, 0, 0, .null, [])]
/-- RailPassesModel.isGood()Z -/
def rp_k160 : List rp_En := [(0, .aload_n 0, 1, 0, 0, .null, []),
  (1, .getfield 106, 3, 8, 14, .null, []),
  (4, .ifCond .ge 7, 3, 11, 0, .null, []),
  (7, .iconst 1, 1, 0, 0, .int 1, []),
  (8, .goto 4, 3, 12, 0, .null, []),
  (11, .iconst 0, 1, 0, 0, .int 0, []),
  (12, .ireturn, 1, 0, 0, .null, [])]
/-- RailPassesModel.wantRule()V -/
def rp_k161 : List rp_En := [(0, .bipush 36, 2, 0, 0, .int 36, []),
  (2, .istore_n 1, 1, 1, 0, .null, []),
  (3, .aload_n 0, 1, 0, 0, .null, []),
  (4, .getfield 97, 3, 8, 10, .null, []),
  (7, .iconst 1, 1, 0, 0, .int 1, []),
  (8, .if_icmp .ne 14, 3, 22, 0, .null, []),
  (11, .aload_n 0, 1, 0, 0, .null, []),
  (12, .aload_n 0, 1, 0, 0, .null, []),
  (13, .getfield 94, 3, 8, 13, .null, []),
  (16, .invokevirtual 123, 3, 162, 2, .null, []),
  (19, .goto 4, 3, 23, 0, .null, []),
  (22, .iconst (-1), 1, 0, 0, .int (-1), []),
  (23, .istore_n 2, 1, 2, 0, .null, []),
  (24, .iload_n 2, 1, 2, 0, .null, []),
  (25, .ifCond .lt 25, 3, 50, 0, .null, []),
  (28, .iload_n 2, 1, 2, 0, .null, []),
  (29, .iconst 3, 1, 0, 0, .int 3, []),
  (30, .if_icmp .eq 25, 3, 55, 0, .null, []),
  (33, .iload_n 2, 1, 2, 0, .null, []),
  (34, .iconst 4, 1, 0, 0, .int 4, []),
  (35, .if_icmp .eq 20, 3, 55, 0, .null, []),
  (38, .aload_n 0, 1, 0, 0, .null, []),
  (39, .getfield 127, 3, 8, 15, .null, []),
  (42, .iload_n 2, 1, 2, 0, .null, []),
  (43, .ishr, 1, 0, 0, .null, []),
  (44, .iconst 1, 1, 0, 0, .int 1, []),
  (45, .iand, 1, 0, 0, .null, []),
  (46, .iconst 1, 1, 0, 0, .int 1, []),
  (47, .if_icmp .ne 8, 3, 55, 0, .null, []),
  (50, .aload_n 0, 1, 0, 0, .null, []),
  (51, .invokevirtual 116, 3, 163, 1, .null, []),
  (54, .return_, 1, 0, 0, .null, []),
  (55, .aload_n 0, 1, 0, 0, .null, []),
  (56, .dup, 1, 0, 0, .null, []),
  (57, .getfield 127, 3, 8, 15, .null, []),
  (60, .iconst 1, 1, 0, 0, .int 1, []),
  (61, .iload_n 2, 1, 2, 0, .null, []),
  (62, .ishl, 1, 0, 0, .null, []),
  (63, .ior, 1, 0, 0, .null, []),
  (64, .putfield 127, 3, 8, 15, .null, []),
  (67, .aload_n 0, 1, 0, 0, .null, []),
  (68, .invokevirtual 113, 3, 157, 1, .null, []),
  (71, .iload_n 2, 1, 2, 0, .null, []),
  (72, .tableswitch 158 0 6 #[44, 158, 139, 91, 102, 121, 139], 44, 230, 0, .null, [(0, 116), (1, 230), (2, 211), (3, 163), (4, 174), (5, 193), (6, 211)]),
  (116, .aload_n 0, 1, 0, 0, .null, []),
  (117, .getfield 19, 3, 8, 3, .null, []),
  (120, .iload_n 1, 1, 1, 0, .null, []),
  (121, .iconst 0, 1, 0, 0, .int 0, []),
  (122, .iadd, 1, 0, 0, .null, []),
  (123, .aload_n 0, 1, 0, 0, .null, []),
  (124, .iconst 1, 1, 0, 0, .int 1, []),
  (125, .bipush 60, 2, 0, 0, .int 60, []),
  (127, .invokevirtual 119, 3, 164, 3, .null, []),
  (130, .iastore, 1, 0, 0, .null, []),
  (131, .aload_n 0, 1, 0, 0, .null, []),
  (132, .sipush 411, 3, 0, 0, .int 411, []),
  (135, .invokevirtual 130, 3, 165, 2, .null, []),
  (138, .aload_n 0, 1, 0, 0, .null, []),
  (139, .getfield 19, 3, 8, 3, .null, []),
  (142, .iload_n 1, 1, 1, 0, .null, []),
  (143, .iconst 1, 1, 0, 0, .int 1, []),
  (144, .iadd, 1, 0, 0, .null, []),
  (145, .aload_n 0, 1, 0, 0, .null, []),
  (146, .aload_n 0, 1, 0, 0, .null, []),
  (147, .getfield 19, 3, 8, 3, .null, []),
  (150, .iload_n 1, 1, 1, 0, .null, []),
  (151, .iconst 0, 1, 0, 0, .int 0, []),
  (152, .iadd, 1, 0, 0, .null, []),
  (153, .iaload, 1, 0, 0, .null, []),
  (154, .bipush 60, 2, 0, 0, .int 60, []),
  (156, .invokevirtual 119, 3, 164, 3, .null, []),
  (159, .iastore, 1, 0, 0, .null, []),
  (160, .goto 85, 3, 245, 0, .null, []),
  (163, .aload_n 0, 1, 0, 0, .null, []),
  (164, .iload_n 1, 1, 1, 0, .null, []),
  (165, .iconst 3, 1, 0, 0, .int 3, []),
  (166, .iadd, 1, 0, 0, .null, []),
  (167, .iconst 4, 1, 0, 0, .int 4, []),
  (168, .invokevirtual 134, 3, 166, 3, .null, []),
  (171, .goto 74, 3, 245, 0, .null, []),
  (174, .aload_n 0, 1, 0, 0, .null, []),
  (175, .iload_n 1, 1, 1, 0, .null, []),
  (176, .iconst 4, 1, 0, 0, .int 4, []),
  (177, .iadd, 1, 0, 0, .null, []),
  (178, .bipush 13, 2, 0, 0, .int 13, []),
  (180, .invokevirtual 134, 3, 166, 3, .null, []),
  (183, .aload_n 0, 1, 0, 0, .null, []),
  (184, .sipush 11522, 3, 0, 0, .int 11522, []),
  (187, .invokevirtual 130, 3, 165, 2, .null, []),
  (190, .goto 55, 3, 245, 0, .null, []),
  (193, .aload_n 0, 1, 0, 0, .null, []),
  (194, .getfield 19, 3, 8, 3, .null, []),
  (197, .iload_n 1, 1, 1, 0, .null, []),
  (198, .iconst 5, 1, 0, 0, .int 5, []),
  (199, .iadd, 1, 0, 0, .null, []),
  (200, .aload_n 0, 1, 0, 0, .null, []),
  (201, .iconst 0, 1, 0, 0, .int 0, []),
  (202, .bipush 23, 2, 0, 0, .int 23, []),
  (204, .invokevirtual 119, 3, 164, 3, .null, []),
  (207, .iastore, 1, 0, 0, .null, []),
  (208, .goto 37, 3, 245, 0, .null, []),
  (211, .aload_n 0, 1, 0, 0, .null, []),
  (212, .getfield 19, 3, 8, 3, .null, []),
  (215, .iload_n 1, 1, 1, 0, .null, []),
  (216, .iload_n 2, 1, 2, 0, .null, []),
  (217, .iadd, 1, 0, 0, .null, []),
  (218, .aload_n 0, 1, 0, 0, .null, []),
  (219, .iconst 0, 1, 0, 0, .int 0, []),
  (220, .sipush 999, 3, 0, 0, .int 999, []),
  (223, .invokevirtual 119, 3, 164, 3, .null, []),
  (226, .iastore, 1, 0, 0, .null, []),
  (227, .goto 18, 3, 245, 0, .null, []),
  (230, .aload_n 0, 1, 0, 0, .null, []),
  (231, .getfield 19, 3, 8, 3, .null, []),
  (234, .iload_n 1, 1, 1, 0, .null, []),
  (235, .iload_n 2, 1, 2, 0, .null, []),
  (236, .iadd, 1, 0, 0, .null, []),
  (237, .aload_n 0, 1, 0, 0, .null, []),
  (238, .iconst 0, 1, 0, 0, .int 0, []),
  (239, .bipush 100, 2, 0, 0, .int 100, []),
  (241, .invokevirtual 119, 3, 164, 3, .null, []),
  (244, .iastore, 1, 0, 0, .null, []),
  (245, .aload_n 0, 1, 0, 0, .null, []),
  (246, .invokevirtual 109, 3, 160, 1, .null, []),
  (249, .ifCond .eq 31, 3, 280, 0, .null, []),
  (252, .aload_n 0, 1, 0, 0, .null, []),
  (253, .getfield 97, 3, 8, 10, .null, []),
  (256, .iconst 3, 1, 0, 0, .int 3, []),
  (257, .if_icmp .ne 19, 3, 276, 0, .null, []),
  (260, .aload_n 0, 1, 0, 0, .null, []),
  (261, .getfield 94, 3, 8, 13, .null, []),
  (264, .bipush 59, 2, 0, 0, .int 59, []),
  (266, .if_icmp .ne 10, 3, 276, 0, .null, []),
  (269, .aload_n 0, 1, 0, 0, .null, []),
  (270, .invokevirtual 113, 3, 157, 1, .null, []),
  (273, .goto 7, 3, 280, 0, .null, []),
  (276, .aload_n 0, 1, 0, 0, .null, []),
  (277, .invokevirtual 116, 3, 163, 1, .null, []),
  (280, .return_, 1, 0, 0, .null, [])]
/-- RailPassesModel.kindOf(I)I -/
def rp_k162 : List rp_En := [(0, .iload_n 1, 1, 1, 0, .null, []),
  (1, .lookupswitch 116 #[(50348, 104), (80155, 91), (119360, 101), (243140, 97), (247664, 113), (355278, 95), (1758676, 107), (7622660, 99), (8863997, 93), (261071320, 110)], 91, 117, 0, .null, [(50348, 105), (80155, 92), (119360, 102), (243140, 98), (247664, 114), (355278, 96), (1758676, 108), (7622660, 100), (8863997, 94), (261071320, 111)]),
  (92, .iconst 0, 1, 0, 0, .int 0, []),
  (93, .ireturn, 1, 0, 0, .null, []),
  (94, .iconst 2, 1, 0, 0, .int 2, []),
  (95, .ireturn, 1, 0, 0, .null, []),
  (96, .iconst 3, 1, 0, 0, .int 3, []),
  (97, .ireturn, 1, 0, 0, .null, []),
  (98, .iconst 4, 1, 0, 0, .int 4, []),
  (99, .ireturn, 1, 0, 0, .null, []),
  (100, .iconst 5, 1, 0, 0, .int 5, []),
  (101, .ireturn, 1, 0, 0, .null, []),
  (102, .bipush 6, 2, 0, 0, .int 6, []),
  (104, .ireturn, 1, 0, 0, .null, []),
  (105, .bipush 7, 2, 0, 0, .int 7, []),
  (107, .ireturn, 1, 0, 0, .null, []),
  (108, .bipush 8, 2, 0, 0, .int 8, []),
  (110, .ireturn, 1, 0, 0, .null, []),
  (111, .bipush 9, 2, 0, 0, .int 9, []),
  (113, .ireturn, 1, 0, 0, .null, []),
  (114, .bipush 10, 2, 0, 0, .int 10, []),
  (116, .ireturn, 1, 0, 0, .null, []),
  (117, .iconst (-1), 1, 0, 0, .int (-1), []),
  (118, .ireturn, 1, 0, 0, .null, [])]
/-- RailPassesModel.wrong()V -/
def rp_k163 : List rp_En := [(0, .aload_n 0, 1, 0, 0, .null, []),
  (1, .aload_n 0, 1, 0, 0, .null, []),
  (2, .getfield 106, 3, 8, 14, .null, []),
  (5, .ifCond .ge 10, 3, 15, 0, .null, []),
  (8, .aload_n 0, 1, 0, 0, .null, []),
  (9, .getfield 91, 3, 8, 11, .null, []),
  (12, .goto 7, 3, 19, 0, .null, []),
  (15, .aload_n 0, 1, 0, 0, .null, []),
  (16, .getfield 106, 3, 8, 14, .null, []),
  (19, .putfield 106, 3, 8, 14, .null, []),
  (22, .return_, 1, 0, 0, .null, [])]
/-- RailPassesModel.wantNumber(II)I -/
def rp_k164 : List rp_En := [(0, .aload_n 0, 1, 0, 0, .null, []),
  (1, .getfield 94, 3, 8, 13, .null, []),
  (4, .istore_n 3, 1, 3, 0, .null, []),
  (5, .aload_n 0, 1, 0, 0, .null, []),
  (6, .invokevirtual 109, 3, 160, 1, .null, []),
  (9, .ifCond .eq 44, 3, 53, 0, .null, []),
  (12, .aload_n 0, 1, 0, 0, .null, []),
  (13, .getfield 97, 3, 8, 10, .null, []),
  (16, .iconst 2, 1, 0, 0, .int 2, []),
  (17, .if_icmp .ne 32, 3, 49, 0, .null, []),
  (20, .aload_n 0, 1, 0, 0, .null, []),
  (21, .getfield 88, 3, 8, 12, .null, []),
  (24, .aload_n 0, 1, 0, 0, .null, []),
  (25, .getfield 91, 3, 8, 11, .null, []),
  (28, .isub, 1, 0, 0, .null, []),
  (29, .iconst 3, 1, 0, 0, .int 3, []),
  (30, .if_icmp .gt 19, 3, 49, 0, .null, []),
  (33, .iload_n 3, 1, 3, 0, .null, []),
  (34, .iload_n 1, 1, 1, 0, .null, []),
  (35, .iload_n 2, 1, 2, 0, .null, []),
  (36, .invokestatic 68, 3, 148, 3, .null, []),
  (39, .ifCond .eq 10, 3, 49, 0, .null, []),
  (42, .aload_n 0, 1, 0, 0, .null, []),
  (43, .invokevirtual 113, 3, 157, 1, .null, []),
  (46, .goto 7, 3, 53, 0, .null, []),
  (49, .aload_n 0, 1, 0, 0, .null, []),
  (50, .invokevirtual 116, 3, 163, 1, .null, []),
  (53, .iload_n 3, 1, 3, 0, .null, []),
  (54, .ireturn, 1, 0, 0, .null, [])]
/-- RailPassesModel.wantWord(I)V -/
def rp_k165 : List rp_En := [(0, .aload_n 0, 1, 0, 0, .null, []),
  (1, .invokevirtual 109, 3, 160, 1, .null, []),
  (4, .ifCond .eq 30, 3, 34, 0, .null, []),
  (7, .aload_n 0, 1, 0, 0, .null, []),
  (8, .getfield 97, 3, 8, 10, .null, []),
  (11, .iconst 1, 1, 0, 0, .int 1, []),
  (12, .if_icmp .ne 18, 3, 30, 0, .null, []),
  (15, .aload_n 0, 1, 0, 0, .null, []),
  (16, .getfield 94, 3, 8, 13, .null, []),
  (19, .iload_n 1, 1, 1, 0, .null, []),
  (20, .if_icmp .ne 10, 3, 30, 0, .null, []),
  (23, .aload_n 0, 1, 0, 0, .null, []),
  (24, .invokevirtual 113, 3, 157, 1, .null, []),
  (27, .goto 7, 3, 34, 0, .null, []),
  (30, .aload_n 0, 1, 0, 0, .null, []),
  (31, .invokevirtual 116, 3, 163, 1, .null, []),
  (34, .return_, 1, 0, 0, .null, [])]
/-- RailPassesModel.wantBit(II)V -/
def rp_k166 : List rp_En := [(0, .aload_n 0, 1, 0, 0, .null, []),
  (1, .invokevirtual 109, 3, 160, 1, .null, []),
  (4, .ifCond .eq 57, 3, 61, 0, .null, []),
  (7, .aload_n 0, 1, 0, 0, .null, []),
  (8, .getfield 97, 3, 8, 10, .null, []),
  (11, .iconst 2, 1, 0, 0, .int 2, []),
  (12, .if_icmp .ne 49, 3, 61, 0, .null, []),
  (15, .aload_n 0, 1, 0, 0, .null, []),
  (16, .getfield 88, 3, 8, 12, .null, []),
  (19, .aload_n 0, 1, 0, 0, .null, []),
  (20, .getfield 91, 3, 8, 11, .null, []),
  (23, .isub, 1, 0, 0, .null, []),
  (24, .iconst 3, 1, 0, 0, .int 3, []),
  (25, .if_icmp .gt 36, 3, 61, 0, .null, []),
  (28, .aload_n 0, 1, 0, 0, .null, []),
  (29, .getfield 94, 3, 8, 13, .null, []),
  (32, .iconst 0, 1, 0, 0, .int 0, []),
  (33, .iload_n 2, 1, 2, 0, .null, []),
  (34, .invokestatic 68, 3, 148, 3, .null, []),
  (37, .ifCond .eq 24, 3, 61, 0, .null, []),
  (40, .aload_n 0, 1, 0, 0, .null, []),
  (41, .getfield 19, 3, 8, 3, .null, []),
  (44, .iload_n 1, 1, 1, 0, .null, []),
  (45, .iaload, 1, 0, 0, .null, []),
  (46, .aload_n 0, 1, 0, 0, .null, []),
  (47, .getfield 94, 3, 8, 13, .null, []),
  (50, .ishr, 1, 0, 0, .null, []),
  (51, .iconst 1, 1, 0, 0, .int 1, []),
  (52, .iand, 1, 0, 0, .null, []),
  (53, .iconst 1, 1, 0, 0, .int 1, []),
  (54, .if_icmp .ne 7, 3, 61, 0, .null, []),
  (57, .aload_n 0, 1, 0, 0, .null, []),
  (58, .invokevirtual 116, 3, 163, 1, .null, []),
  (61, .aload_n 0, 1, 0, 0, .null, []),
  (62, .iconst 0, 1, 0, 0, .int 0, []),
  (63, .iload_n 2, 1, 2, 0, .null, []),
  (64, .invokevirtual 119, 3, 164, 3, .null, []),
  (67, .istore_n 3, 1, 3, 0, .null, []),
  (68, .aload_n 0, 1, 0, 0, .null, []),
  (69, .invokevirtual 109, 3, 160, 1, .null, []),
  (72, .ifCond .eq 15, 3, 87, 0, .null, []),
  (75, .aload_n 0, 1, 0, 0, .null, []),
  (76, .getfield 19, 3, 8, 3, .null, []),
  (79, .iload_n 1, 1, 1, 0, .null, []),
  (80, .dup2, 1, 0, 0, .null, []),
  (81, .iaload, 1, 0, 0, .null, []),
  (82, .iconst 1, 1, 0, 0, .int 1, []),
  (83, .iload_n 3, 1, 3, 0, .null, []),
  (84, .ishl, 1, 0, 0, .null, []),
  (85, .ior, 1, 0, 0, .null, []),
  (86, .iastore, 1, 0, 0, .null, []),
  (87, .return_, 1, 0, 0, .null, [])]
/-- RailPassesModel.law(II)I -/
def rp_k167 : List rp_En := [(0, .iload_n 1, 1, 1, 0, .null, []),
  (1, .invokestatic 138, 3, 156, 1, .null, []),
  (4, .ifCond .eq 13, 3, 17, 0, .null, []),
  (7, .iload_n 2, 1, 2, 0, .null, []),
  (8, .iconst 0, 1, 0, 0, .int 0, []),
  (9, .bipush 10, 2, 0, 0, .int 10, []),
  (11, .invokestatic 68, 3, 148, 3, .null, []),
  (14, .ifCond .ne 5, 3, 19, 0, .null, []),
  (17, .iconst (-1), 1, 0, 0, .int (-1), []),
  (18, .ireturn, 1, 0, 0, .null, []),
  (19, .aload_n 0, 1, 0, 0, .null, []),
  (20, .iload_n 1, 1, 1, 0, .null, []),
  (21, .invokevirtual 144, 3, 168, 2, .null, []),
  (24, .ifCond .eq 17, 3, 41, 0, .null, []),
  (27, .aload_n 0, 1, 0, 0, .null, []),
  (28, .getfield 19, 3, 8, 3, .null, []),
  (31, .bipush 12, 2, 0, 0, .int 12, []),
  (33, .iload_n 1, 1, 1, 0, .null, []),
  (34, .imul, 1, 0, 0, .null, []),
  (35, .iload_n 2, 1, 2, 0, .null, []),
  (36, .iadd, 1, 0, 0, .null, []),
  (37, .iaload, 1, 0, 0, .null, []),
  (38, .goto 5, 3, 43, 0, .null, []),
  (41, .bipush (-3), 2, 0, 0, .int (-3), []),
  (43, .ireturn, 1, 0, 0, .null, [])]
/-- RailPassesModel.hasLaw(I)Z -/
def rp_k168 : List rp_En := [(0, .aload_n 0, 1, 0, 0, .null, []),
  (1, .getfield 19, 3, 8, 3, .null, []),
  (4, .bipush 12, 2, 0, 0, .int 12, []),
  (6, .iload_n 1, 1, 1, 0, .null, []),
  (7, .imul, 1, 0, 0, .null, []),
  (8, .bipush 11, 2, 0, 0, .int 11, []),
  (10, .iadd, 1, 0, 0, .null, []),
  (11, .iaload, 1, 0, 0, .null, []),
  (12, .iconst 1, 1, 0, 0, .int 1, []),
  (13, .if_icmp .ne 7, 3, 20, 0, .null, []),
  (16, .iconst 1, 1, 0, 0, .int 1, []),
  (17, .goto 4, 3, 21, 0, .null, []),
  (20, .iconst 0, 1, 0, 0, .int 0, []),
  (21, .ireturn, 1, 0, 0, .null, [])]
/-- RailPassesModel.sell(IIZ)I -/
def rp_k169 : List rp_En := [(0, .iload_n 1, 1, 1, 0, .null, []),
  (1, .invokestatic 138, 3, 156, 1, .null, []),
  (4, .ifCond .eq 10, 3, 14, 0, .null, []),
  (7, .iload_n 2, 1, 2, 0, .null, []),
  (8, .invokestatic 147, 3, 170, 1, .null, []),
  (11, .ifCond .ne 5, 3, 16, 0, .null, []),
  (14, .iconst (-1), 1, 0, 0, .int (-1), []),
  (15, .ireturn, 1, 0, 0, .null, []),
  (16, .aload_n 0, 1, 0, 0, .null, []),
  (17, .iload_n 1, 1, 1, 0, .null, []),
  (18, .invokevirtual 144, 3, 168, 2, .null, []),
  (21, .ifCond .ne 6, 3, 27, 0, .null, []),
  (24, .bipush (-3), 2, 0, 0, .int (-3), []),
  (26, .ireturn, 1, 0, 0, .null, []),
  (27, .aload_n 0, 1, 0, 0, .null, []),
  (28, .getfield 7, 3, 8, 0, .null, []),
  (31, .iconst 2, 1, 0, 0, .int 2, []),
  (32, .iaload, 1, 0, 0, .null, []),
  (33, .bipush 8, 2, 0, 0, .int 8, []),
  (35, .if_icmp .ne 6, 3, 41, 0, .null, []),
  (38, .bipush (-2), 2, 0, 0, .int (-2), []),
  (40, .ireturn, 1, 0, 0, .null, []),
  (41, .bipush 16, 2, 0, 0, .int 16, []),
  (43, .aload_n 0, 1, 0, 0, .null, []),
  (44, .getfield 7, 3, 8, 0, .null, []),
  (47, .iconst 2, 1, 0, 0, .int 2, []),
  (48, .iaload, 1, 0, 0, .null, []),
  (49, .imul, 1, 0, 0, .null, []),
  (50, .istore 4, 2, 4, 0, .null, []),
  (52, .iconst 0, 1, 0, 0, .int 0, []),
  (53, .istore 5, 2, 5, 0, .null, []),
  (55, .iload 5, 2, 5, 0, .null, []),
  (57, .bipush 11, 2, 0, 0, .int 11, []),
  (59, .if_icmp .ge 31, 3, 90, 0, .null, []),
  (62, .aload_n 0, 1, 0, 0, .null, []),
  (63, .getfield 22, 3, 8, 4, .null, []),
  (66, .iload 4, 2, 4, 0, .null, []),
  (68, .iload 5, 2, 5, 0, .null, []),
  (70, .iadd, 1, 0, 0, .null, []),
  (71, .aload_n 0, 1, 0, 0, .null, []),
  (72, .getfield 19, 3, 8, 3, .null, []),
  (75, .bipush 12, 2, 0, 0, .int 12, []),
  (77, .iload_n 1, 1, 1, 0, .null, []),
  (78, .imul, 1, 0, 0, .null, []),
  (79, .iload 5, 2, 5, 0, .null, []),
  (81, .iadd, 1, 0, 0, .null, []),
  (82, .iaload, 1, 0, 0, .null, []),
  (83, .iastore, 1, 0, 0, .null, []),
  (84, .iinc 5 1, 3, 5, 0, .int 1, []),
  (87, .goto (-32), 3, 55, 0, .null, []),
  (90, .aload_n 0, 1, 0, 0, .null, []),
  (91, .getfield 22, 3, 8, 4, .null, []),
  (94, .iload 4, 2, 4, 0, .null, []),
  (96, .bipush 11, 2, 0, 0, .int 11, []),
  (98, .iadd, 1, 0, 0, .null, []),
  (99, .iload_n 1, 1, 1, 0, .null, []),
  (100, .iastore, 1, 0, 0, .null, []),
  (101, .aload_n 0, 1, 0, 0, .null, []),
  (102, .getfield 22, 3, 8, 4, .null, []),
  (105, .iload 4, 2, 4, 0, .null, []),
  (107, .bipush 12, 2, 0, 0, .int 12, []),
  (109, .iadd, 1, 0, 0, .null, []),
  (110, .iload_n 2, 1, 2, 0, .null, []),
  (111, .iastore, 1, 0, 0, .null, []),
  (112, .aload_n 0, 1, 0, 0, .null, []),
  (113, .getfield 22, 3, 8, 4, .null, []),
  (116, .iload 4, 2, 4, 0, .null, []),
  (118, .bipush 13, 2, 0, 0, .int 13, []),
  (120, .iadd, 1, 0, 0, .null, []),
  (121, .iconst 0, 1, 0, 0, .int 0, []),
  (122, .iastore, 1, 0, 0, .null, []),
  (123, .aload_n 0, 1, 0, 0, .null, []),
  (124, .getfield 22, 3, 8, 4, .null, []),
  (127, .iload 4, 2, 4, 0, .null, []),
  (129, .bipush 14, 2, 0, 0, .int 14, []),
  (131, .iadd, 1, 0, 0, .null, []),
  (132, .iload_n 3, 1, 3, 0, .null, []),
  (133, .ifCond .eq 29, 3, 162, 0, .null, []),
  (136, .aload_n 0, 1, 0, 0, .null, []),
  (137, .getfield 22, 3, 8, 4, .null, []),
  (140, .iload 4, 2, 4, 0, .null, []),
  (142, .iconst 2, 1, 0, 0, .int 2, []),
  (143, .iadd, 1, 0, 0, .null, []),
  (144, .iaload, 1, 0, 0, .null, []),
  (145, .aload_n 0, 1, 0, 0, .null, []),
  (146, .getfield 22, 3, 8, 4, .null, []),
  (149, .iload 4, 2, 4, 0, .null, []),
  (151, .bipush 8, 2, 0, 0, .int 8, []),
  (153, .iadd, 1, 0, 0, .null, []),
  (154, .iaload, 1, 0, 0, .null, []),
  (155, .imul, 1, 0, 0, .null, []),
  (156, .bipush 100, 2, 0, 0, .int 100, []),
  (158, .idiv, 1, 0, 0, .null, []),
  (159, .goto 12, 3, 171, 0, .null, []),
  (162, .aload_n 0, 1, 0, 0, .null, []),
  (163, .getfield 22, 3, 8, 4, .null, []),
  (166, .iload 4, 2, 4, 0, .null, []),
  (168, .iconst 2, 1, 0, 0, .int 2, []),
  (169, .iadd, 1, 0, 0, .null, []),
  (170, .iaload, 1, 0, 0, .null, []),
  (171, .iastore, 1, 0, 0, .null, []),
  (172, .aload_n 0, 1, 0, 0, .null, []),
  (173, .getfield 7, 3, 8, 0, .null, []),
  (176, .iconst 2, 1, 0, 0, .int 2, []),
  (177, .dup2, 1, 0, 0, .null, []),
  (178, .iaload, 1, 0, 0, .null, []),
  (179, .iconst 1, 1, 0, 0, .int 1, []),
  (180, .iadd, 1, 0, 0, .null, []),
  (181, .iastore, 1, 0, 0, .null, []),
  (182, .aload_n 0, 1, 0, 0, .null, []),
  (183, .getfield 7, 3, 8, 0, .null, []),
  (186, .iconst 2, 1, 0, 0, .int 2, []),
  (187, .iaload, 1, 0, 0, .null, []),
  (188, .iconst 1, 1, 0, 0, .int 1, []),
  (189, .isub, 1, 0, 0, .null, []),
  (190, .ireturn, 1, 0, 0, .null, [])]
/-- RailPassesModel.isDay(I)Z -/
def rp_k170 : List rp_En := [(0, .iload_n 0, 1, 0, 0, .null, []),
  (1, .iconst 0, 1, 0, 0, .int 0, []),
  (2, .bipush 120, 2, 0, 0, .int 120, []),
  (4, .invokestatic 68, 3, 148, 3, .null, []),
  (7, .ireturn, 1, 0, 0, .null, [])]
/-- RailPassesModel.may(III)I -/
def rp_k171 : List rp_En := [(0, .aload_n 0, 1, 0, 0, .null, []),
  (1, .iload_n 1, 1, 1, 0, .null, []),
  (2, .iload_n 2, 1, 2, 0, .null, []),
  (3, .iload_n 3, 1, 3, 0, .null, []),
  (4, .invokevirtual 177, 3, 172, 4, .null, []),
  (7, .ifCond .eq 13, 3, 20, 0, .null, []),
  (10, .aload_n 0, 1, 0, 0, .null, []),
  (11, .iload_n 1, 1, 1, 0, .null, []),
  (12, .iload_n 2, 1, 2, 0, .null, []),
  (13, .iload_n 3, 1, 3, 0, .null, []),
  (14, .invokevirtual 180, 3, 174, 4, .null, []),
  (17, .goto 4, 3, 21, 0, .null, []),
  (20, .iconst (-1), 1, 0, 0, .int (-1), []),
  (21, .ireturn, 1, 0, 0, .null, [])]
/-- RailPassesModel.isAsked(III)Z -/
def rp_k172 : List rp_En := [(0, .aload_n 0, 1, 0, 0, .null, []),
  (1, .iload_n 1, 1, 1, 0, .null, []),
  (2, .invokevirtual 174, 3, 173, 2, .null, []),
  (5, .ifCond .eq 22, 3, 27, 0, .null, []),
  (8, .aload_n 0, 1, 0, 0, .null, []),
  (9, .iload_n 2, 1, 2, 0, .null, []),
  (10, .invokevirtual 76, 3, 151, 2, .null, []),
  (13, .ifCond .eq 14, 3, 27, 0, .null, []),
  (16, .iload_n 3, 1, 3, 0, .null, []),
  (17, .invokestatic 147, 3, 170, 1, .null, []),
  (20, .ifCond .eq 7, 3, 27, 0, .null, []),
  (23, .iconst 1, 1, 0, 0, .int 1, []),
  (24, .goto 4, 3, 28, 0, .null, []),
  (27, .iconst 0, 1, 0, 0, .int 0, []),
  (28, .ireturn, 1, 0, 0, .null, [])]
/-- RailPassesModel.isPass(I)Z -/
def rp_k173 : List rp_En := [(0, .iload_n 1, 1, 1, 0, .null, []),
  (1, .iconst 0, 1, 0, 0, .int 0, []),
  (2, .aload_n 0, 1, 0, 0, .null, []),
  (3, .getfield 7, 3, 8, 0, .null, []),
  (6, .iconst 2, 1, 0, 0, .int 2, []),
  (7, .iaload, 1, 0, 0, .null, []),
  (8, .iconst 1, 1, 0, 0, .int 1, []),
  (9, .isub, 1, 0, 0, .null, []),
  (10, .invokestatic 68, 3, 148, 3, .null, []),
  (13, .ireturn, 1, 0, 0, .null, [])]
/-- RailPassesModel.bar(III)I -/
def rp_k174 : List rp_En := [(0, .bipush 16, 2, 0, 0, .int 16, []),
  (2, .iload_n 1, 1, 1, 0, .null, []),
  (3, .imul, 1, 0, 0, .null, []),
  (4, .istore 4, 2, 4, 0, .null, []),
  (6, .aload_n 0, 1, 0, 0, .null, []),
  (7, .aload_n 0, 1, 0, 0, .null, []),
  (8, .getfield 22, 3, 8, 4, .null, []),
  (11, .iload 4, 2, 4, 0, .null, []),
  (13, .iload_n 2, 1, 2, 0, .null, []),
  (14, .invokevirtual 164, 3, 175, 4, .null, []),
  (17, .ifCond .ne 5, 3, 22, 0, .null, []),
  (20, .iconst 1, 1, 0, 0, .int 1, []),
  (21, .ireturn, 1, 0, 0, .null, []),
  (22, .aload_n 0, 1, 0, 0, .null, []),
  (23, .iload_n 2, 1, 2, 0, .null, []),
  (24, .iload_n 3, 1, 3, 0, .null, []),
  (25, .aload_n 0, 1, 0, 0, .null, []),
  (26, .getfield 22, 3, 8, 4, .null, []),
  (29, .iload 4, 2, 4, 0, .null, []),
  (31, .iconst 5, 1, 0, 0, .int 5, []),
  (32, .iadd, 1, 0, 0, .null, []),
  (33, .iaload, 1, 0, 0, .null, []),
  (34, .invokevirtual 154, 3, 177, 4, .null, []),
  (37, .istore 5, 2, 5, 0, .null, []),
  (39, .iload 5, 2, 5, 0, .null, []),
  (41, .aload_n 0, 1, 0, 0, .null, []),
  (42, .getfield 22, 3, 8, 4, .null, []),
  (45, .iload 4, 2, 4, 0, .null, []),
  (47, .bipush 12, 2, 0, 0, .int 12, []),
  (49, .iadd, 1, 0, 0, .null, []),
  (50, .iaload, 1, 0, 0, .null, []),
  (51, .aload_n 0, 1, 0, 0, .null, []),
  (52, .getfield 22, 3, 8, 4, .null, []),
  (55, .iload 4, 2, 4, 0, .null, []),
  (57, .bipush 12, 2, 0, 0, .int 12, []),
  (59, .iadd, 1, 0, 0, .null, []),
  (60, .iaload, 1, 0, 0, .null, []),
  (61, .aload_n 0, 1, 0, 0, .null, []),
  (62, .getfield 22, 3, 8, 4, .null, []),
  (65, .iload 4, 2, 4, 0, .null, []),
  (67, .iconst 1, 1, 0, 0, .int 1, []),
  (68, .iadd, 1, 0, 0, .null, []),
  (69, .iaload, 1, 0, 0, .null, []),
  (70, .iadd, 1, 0, 0, .null, []),
  (71, .iconst 1, 1, 0, 0, .int 1, []),
  (72, .isub, 1, 0, 0, .null, []),
  (73, .invokestatic 68, 3, 148, 3, .null, []),
  (76, .ifCond .ne 5, 3, 81, 0, .null, []),
  (79, .iconst 2, 1, 0, 0, .int 2, []),
  (80, .ireturn, 1, 0, 0, .null, []),
  (81, .aload_n 0, 1, 0, 0, .null, []),
  (82, .getfield 22, 3, 8, 4, .null, []),
  (85, .iload 4, 2, 4, 0, .null, []),
  (87, .bipush 13, 2, 0, 0, .int 13, []),
  (89, .iadd, 1, 0, 0, .null, []),
  (90, .iaload, 1, 0, 0, .null, []),
  (91, .iconst 1, 1, 0, 0, .int 1, []),
  (92, .if_icmp .ne 5, 3, 97, 0, .null, []),
  (95, .iconst 3, 1, 0, 0, .int 3, []),
  (96, .ireturn, 1, 0, 0, .null, []),
  (97, .aload_n 0, 1, 0, 0, .null, []),
  (98, .iload_n 1, 1, 1, 0, .null, []),
  (99, .iload 5, 2, 5, 0, .null, []),
  (101, .aload_n 0, 1, 0, 0, .null, []),
  (102, .getfield 7, 3, 8, 0, .null, []),
  (105, .iconst 3, 1, 0, 0, .int 3, []),
  (106, .iaload, 1, 0, 0, .null, []),
  (107, .invokevirtual 161, 3, 178, 4, .null, []),
  (110, .ifCond .ne 22, 3, 132, 0, .null, []),
  (113, .aload_n 0, 1, 0, 0, .null, []),
  (114, .iload_n 1, 1, 1, 0, .null, []),
  (115, .invokevirtual 168, 3, 180, 2, .null, []),
  (118, .aload_n 0, 1, 0, 0, .null, []),
  (119, .getfield 22, 3, 8, 4, .null, []),
  (122, .iload 4, 2, 4, 0, .null, []),
  (124, .iconst 0, 1, 0, 0, .int 0, []),
  (125, .iadd, 1, 0, 0, .null, []),
  (126, .iaload, 1, 0, 0, .null, []),
  (127, .if_icmp .ne 5, 3, 132, 0, .null, []),
  (130, .iconst 4, 1, 0, 0, .int 4, []),
  (131, .ireturn, 1, 0, 0, .null, []),
  (132, .aload_n 0, 1, 0, 0, .null, []),
  (133, .getfield 16, 3, 8, 2, .null, []),
  (136, .bipush 8, 2, 0, 0, .int 8, []),
  (138, .iload_n 2, 1, 2, 0, .null, []),
  (139, .imul, 1, 0, 0, .null, []),
  (140, .iconst 5, 1, 0, 0, .int 5, []),
  (141, .iadd, 1, 0, 0, .null, []),
  (142, .iaload, 1, 0, 0, .null, []),
  (143, .iconst 1, 1, 0, 0, .int 1, []),
  (144, .if_icmp .ne 28, 3, 172, 0, .null, []),
  (147, .aload_n 0, 1, 0, 0, .null, []),
  (148, .iload_n 2, 1, 2, 0, .null, []),
  (149, .iload_n 3, 1, 3, 0, .null, []),
  (150, .invokevirtual 171, 3, 181, 3, .null, []),
  (153, .aload_n 0, 1, 0, 0, .null, []),
  (154, .getfield 16, 3, 8, 2, .null, []),
  (157, .bipush 8, 2, 0, 0, .int 8, []),
  (159, .iload_n 2, 1, 2, 0, .null, []),
  (160, .imul, 1, 0, 0, .null, []),
  (161, .bipush 7, 2, 0, 0, .int 7, []),
  (163, .iadd, 1, 0, 0, .null, []),
  (164, .iaload, 1, 0, 0, .null, []),
  (165, .if_icmp .lt 7, 3, 172, 0, .null, []),
  (168, .iconst 5, 1, 0, 0, .int 5, []),
  (169, .goto 4, 3, 173, 0, .null, []),
  (172, .iconst 0, 1, 0, 0, .int 0, []),
  (173, .ireturn, 1, 0, 0, .null, [])]
/-- RailPassesModel.letsTrain([III)Z -/
def rp_k175 : List rp_En := [(0, .aload_n 0, 1, 0, 0, .null, []),
  (1, .getfield 16, 3, 8, 2, .null, []),
  (4, .bipush 8, 2, 0, 0, .int 8, []),
  (6, .iload_n 3, 1, 3, 0, .null, []),
  (7, .imul, 1, 0, 0, .null, []),
  (8, .iaload, 1, 0, 0, .null, []),
  (9, .istore 4, 2, 4, 0, .null, []),
  (11, .aload_n 1, 1, 1, 0, .null, []),
  (12, .iload_n 2, 1, 2, 0, .null, []),
  (13, .iload 4, 2, 4, 0, .null, []),
  (15, .aload_n 0, 1, 0, 0, .null, []),
  (16, .getfield 13, 3, 8, 1, .null, []),
  (19, .iconst 5, 1, 0, 0, .int 5, []),
  (20, .iload 4, 2, 4, 0, .null, []),
  (22, .imul, 1, 0, 0, .null, []),
  (23, .iconst 2, 1, 0, 0, .int 2, []),
  (24, .iadd, 1, 0, 0, .null, []),
  (25, .iaload, 1, 0, 0, .null, []),
  (26, .invokestatic 150, 3, 176, 4, .null, []),
  (29, .ireturn, 1, 0, 0, .null, [])]
/-- RailPassesModel.lets([IIII)Z -/
def rp_k176 : List rp_En := [(0, .aload_n 0, 1, 0, 0, .null, []),
  (1, .iload_n 1, 1, 1, 0, .null, []),
  (2, .iconst 3, 1, 0, 0, .int 3, []),
  (3, .iadd, 1, 0, 0, .null, []),
  (4, .iaload, 1, 0, 0, .null, []),
  (5, .iload_n 3, 1, 3, 0, .null, []),
  (6, .ishr, 1, 0, 0, .null, []),
  (7, .iconst 1, 1, 0, 0, .int 1, []),
  (8, .iand, 1, 0, 0, .null, []),
  (9, .iconst 1, 1, 0, 0, .int 1, []),
  (10, .if_icmp .ne 19, 3, 29, 0, .null, []),
  (13, .aload_n 0, 1, 0, 0, .null, []),
  (14, .iload_n 1, 1, 1, 0, .null, []),
  (15, .iconst 4, 1, 0, 0, .int 4, []),
  (16, .iadd, 1, 0, 0, .null, []),
  (17, .iaload, 1, 0, 0, .null, []),
  (18, .iload_n 2, 1, 2, 0, .null, []),
  (19, .ishr, 1, 0, 0, .null, []),
  (20, .iconst 1, 1, 0, 0, .int 1, []),
  (21, .iand, 1, 0, 0, .null, []),
  (22, .ifCond .ne 7, 3, 29, 0, .null, []),
  (25, .iconst 1, 1, 0, 0, .int 1, []),
  (26, .goto 4, 3, 30, 0, .null, []),
  (29, .iconst 0, 1, 0, 0, .int 0, []),
  (30, .ireturn, 1, 0, 0, .null, [])]
/-- RailPassesModel.counted(III)I -/
def rp_k177 : List rp_En := [(0, .aload_n 0, 1, 0, 0, .null, []),
  (1, .iload_n 1, 1, 1, 0, .null, []),
  (2, .invokevirtual 79, 3, 152, 2, .null, []),
  (5, .ifCond .eq 27, 3, 32, 0, .null, []),
  (8, .aload_n 0, 1, 0, 0, .null, []),
  (9, .getfield 16, 3, 8, 2, .null, []),
  (12, .bipush 8, 2, 0, 0, .int 8, []),
  (14, .iload_n 1, 1, 1, 0, .null, []),
  (15, .imul, 1, 0, 0, .null, []),
  (16, .iconst 3, 1, 0, 0, .int 3, []),
  (17, .iadd, 1, 0, 0, .null, []),
  (18, .iaload, 1, 0, 0, .null, []),
  (19, .bipush 60, 2, 0, 0, .int 60, []),
  (21, .iload_n 3, 1, 3, 0, .null, []),
  (22, .imul, 1, 0, 0, .null, []),
  (23, .if_icmp .lt 9, 3, 32, 0, .null, []),
  (26, .iload_n 2, 1, 2, 0, .null, []),
  (27, .iconst 1, 1, 0, 0, .int 1, []),
  (28, .iadd, 1, 0, 0, .null, []),
  (29, .goto 4, 3, 33, 0, .null, []),
  (32, .iload_n 2, 1, 2, 0, .null, []),
  (33, .ireturn, 1, 0, 0, .null, [])]
/-- RailPassesModel.isCounted(III)Z -/
def rp_k178 : List rp_En := [(0, .iconst 0, 1, 0, 0, .int 0, []),
  (1, .istore 4, 2, 4, 0, .null, []),
  (3, .iconst 0, 1, 0, 0, .int 0, []),
  (4, .istore 5, 2, 5, 0, .null, []),
  (6, .iload 5, 2, 5, 0, .null, []),
  (8, .iload_n 3, 1, 3, 0, .null, []),
  (9, .if_icmp .ge 44, 3, 53, 0, .null, []),
  (12, .iload 4, 2, 4, 0, .null, []),
  (14, .ifCond .ne 26, 3, 40, 0, .null, []),
  (17, .aload_n 0, 1, 0, 0, .null, []),
  (18, .getfield 25, 3, 8, 5, .null, []),
  (21, .iconst 3, 1, 0, 0, .int 3, []),
  (22, .iload 5, 2, 5, 0, .null, []),
  (24, .imul, 1, 0, 0, .null, []),
  (25, .iaload, 1, 0, 0, .null, []),
  (26, .iload_n 1, 1, 1, 0, .null, []),
  (27, .if_icmp .ne 17, 3, 44, 0, .null, []),
  (30, .aload_n 0, 1, 0, 0, .null, []),
  (31, .iload 5, 2, 5, 0, .null, []),
  (33, .invokevirtual 158, 3, 179, 2, .null, []),
  (36, .iload_n 2, 1, 2, 0, .null, []),
  (37, .if_icmp .ne 7, 3, 44, 0, .null, []),
  (40, .iconst 1, 1, 0, 0, .int 1, []),
  (41, .goto 4, 3, 45, 0, .null, []),
  (44, .iconst 0, 1, 0, 0, .int 0, []),
  (45, .istore 4, 2, 4, 0, .null, []),
  (47, .iinc 5 1, 3, 5, 0, .int 1, []),
  (50, .goto (-44), 3, 6, 0, .null, []),
  (53, .iload 4, 2, 4, 0, .null, []),
  (55, .ireturn, 1, 0, 0, .null, [])]
/-- RailPassesModel.countedOf(I)I -/
def rp_k179 : List rp_En := [(0, .aload_n 0, 1, 0, 0, .null, []),
  (1, .getfield 25, 3, 8, 5, .null, []),
  (4, .iconst 3, 1, 0, 0, .int 3, []),
  (5, .iload_n 1, 1, 1, 0, .null, []),
  (6, .imul, 1, 0, 0, .null, []),
  (7, .iaload, 1, 0, 0, .null, []),
  (8, .istore_n 2, 1, 2, 0, .null, []),
  (9, .aload_n 0, 1, 0, 0, .null, []),
  (10, .aload_n 0, 1, 0, 0, .null, []),
  (11, .getfield 25, 3, 8, 5, .null, []),
  (14, .iconst 3, 1, 0, 0, .int 3, []),
  (15, .iload_n 1, 1, 1, 0, .null, []),
  (16, .imul, 1, 0, 0, .null, []),
  (17, .iconst 1, 1, 0, 0, .int 1, []),
  (18, .iadd, 1, 0, 0, .null, []),
  (19, .iaload, 1, 0, 0, .null, []),
  (20, .aload_n 0, 1, 0, 0, .null, []),
  (21, .getfield 25, 3, 8, 5, .null, []),
  (24, .iconst 3, 1, 0, 0, .int 3, []),
  (25, .iload_n 1, 1, 1, 0, .null, []),
  (26, .imul, 1, 0, 0, .null, []),
  (27, .iconst 2, 1, 0, 0, .int 2, []),
  (28, .iadd, 1, 0, 0, .null, []),
  (29, .iaload, 1, 0, 0, .null, []),
  (30, .aload_n 0, 1, 0, 0, .null, []),
  (31, .getfield 22, 3, 8, 4, .null, []),
  (34, .bipush 16, 2, 0, 0, .int 16, []),
  (36, .iload_n 2, 1, 2, 0, .null, []),
  (37, .imul, 1, 0, 0, .null, []),
  (38, .iconst 5, 1, 0, 0, .int 5, []),
  (39, .iadd, 1, 0, 0, .null, []),
  (40, .iaload, 1, 0, 0, .null, []),
  (41, .invokevirtual 154, 3, 177, 4, .null, []),
  (44, .ireturn, 1, 0, 0, .null, [])]
/-- RailPassesModel.countedDays(I)I -/
def rp_k180 : List rp_En := [(0, .iconst 0, 1, 0, 0, .int 0, []),
  (1, .istore_n 2, 1, 2, 0, .null, []),
  (2, .iconst 0, 1, 0, 0, .int 0, []),
  (3, .istore_n 3, 1, 3, 0, .null, []),
  (4, .iload_n 3, 1, 3, 0, .null, []),
  (5, .aload_n 0, 1, 0, 0, .null, []),
  (6, .getfield 7, 3, 8, 0, .null, []),
  (9, .iconst 3, 1, 0, 0, .int 3, []),
  (10, .iaload, 1, 0, 0, .null, []),
  (11, .if_icmp .ge 43, 3, 54, 0, .null, []),
  (14, .iload_n 2, 1, 2, 0, .null, []),
  (15, .aload_n 0, 1, 0, 0, .null, []),
  (16, .getfield 25, 3, 8, 5, .null, []),
  (19, .iconst 3, 1, 0, 0, .int 3, []),
  (20, .iload_n 3, 1, 3, 0, .null, []),
  (21, .imul, 1, 0, 0, .null, []),
  (22, .iaload, 1, 0, 0, .null, []),
  (23, .iload_n 1, 1, 1, 0, .null, []),
  (24, .if_icmp .ne 21, 3, 45, 0, .null, []),
  (27, .aload_n 0, 1, 0, 0, .null, []),
  (28, .iload_n 1, 1, 1, 0, .null, []),
  (29, .aload_n 0, 1, 0, 0, .null, []),
  (30, .iload_n 3, 1, 3, 0, .null, []),
  (31, .invokevirtual 158, 3, 179, 2, .null, []),
  (34, .iload_n 3, 1, 3, 0, .null, []),
  (35, .invokevirtual 161, 3, 178, 4, .null, []),
  (38, .ifCond .ne 7, 3, 45, 0, .null, []),
  (41, .iconst 1, 1, 0, 0, .int 1, []),
  (42, .goto 4, 3, 46, 0, .null, []),
  (45, .iconst 0, 1, 0, 0, .int 0, []),
  (46, .iadd, 1, 0, 0, .null, []),
  (47, .istore_n 2, 1, 2, 0, .null, []),
  (48, .iinc 3 1, 3, 3, 0, .int 1, []),
  (51, .goto (-47), 3, 4, 0, .null, []),
  (54, .iload_n 2, 1, 2, 0, .null, []),
  (55, .ireturn, 1, 0, 0, .null, [])]
/-- RailPassesModel.takenOn(II)I -/
def rp_k181 : List rp_En := [(0, .iconst 0, 1, 0, 0, .int 0, []),
  (1, .istore_n 3, 1, 3, 0, .null, []),
  (2, .iconst 0, 1, 0, 0, .int 0, []),
  (3, .istore 4, 2, 4, 0, .null, []),
  (5, .iload 4, 2, 4, 0, .null, []),
  (7, .aload_n 0, 1, 0, 0, .null, []),
  (8, .getfield 7, 3, 8, 0, .null, []),
  (11, .iconst 3, 1, 0, 0, .int 3, []),
  (12, .iaload, 1, 0, 0, .null, []),
  (13, .if_icmp .ge 47, 3, 60, 0, .null, []),
  (16, .iload_n 3, 1, 3, 0, .null, []),
  (17, .aload_n 0, 1, 0, 0, .null, []),
  (18, .getfield 25, 3, 8, 5, .null, []),
  (21, .iconst 3, 1, 0, 0, .int 3, []),
  (22, .iload 4, 2, 4, 0, .null, []),
  (24, .imul, 1, 0, 0, .null, []),
  (25, .iconst 1, 1, 0, 0, .int 1, []),
  (26, .iadd, 1, 0, 0, .null, []),
  (27, .iaload, 1, 0, 0, .null, []),
  (28, .iload_n 1, 1, 1, 0, .null, []),
  (29, .if_icmp .ne 22, 3, 51, 0, .null, []),
  (32, .aload_n 0, 1, 0, 0, .null, []),
  (33, .getfield 25, 3, 8, 5, .null, []),
  (36, .iconst 3, 1, 0, 0, .int 3, []),
  (37, .iload 4, 2, 4, 0, .null, []),
  (39, .imul, 1, 0, 0, .null, []),
  (40, .iconst 2, 1, 0, 0, .int 2, []),
  (41, .iadd, 1, 0, 0, .null, []),
  (42, .iaload, 1, 0, 0, .null, []),
  (43, .iload_n 2, 1, 2, 0, .null, []),
  (44, .if_icmp .ne 7, 3, 51, 0, .null, []),
  (47, .iconst 1, 1, 0, 0, .int 1, []),
  (48, .goto 4, 3, 52, 0, .null, []),
  (51, .iconst 0, 1, 0, 0, .int 0, []),
  (52, .iadd, 1, 0, 0, .null, []),
  (53, .istore_n 3, 1, 3, 0, .null, []),
  (54, .iinc 4 1, 3, 4, 0, .int 1, []),
  (57, .goto (-52), 3, 5, 0, .null, []),
  (60, .iload_n 3, 1, 3, 0, .null, []),
  (61, .ireturn, 1, 0, 0, .null, [])]
/-- RailPassesModel.ride(III)I -/
def rp_k182 : List rp_En := [(0, .aload_n 0, 1, 0, 0, .null, []),
  (1, .iload_n 1, 1, 1, 0, .null, []),
  (2, .iload_n 2, 1, 2, 0, .null, []),
  (3, .iload_n 3, 1, 3, 0, .null, []),
  (4, .invokevirtual 177, 3, 172, 4, .null, []),
  (7, .ifCond .ne 5, 3, 12, 0, .null, []),
  (10, .iconst (-1), 1, 0, 0, .int (-1), []),
  (11, .ireturn, 1, 0, 0, .null, []),
  (12, .aload_n 0, 1, 0, 0, .null, []),
  (13, .getfield 7, 3, 8, 0, .null, []),
  (16, .iconst 3, 1, 0, 0, .int 3, []),
  (17, .iaload, 1, 0, 0, .null, []),
  (18, .bipush 40, 2, 0, 0, .int 40, []),
  (20, .if_icmp .ne 6, 3, 26, 0, .null, []),
  (23, .bipush (-2), 2, 0, 0, .int (-2), []),
  (25, .ireturn, 1, 0, 0, .null, []),
  (26, .aload_n 0, 1, 0, 0, .null, []),
  (27, .iload_n 1, 1, 1, 0, .null, []),
  (28, .iload_n 2, 1, 2, 0, .null, []),
  (29, .iload_n 3, 1, 3, 0, .null, []),
  (30, .invokevirtual 180, 3, 174, 4, .null, []),
  (33, .ifCond .eq 6, 3, 39, 0, .null, []),
  (36, .bipush (-4), 2, 0, 0, .int (-4), []),
  (38, .ireturn, 1, 0, 0, .null, []),
  (39, .iconst 3, 1, 0, 0, .int 3, []),
  (40, .aload_n 0, 1, 0, 0, .null, []),
  (41, .getfield 7, 3, 8, 0, .null, []),
  (44, .iconst 3, 1, 0, 0, .int 3, []),
  (45, .iaload, 1, 0, 0, .null, []),
  (46, .imul, 1, 0, 0, .null, []),
  (47, .istore 4, 2, 4, 0, .null, []),
  (49, .aload_n 0, 1, 0, 0, .null, []),
  (50, .getfield 25, 3, 8, 5, .null, []),
  (53, .iload 4, 2, 4, 0, .null, []),
  (55, .iload_n 1, 1, 1, 0, .null, []),
  (56, .iastore, 1, 0, 0, .null, []),
  (57, .aload_n 0, 1, 0, 0, .null, []),
  (58, .getfield 25, 3, 8, 5, .null, []),
  (61, .iload 4, 2, 4, 0, .null, []),
  (63, .iconst 1, 1, 0, 0, .int 1, []),
  (64, .iadd, 1, 0, 0, .null, []),
  (65, .iload_n 2, 1, 2, 0, .null, []),
  (66, .iastore, 1, 0, 0, .null, []),
  (67, .aload_n 0, 1, 0, 0, .null, []),
  (68, .getfield 25, 3, 8, 5, .null, []),
  (71, .iload 4, 2, 4, 0, .null, []),
  (73, .iconst 2, 1, 0, 0, .int 2, []),
  (74, .iadd, 1, 0, 0, .null, []),
  (75, .iload_n 3, 1, 3, 0, .null, []),
  (76, .iastore, 1, 0, 0, .null, []),
  (77, .aload_n 0, 1, 0, 0, .null, []),
  (78, .getfield 7, 3, 8, 0, .null, []),
  (81, .iconst 3, 1, 0, 0, .int 3, []),
  (82, .dup2, 1, 0, 0, .null, []),
  (83, .iaload, 1, 0, 0, .null, []),
  (84, .iconst 1, 1, 0, 0, .int 1, []),
  (85, .iadd, 1, 0, 0, .null, []),
  (86, .iastore, 1, 0, 0, .null, []),
  (87, .aload_n 0, 1, 0, 0, .null, []),
  (88, .aload_n 0, 1, 0, 0, .null, []),
  (89, .getfield 22, 3, 8, 4, .null, []),
  (92, .bipush 16, 2, 0, 0, .int 16, []),
  (94, .iload_n 1, 1, 1, 0, .null, []),
  (95, .imul, 1, 0, 0, .null, []),
  (96, .iload_n 2, 1, 2, 0, .null, []),
  (97, .invokevirtual 183, 3, 183, 4, .null, []),
  (100, .ireturn, 1, 0, 0, .null, [])]
/-- RailPassesModel.pays([III)I -/
def rp_k183 : List rp_En := [(0, .aload_n 0, 1, 0, 0, .null, []),
  (1, .getfield 16, 3, 8, 2, .null, []),
  (4, .bipush 8, 2, 0, 0, .int 8, []),
  (6, .iload_n 3, 1, 3, 0, .null, []),
  (7, .imul, 1, 0, 0, .null, []),
  (8, .iconst 5, 1, 0, 0, .int 5, []),
  (9, .iadd, 1, 0, 0, .null, []),
  (10, .iaload, 1, 0, 0, .null, []),
  (11, .aload_n 1, 1, 1, 0, .null, []),
  (12, .iload_n 2, 1, 2, 0, .null, []),
  (13, .bipush 6, 2, 0, 0, .int 6, []),
  (15, .iadd, 1, 0, 0, .null, []),
  (16, .iaload, 1, 0, 0, .null, []),
  (17, .imul, 1, 0, 0, .null, []),
  (18, .istore 4, 2, 4, 0, .null, []),
  (20, .aload_n 0, 1, 0, 0, .null, []),
  (21, .getfield 13, 3, 8, 1, .null, []),
  (24, .iconst 5, 1, 0, 0, .int 5, []),
  (25, .aload_n 0, 1, 0, 0, .null, []),
  (26, .getfield 16, 3, 8, 2, .null, []),
  (29, .bipush 8, 2, 0, 0, .int 8, []),
  (31, .iload_n 3, 1, 3, 0, .null, []),
  (32, .imul, 1, 0, 0, .null, []),
  (33, .iaload, 1, 0, 0, .null, []),
  (34, .imul, 1, 0, 0, .null, []),
  (35, .iconst 4, 1, 0, 0, .int 4, []),
  (36, .iadd, 1, 0, 0, .null, []),
  (37, .iaload, 1, 0, 0, .null, []),
  (38, .aload_n 0, 1, 0, 0, .null, []),
  (39, .getfield 16, 3, 8, 2, .null, []),
  (42, .bipush 8, 2, 0, 0, .int 8, []),
  (44, .iload_n 3, 1, 3, 0, .null, []),
  (45, .imul, 1, 0, 0, .null, []),
  (46, .bipush 6, 2, 0, 0, .int 6, []),
  (48, .iadd, 1, 0, 0, .null, []),
  (49, .iaload, 1, 0, 0, .null, []),
  (50, .imul, 1, 0, 0, .null, []),
  (51, .aload_n 1, 1, 1, 0, .null, []),
  (52, .iload_n 2, 1, 2, 0, .null, []),
  (53, .bipush 7, 2, 0, 0, .int 7, []),
  (55, .iadd, 1, 0, 0, .null, []),
  (56, .iaload, 1, 0, 0, .null, []),
  (57, .imul, 1, 0, 0, .null, []),
  (58, .bipush 100, 2, 0, 0, .int 100, []),
  (60, .idiv, 1, 0, 0, .null, []),
  (61, .istore 5, 2, 5, 0, .null, []),
  (63, .iload 4, 2, 4, 0, .null, []),
  (65, .iload 5, 2, 5, 0, .null, []),
  (67, .iadd, 1, 0, 0, .null, []),
  (68, .ireturn, 1, 0, 0, .null, [])]
/-- RailPassesModel.rideOf(II)I -/
def rp_k184 : List rp_En := [(0, .iload_n 1, 1, 1, 0, .null, []),
  (1, .iconst 0, 1, 0, 0, .int 0, []),
  (2, .aload_n 0, 1, 0, 0, .null, []),
  (3, .getfield 7, 3, 8, 0, .null, []),
  (6, .iconst 3, 1, 0, 0, .int 3, []),
  (7, .iaload, 1, 0, 0, .null, []),
  (8, .iconst 1, 1, 0, 0, .int 1, []),
  (9, .isub, 1, 0, 0, .null, []),
  (10, .invokestatic 68, 3, 148, 3, .null, []),
  (13, .ifCond .eq 12, 3, 25, 0, .null, []),
  (16, .iload_n 2, 1, 2, 0, .null, []),
  (17, .iconst 0, 1, 0, 0, .int 0, []),
  (18, .iconst 4, 1, 0, 0, .int 4, []),
  (19, .invokestatic 68, 3, 148, 3, .null, []),
  (22, .ifCond .ne 5, 3, 27, 0, .null, []),
  (25, .iconst (-1), 1, 0, 0, .int (-1), []),
  (26, .ireturn, 1, 0, 0, .null, []),
  (27, .iload_n 2, 1, 2, 0, .null, []),
  (28, .iconst 3, 1, 0, 0, .int 3, []),
  (29, .if_icmp .ne 11, 3, 40, 0, .null, []),
  (32, .aload_n 0, 1, 0, 0, .null, []),
  (33, .iload_n 1, 1, 1, 0, .null, []),
  (34, .invokevirtual 158, 3, 179, 2, .null, []),
  (37, .goto 26, 3, 63, 0, .null, []),
  (40, .iload_n 2, 1, 2, 0, .null, []),
  (41, .iconst 4, 1, 0, 0, .int 4, []),
  (42, .if_icmp .ne 11, 3, 53, 0, .null, []),
  (45, .aload_n 0, 1, 0, 0, .null, []),
  (46, .iload_n 1, 1, 1, 0, .null, []),
  (47, .invokevirtual 187, 3, 185, 2, .null, []),
  (50, .goto 13, 3, 63, 0, .null, []),
  (53, .aload_n 0, 1, 0, 0, .null, []),
  (54, .getfield 25, 3, 8, 5, .null, []),
  (57, .iconst 3, 1, 0, 0, .int 3, []),
  (58, .iload_n 1, 1, 1, 0, .null, []),
  (59, .imul, 1, 0, 0, .null, []),
  (60, .iload_n 2, 1, 2, 0, .null, []),
  (61, .iadd, 1, 0, 0, .null, []),
  (62, .iaload, 1, 0, 0, .null, []),
  (63, .ireturn, 1, 0, 0, .null, [])]
/-- RailPassesModel.paysOf(I)I -/
def rp_k185 : List rp_En := [(0, .aload_n 0, 1, 0, 0, .null, []),
  (1, .aload_n 0, 1, 0, 0, .null, []),
  (2, .getfield 22, 3, 8, 4, .null, []),
  (5, .bipush 16, 2, 0, 0, .int 16, []),
  (7, .aload_n 0, 1, 0, 0, .null, []),
  (8, .getfield 25, 3, 8, 5, .null, []),
  (11, .iconst 3, 1, 0, 0, .int 3, []),
  (12, .iload_n 1, 1, 1, 0, .null, []),
  (13, .imul, 1, 0, 0, .null, []),
  (14, .iaload, 1, 0, 0, .null, []),
  (15, .imul, 1, 0, 0, .null, []),
  (16, .aload_n 0, 1, 0, 0, .null, []),
  (17, .getfield 25, 3, 8, 5, .null, []),
  (20, .iconst 3, 1, 0, 0, .int 3, []),
  (21, .iload_n 1, 1, 1, 0, .null, []),
  (22, .imul, 1, 0, 0, .null, []),
  (23, .iconst 1, 1, 0, 0, .int 1, []),
  (24, .iadd, 1, 0, 0, .null, []),
  (25, .iaload, 1, 0, 0, .null, []),
  (26, .invokevirtual 183, 3, 183, 4, .null, []),
  (29, .ireturn, 1, 0, 0, .null, [])]
/-- RailPassesModel.giveBack(I)I -/
def rp_k186 : List rp_En := [(0, .iload_n 1, 1, 1, 0, .null, []),
  (1, .iconst 0, 1, 0, 0, .int 0, []),
  (2, .aload_n 0, 1, 0, 0, .null, []),
  (3, .getfield 7, 3, 8, 0, .null, []),
  (6, .iconst 3, 1, 0, 0, .int 3, []),
  (7, .iaload, 1, 0, 0, .null, []),
  (8, .iconst 1, 1, 0, 0, .int 1, []),
  (9, .isub, 1, 0, 0, .null, []),
  (10, .invokestatic 68, 3, 148, 3, .null, []),
  (13, .ifCond .ne 5, 3, 18, 0, .null, []),
  (16, .iconst (-1), 1, 0, 0, .int (-1), []),
  (17, .ireturn, 1, 0, 0, .null, []),
  (18, .aload_n 0, 1, 0, 0, .null, []),
  (19, .getfield 7, 3, 8, 0, .null, []),
  (22, .iconst 3, 1, 0, 0, .int 3, []),
  (23, .dup2, 1, 0, 0, .null, []),
  (24, .iaload, 1, 0, 0, .null, []),
  (25, .iconst 1, 1, 0, 0, .int 1, []),
  (26, .isub, 1, 0, 0, .null, []),
  (27, .iastore, 1, 0, 0, .null, []),
  (28, .iconst 3, 1, 0, 0, .int 3, []),
  (29, .iload_n 1, 1, 1, 0, .null, []),
  (30, .imul, 1, 0, 0, .null, []),
  (31, .istore_n 2, 1, 2, 0, .null, []),
  (32, .iload_n 2, 1, 2, 0, .null, []),
  (33, .iconst 3, 1, 0, 0, .int 3, []),
  (34, .aload_n 0, 1, 0, 0, .null, []),
  (35, .getfield 7, 3, 8, 0, .null, []),
  (38, .iconst 3, 1, 0, 0, .int 3, []),
  (39, .iaload, 1, 0, 0, .null, []),
  (40, .imul, 1, 0, 0, .null, []),
  (41, .if_icmp .ge 23, 3, 64, 0, .null, []),
  (44, .aload_n 0, 1, 0, 0, .null, []),
  (45, .getfield 25, 3, 8, 5, .null, []),
  (48, .iload_n 2, 1, 2, 0, .null, []),
  (49, .aload_n 0, 1, 0, 0, .null, []),
  (50, .getfield 25, 3, 8, 5, .null, []),
  (53, .iload_n 2, 1, 2, 0, .null, []),
  (54, .iconst 3, 1, 0, 0, .int 3, []),
  (55, .iadd, 1, 0, 0, .null, []),
  (56, .iaload, 1, 0, 0, .null, []),
  (57, .iastore, 1, 0, 0, .null, []),
  (58, .iinc 2 1, 3, 2, 0, .int 1, []),
  (61, .goto (-29), 3, 32, 0, .null, []),
  (64, .aload_n 0, 1, 0, 0, .null, []),
  (65, .getfield 7, 3, 8, 0, .null, []),
  (68, .iconst 3, 1, 0, 0, .int 3, []),
  (69, .iaload, 1, 0, 0, .null, []),
  (70, .ireturn, 1, 0, 0, .null, [])]
/-- RailPassesModel.taken(II)I -/
def rp_k187 : List rp_En := [(0, .aload_n 0, 1, 0, 0, .null, []),
  (1, .iload_n 1, 1, 1, 0, .null, []),
  (2, .invokevirtual 76, 3, 151, 2, .null, []),
  (5, .ifCond .eq 19, 3, 24, 0, .null, []),
  (8, .iload_n 2, 1, 2, 0, .null, []),
  (9, .invokestatic 147, 3, 170, 1, .null, []),
  (12, .ifCond .eq 12, 3, 24, 0, .null, []),
  (15, .aload_n 0, 1, 0, 0, .null, []),
  (16, .iload_n 1, 1, 1, 0, .null, []),
  (17, .iload_n 2, 1, 2, 0, .null, []),
  (18, .invokevirtual 171, 3, 181, 3, .null, []),
  (21, .goto 4, 3, 25, 0, .null, []),
  (24, .iconst (-1), 1, 0, 0, .int (-1), []),
  (25, .ireturn, 1, 0, 0, .null, [])]
/-- RailPassesModel.pass(II)I -/
def rp_k188 : List rp_En := [(0, .aload_n 0, 1, 0, 0, .null, []),
  (1, .iload_n 1, 1, 1, 0, .null, []),
  (2, .invokevirtual 174, 3, 173, 2, .null, []),
  (5, .ifCond .eq 13, 3, 18, 0, .null, []),
  (8, .iload_n 2, 1, 2, 0, .null, []),
  (9, .iconst 0, 1, 0, 0, .int 0, []),
  (10, .bipush 8, 2, 0, 0, .int 8, []),
  (12, .invokestatic 68, 3, 148, 3, .null, []),
  (15, .ifCond .ne 5, 3, 20, 0, .null, []),
  (18, .iconst (-1), 1, 0, 0, .int (-1), []),
  (19, .ireturn, 1, 0, 0, .null, []),
  (20, .bipush 16, 2, 0, 0, .int 16, []),
  (22, .iload_n 1, 1, 1, 0, .null, []),
  (23, .imul, 1, 0, 0, .null, []),
  (24, .istore_n 3, 1, 3, 0, .null, []),
  (25, .iconst 0, 1, 0, 0, .int 0, []),
  (26, .istore 4, 2, 4, 0, .null, []),
  (28, .iload_n 2, 1, 2, 0, .null, []),
  (29, .tableswitch 196 0 7 #[47, 57, 67, 77, 83, 129, 180, 190], 47, 225, 0, .null, [(0, 76), (1, 86), (2, 96), (3, 106), (4, 112), (5, 158), (6, 209), (7, 219)]),
  (76, .aload_n 0, 1, 0, 0, .null, []),
  (77, .getfield 22, 3, 8, 4, .null, []),
  (80, .iload_n 3, 1, 3, 0, .null, []),
  (81, .bipush 14, 2, 0, 0, .int 14, []),
  (83, .iadd, 1, 0, 0, .null, []),
  (84, .iaload, 1, 0, 0, .null, []),
  (85, .ireturn, 1, 0, 0, .null, []),
  (86, .aload_n 0, 1, 0, 0, .null, []),
  (87, .getfield 22, 3, 8, 4, .null, []),
  (90, .iload_n 3, 1, 3, 0, .null, []),
  (91, .bipush 11, 2, 0, 0, .int 11, []),
  (93, .iadd, 1, 0, 0, .null, []),
  (94, .iaload, 1, 0, 0, .null, []),
  (95, .ireturn, 1, 0, 0, .null, []),
  (96, .aload_n 0, 1, 0, 0, .null, []),
  (97, .getfield 22, 3, 8, 4, .null, []),
  (100, .iload_n 3, 1, 3, 0, .null, []),
  (101, .bipush 12, 2, 0, 0, .int 12, []),
  (103, .iadd, 1, 0, 0, .null, []),
  (104, .iaload, 1, 0, 0, .null, []),
  (105, .ireturn, 1, 0, 0, .null, []),
  (106, .aload_n 0, 1, 0, 0, .null, []),
  (107, .iload_n 1, 1, 1, 0, .null, []),
  (108, .invokevirtual 168, 3, 180, 2, .null, []),
  (111, .ireturn, 1, 0, 0, .null, []),
  (112, .iconst 0, 1, 0, 0, .int 0, []),
  (113, .istore 5, 2, 5, 0, .null, []),
  (115, .iload 5, 2, 5, 0, .null, []),
  (117, .aload_n 0, 1, 0, 0, .null, []),
  (118, .getfield 7, 3, 8, 0, .null, []),
  (121, .iconst 3, 1, 0, 0, .int 3, []),
  (122, .iaload, 1, 0, 0, .null, []),
  (123, .if_icmp .ge 32, 3, 155, 0, .null, []),
  (126, .iload 4, 2, 4, 0, .null, []),
  (128, .aload_n 0, 1, 0, 0, .null, []),
  (129, .getfield 25, 3, 8, 5, .null, []),
  (132, .iconst 3, 1, 0, 0, .int 3, []),
  (133, .iload 5, 2, 5, 0, .null, []),
  (135, .imul, 1, 0, 0, .null, []),
  (136, .iaload, 1, 0, 0, .null, []),
  (137, .iload_n 1, 1, 1, 0, .null, []),
  (138, .if_icmp .ne 7, 3, 145, 0, .null, []),
  (141, .iconst 1, 1, 0, 0, .int 1, []),
  (142, .goto 4, 3, 146, 0, .null, []),
  (145, .iconst 0, 1, 0, 0, .int 0, []),
  (146, .iadd, 1, 0, 0, .null, []),
  (147, .istore 4, 2, 4, 0, .null, []),
  (149, .iinc 5 1, 3, 5, 0, .int 1, []),
  (152, .goto (-37), 3, 115, 0, .null, []),
  (155, .iload 4, 2, 4, 0, .null, []),
  (157, .ireturn, 1, 0, 0, .null, []),
  (158, .iconst 0, 1, 0, 0, .int 0, []),
  (159, .istore 5, 2, 5, 0, .null, []),
  (161, .iload 5, 2, 5, 0, .null, []),
  (163, .aload_n 0, 1, 0, 0, .null, []),
  (164, .getfield 7, 3, 8, 0, .null, []),
  (167, .iconst 3, 1, 0, 0, .int 3, []),
  (168, .iaload, 1, 0, 0, .null, []),
  (169, .if_icmp .ge 37, 3, 206, 0, .null, []),
  (172, .iload 4, 2, 4, 0, .null, []),
  (174, .aload_n 0, 1, 0, 0, .null, []),
  (175, .getfield 25, 3, 8, 5, .null, []),
  (178, .iconst 3, 1, 0, 0, .int 3, []),
  (179, .iload 5, 2, 5, 0, .null, []),
  (181, .imul, 1, 0, 0, .null, []),
  (182, .iaload, 1, 0, 0, .null, []),
  (183, .iload_n 1, 1, 1, 0, .null, []),
  (184, .if_icmp .ne 12, 3, 196, 0, .null, []),
  (187, .aload_n 0, 1, 0, 0, .null, []),
  (188, .iload 5, 2, 5, 0, .null, []),
  (190, .invokevirtual 187, 3, 185, 2, .null, []),
  (193, .goto 4, 3, 197, 0, .null, []),
  (196, .iconst 0, 1, 0, 0, .int 0, []),
  (197, .iadd, 1, 0, 0, .null, []),
  (198, .istore 4, 2, 4, 0, .null, []),
  (200, .iinc 5 1, 3, 5, 0, .int 1, []),
  (203, .goto (-42), 3, 161, 0, .null, []),
  (206, .iload 4, 2, 4, 0, .null, []),
  (208, .ireturn, 1, 0, 0, .null, []),
  (209, .aload_n 0, 1, 0, 0, .null, []),
  (210, .getfield 22, 3, 8, 4, .null, []),
  (213, .iload_n 3, 1, 3, 0, .null, []),
  (214, .bipush 13, 2, 0, 0, .int 13, []),
  (216, .iadd, 1, 0, 0, .null, []),
  (217, .iaload, 1, 0, 0, .null, []),
  (218, .ireturn, 1, 0, 0, .null, []),
  (219, .aload_n 0, 1, 0, 0, .null, []),
  (220, .iload_n 1, 1, 1, 0, .null, []),
  (221, .invokevirtual 190, 3, 189, 2, .null, []),
  (224, .ireturn, 1, 0, 0, .null, []),
  (225, .aload_n 0, 1, 0, 0, .null, []),
  (226, .getfield 22, 3, 8, 4, .null, []),
  (229, .iload_n 3, 1, 3, 0, .null, []),
  (230, .bipush 12, 2, 0, 0, .int 12, []),
  (232, .iadd, 1, 0, 0, .null, []),
  (233, .iaload, 1, 0, 0, .null, []),
  (234, .aload_n 0, 1, 0, 0, .null, []),
  (235, .getfield 22, 3, 8, 4, .null, []),
  (238, .iload_n 3, 1, 3, 0, .null, []),
  (239, .iconst 1, 1, 0, 0, .int 1, []),
  (240, .iadd, 1, 0, 0, .null, []),
  (241, .iaload, 1, 0, 0, .null, []),
  (242, .iadd, 1, 0, 0, .null, []),
  (243, .iconst 1, 1, 0, 0, .int 1, []),
  (244, .isub, 1, 0, 0, .null, []),
  (245, .ireturn, 1, 0, 0, .null, [])]
/-- RailPassesModel.refundOf(I)I -/
def rp_k189 : List rp_En := [(0, .bipush 16, 2, 0, 0, .int 16, []),
  (2, .iload_n 1, 1, 1, 0, .null, []),
  (3, .imul, 1, 0, 0, .null, []),
  (4, .istore_n 2, 1, 2, 0, .null, []),
  (5, .aload_n 0, 1, 0, 0, .null, []),
  (6, .getfield 22, 3, 8, 4, .null, []),
  (9, .iload_n 2, 1, 2, 0, .null, []),
  (10, .bipush 13, 2, 0, 0, .int 13, []),
  (12, .iadd, 1, 0, 0, .null, []),
  (13, .iaload, 1, 0, 0, .null, []),
  (14, .iconst 1, 1, 0, 0, .int 1, []),
  (15, .if_icmp .ne 15, 3, 30, 0, .null, []),
  (18, .aload_n 0, 1, 0, 0, .null, []),
  (19, .getfield 22, 3, 8, 4, .null, []),
  (22, .iload_n 2, 1, 2, 0, .null, []),
  (23, .bipush 10, 2, 0, 0, .int 10, []),
  (25, .iadd, 1, 0, 0, .null, []),
  (26, .iaload, 1, 0, 0, .null, []),
  (27, .goto 12, 3, 39, 0, .null, []),
  (30, .aload_n 0, 1, 0, 0, .null, []),
  (31, .getfield 22, 3, 8, 4, .null, []),
  (34, .iload_n 2, 1, 2, 0, .null, []),
  (35, .bipush 9, 2, 0, 0, .int 9, []),
  (37, .iadd, 1, 0, 0, .null, []),
  (38, .iaload, 1, 0, 0, .null, []),
  (39, .istore_n 3, 1, 3, 0, .null, []),
  (40, .aload_n 0, 1, 0, 0, .null, []),
  (41, .getfield 22, 3, 8, 4, .null, []),
  (44, .iload_n 2, 1, 2, 0, .null, []),
  (45, .iconst 0, 1, 0, 0, .int 0, []),
  (46, .iadd, 1, 0, 0, .null, []),
  (47, .iaload, 1, 0, 0, .null, []),
  (48, .istore 4, 2, 4, 0, .null, []),
  (50, .aload_n 0, 1, 0, 0, .null, []),
  (51, .getfield 22, 3, 8, 4, .null, []),
  (54, .iload_n 2, 1, 2, 0, .null, []),
  (55, .bipush 14, 2, 0, 0, .int 14, []),
  (57, .iadd, 1, 0, 0, .null, []),
  (58, .iaload, 1, 0, 0, .null, []),
  (59, .iload 4, 2, 4, 0, .null, []),
  (61, .aload_n 0, 1, 0, 0, .null, []),
  (62, .iload_n 1, 1, 1, 0, .null, []),
  (63, .invokevirtual 168, 3, 180, 2, .null, []),
  (66, .isub, 1, 0, 0, .null, []),
  (67, .imul, 1, 0, 0, .null, []),
  (68, .iload_n 3, 1, 3, 0, .null, []),
  (69, .imul, 1, 0, 0, .null, []),
  (70, .bipush 100, 2, 0, 0, .int 100, []),
  (72, .iload 4, 2, 4, 0, .null, []),
  (74, .imul, 1, 0, 0, .null, []),
  (75, .idiv, 1, 0, 0, .null, []),
  (76, .ireturn, 1, 0, 0, .null, [])]
/-- RailPassesModel.lose(I)I -/
def rp_k190 : List rp_En := [(0, .aload_n 0, 1, 0, 0, .null, []),
  (1, .iload_n 1, 1, 1, 0, .null, []),
  (2, .invokevirtual 174, 3, 173, 2, .null, []),
  (5, .ifCond .ne 5, 3, 10, 0, .null, []),
  (8, .iconst (-1), 1, 0, 0, .int (-1), []),
  (9, .ireturn, 1, 0, 0, .null, []),
  (10, .aload_n 0, 1, 0, 0, .null, []),
  (11, .getfield 22, 3, 8, 4, .null, []),
  (14, .bipush 16, 2, 0, 0, .int 16, []),
  (16, .iload_n 1, 1, 1, 0, .null, []),
  (17, .imul, 1, 0, 0, .null, []),
  (18, .bipush 13, 2, 0, 0, .int 13, []),
  (20, .iadd, 1, 0, 0, .null, []),
  (21, .iaload, 1, 0, 0, .null, []),
  (22, .iconst 1, 1, 0, 0, .int 1, []),
  (23, .if_icmp .ne 6, 3, 29, 0, .null, []),
  (26, .bipush (-4), 2, 0, 0, .int (-4), []),
  (28, .ireturn, 1, 0, 0, .null, []),
  (29, .aload_n 0, 1, 0, 0, .null, []),
  (30, .getfield 22, 3, 8, 4, .null, []),
  (33, .bipush 16, 2, 0, 0, .int 16, []),
  (35, .iload_n 1, 1, 1, 0, .null, []),
  (36, .imul, 1, 0, 0, .null, []),
  (37, .bipush 13, 2, 0, 0, .int 13, []),
  (39, .iadd, 1, 0, 0, .null, []),
  (40, .iconst 1, 1, 0, 0, .int 1, []),
  (41, .iastore, 1, 0, 0, .null, []),
  (42, .aload_n 0, 1, 0, 0, .null, []),
  (43, .iload_n 1, 1, 1, 0, .null, []),
  (44, .invokevirtual 190, 3, 189, 2, .null, []),
  (47, .ireturn, 1, 0, 0, .null, [])]
/-- RailPassesModel.wish(II)I -/
def rp_k191 : List rp_En := [(0, .aload_n 0, 1, 0, 0, .null, []),
  (1, .iload_n 1, 1, 1, 0, .null, []),
  (2, .invokevirtual 76, 3, 151, 2, .null, []),
  (5, .ifCond .eq 10, 3, 15, 0, .null, []),
  (8, .iload_n 2, 1, 2, 0, .null, []),
  (9, .invokestatic 147, 3, 170, 1, .null, []),
  (12, .ifCond .ne 5, 3, 17, 0, .null, []),
  (15, .iconst (-1), 1, 0, 0, .int (-1), []),
  (16, .ireturn, 1, 0, 0, .null, []),
  (17, .aload_n 0, 1, 0, 0, .null, []),
  (18, .getfield 7, 3, 8, 0, .null, []),
  (21, .iconst 4, 1, 0, 0, .int 4, []),
  (22, .iaload, 1, 0, 0, .null, []),
  (23, .bipush 10, 2, 0, 0, .int 10, []),
  (25, .if_icmp .ne 6, 3, 31, 0, .null, []),
  (28, .bipush (-2), 2, 0, 0, .int (-2), []),
  (30, .ireturn, 1, 0, 0, .null, []),
  (31, .aload_n 0, 1, 0, 0, .null, []),
  (32, .getfield 28, 3, 8, 6, .null, []),
  (35, .iconst 2, 1, 0, 0, .int 2, []),
  (36, .aload_n 0, 1, 0, 0, .null, []),
  (37, .getfield 7, 3, 8, 0, .null, []),
  (40, .iconst 4, 1, 0, 0, .int 4, []),
  (41, .iaload, 1, 0, 0, .null, []),
  (42, .imul, 1, 0, 0, .null, []),
  (43, .iload_n 1, 1, 1, 0, .null, []),
  (44, .iastore, 1, 0, 0, .null, []),
  (45, .aload_n 0, 1, 0, 0, .null, []),
  (46, .getfield 28, 3, 8, 6, .null, []),
  (49, .iconst 2, 1, 0, 0, .int 2, []),
  (50, .aload_n 0, 1, 0, 0, .null, []),
  (51, .getfield 7, 3, 8, 0, .null, []),
  (54, .iconst 4, 1, 0, 0, .int 4, []),
  (55, .iaload, 1, 0, 0, .null, []),
  (56, .imul, 1, 0, 0, .null, []),
  (57, .iconst 1, 1, 0, 0, .int 1, []),
  (58, .iadd, 1, 0, 0, .null, []),
  (59, .iload_n 2, 1, 2, 0, .null, []),
  (60, .iastore, 1, 0, 0, .null, []),
  (61, .aload_n 0, 1, 0, 0, .null, []),
  (62, .getfield 7, 3, 8, 0, .null, []),
  (65, .iconst 4, 1, 0, 0, .int 4, []),
  (66, .dup2, 1, 0, 0, .null, []),
  (67, .iaload, 1, 0, 0, .null, []),
  (68, .iconst 1, 1, 0, 0, .int 1, []),
  (69, .iadd, 1, 0, 0, .null, []),
  (70, .iastore, 1, 0, 0, .null, []),
  (71, .aload_n 0, 1, 0, 0, .null, []),
  (72, .getfield 7, 3, 8, 0, .null, []),
  (75, .iconst 4, 1, 0, 0, .int 4, []),
  (76, .iaload, 1, 0, 0, .null, []),
  (77, .ireturn, 1, 0, 0, .null, [])]
/-- RailPassesModel.unwish()I -/
def rp_k192 : List rp_En := [(0, .aload_n 0, 1, 0, 0, .null, []),
  (1, .getfield 7, 3, 8, 0, .null, []),
  (4, .iconst 4, 1, 0, 0, .int 4, []),
  (5, .iaload, 1, 0, 0, .null, []),
  (6, .ifCond .ne 6, 3, 12, 0, .null, []),
  (9, .bipush (-3), 2, 0, 0, .int (-3), []),
  (11, .ireturn, 1, 0, 0, .null, []),
  (12, .aload_n 0, 1, 0, 0, .null, []),
  (13, .getfield 7, 3, 8, 0, .null, []),
  (16, .iconst 4, 1, 0, 0, .int 4, []),
  (17, .dup2, 1, 0, 0, .null, []),
  (18, .iaload, 1, 0, 0, .null, []),
  (19, .iconst 1, 1, 0, 0, .int 1, []),
  (20, .isub, 1, 0, 0, .null, []),
  (21, .iastore, 1, 0, 0, .null, []),
  (22, .aload_n 0, 1, 0, 0, .null, []),
  (23, .getfield 7, 3, 8, 0, .null, []),
  (26, .iconst 4, 1, 0, 0, .int 4, []),
  (27, .iaload, 1, 0, 0, .null, []),
  (28, .ireturn, 1, 0, 0, .null, [])]
/-- RailPassesModel.least(II)I -/
def rp_k193 : List rp_En := [(0, .iload_n 1, 1, 1, 0, .null, []),
  (1, .invokestatic 138, 3, 156, 1, .null, []),
  (4, .ifCond .eq 10, 3, 14, 0, .null, []),
  (7, .iload_n 2, 1, 2, 0, .null, []),
  (8, .invokestatic 147, 3, 170, 1, .null, []),
  (11, .ifCond .ne 5, 3, 16, 0, .null, []),
  (14, .iconst (-1), 1, 0, 0, .int (-1), []),
  (15, .ireturn, 1, 0, 0, .null, []),
  (16, .aload_n 0, 1, 0, 0, .null, []),
  (17, .iload_n 1, 1, 1, 0, .null, []),
  (18, .invokevirtual 144, 3, 168, 2, .null, []),
  (21, .ifCond .eq 12, 3, 33, 0, .null, []),
  (24, .aload_n 0, 1, 0, 0, .null, []),
  (25, .iload_n 1, 1, 1, 0, .null, []),
  (26, .iload_n 2, 1, 2, 0, .null, []),
  (27, .invokevirtual 215, 3, 194, 3, .null, []),
  (30, .goto 5, 3, 35, 0, .null, []),
  (33, .bipush (-3), 2, 0, 0, .int (-3), []),
  (35, .ireturn, 1, 0, 0, .null, [])]
/-- RailPassesModel.leastOf(II)I -/
def rp_k194 : List rp_En := [(0, .aload_n 0, 1, 0, 0, .null, []),
  (1, .iload_n 1, 1, 1, 0, .null, []),
  (2, .iload_n 2, 1, 2, 0, .null, []),
  (3, .invokevirtual 208, 3, 195, 3, .null, []),
  (6, .aload_n 0, 1, 0, 0, .null, []),
  (7, .getfield 19, 3, 8, 3, .null, []),
  (10, .bipush 12, 2, 0, 0, .int 12, []),
  (12, .iload_n 1, 1, 1, 0, .null, []),
  (13, .imul, 1, 0, 0, .null, []),
  (14, .iconst 2, 1, 0, 0, .int 2, []),
  (15, .iadd, 1, 0, 0, .null, []),
  (16, .iaload, 1, 0, 0, .null, []),
  (17, .aload_n 0, 1, 0, 0, .null, []),
  (18, .invokevirtual 211, 3, 198, 1, .null, []),
  (21, .iadd, 1, 0, 0, .null, []),
  (22, .aload_n 0, 1, 0, 0, .null, []),
  (23, .getfield 202, 3, 8, 20, .null, []),
  (26, .isub, 1, 0, 0, .null, []),
  (27, .ireturn, 1, 0, 0, .null, [])]
/-- RailPassesModel.takes(II)V -/
def rp_k195 : List rp_En := [(0, .iconst 0, 1, 0, 0, .int 0, []),
  (1, .istore_n 3, 1, 3, 0, .null, []),
  (2, .iload_n 3, 1, 3, 0, .null, []),
  (3, .bipush 122, 2, 0, 0, .int 122, []),
  (5, .if_icmp .ge 30, 3, 35, 0, .null, []),
  (8, .aload_n 0, 1, 0, 0, .null, []),
  (9, .getfield 37, 3, 8, 16, .null, []),
  (12, .iload_n 3, 1, 3, 0, .null, []),
  (13, .iconst 0, 1, 0, 0, .int 0, []),
  (14, .iastore, 1, 0, 0, .null, []),
  (15, .aload_n 0, 1, 0, 0, .null, []),
  (16, .getfield 40, 3, 8, 17, .null, []),
  (19, .iload_n 3, 1, 3, 0, .null, []),
  (20, .iconst 0, 1, 0, 0, .int 0, []),
  (21, .iastore, 1, 0, 0, .null, []),
  (22, .aload_n 0, 1, 0, 0, .null, []),
  (23, .getfield 43, 3, 8, 18, .null, []),
  (26, .iload_n 3, 1, 3, 0, .null, []),
  (27, .iconst 0, 1, 0, 0, .int 0, []),
  (28, .bastore, 1, 0, 0, .null, []),
  (29, .iinc 3 1, 3, 3, 0, .int 1, []),
  (32, .goto (-30), 3, 2, 0, .null, []),
  (35, .iconst 0, 1, 0, 0, .int 0, []),
  (36, .istore_n 3, 1, 3, 0, .null, []),
  (37, .iload_n 3, 1, 3, 0, .null, []),
  (38, .aload_n 0, 1, 0, 0, .null, []),
  (39, .getfield 7, 3, 8, 0, .null, []),
  (42, .iconst 4, 1, 0, 0, .int 4, []),
  (43, .iaload, 1, 0, 0, .null, []),
  (44, .if_icmp .ge 66, 3, 110, 0, .null, []),
  (47, .aload_n 0, 1, 0, 0, .null, []),
  (48, .iload_n 3, 1, 3, 0, .null, []),
  (49, .iload_n 1, 1, 1, 0, .null, []),
  (50, .invokevirtual 193, 3, 196, 3, .null, []),
  (53, .istore 4, 2, 4, 0, .null, []),
  (55, .aload_n 0, 1, 0, 0, .null, []),
  (56, .iload_n 3, 1, 3, 0, .null, []),
  (57, .iload_n 1, 1, 1, 0, .null, []),
  (58, .invokevirtual 196, 3, 197, 3, .null, []),
  (61, .istore 5, 2, 5, 0, .null, []),
  (63, .aload_n 0, 1, 0, 0, .null, []),
  (64, .getfield 37, 3, 8, 16, .null, []),
  (67, .iload 5, 2, 5, 0, .null, []),
  (69, .dup2, 1, 0, 0, .null, []),
  (70, .iaload, 1, 0, 0, .null, []),
  (71, .iload 4, 2, 4, 0, .null, []),
  (73, .ifCond .le 8, 3, 81, 0, .null, []),
  (76, .iload 4, 2, 4, 0, .null, []),
  (78, .goto 4, 3, 82, 0, .null, []),
  (81, .iconst 0, 1, 0, 0, .int 0, []),
  (82, .iadd, 1, 0, 0, .null, []),
  (83, .iastore, 1, 0, 0, .null, []),
  (84, .aload_n 0, 1, 0, 0, .null, []),
  (85, .getfield 40, 3, 8, 17, .null, []),
  (88, .iload 5, 2, 5, 0, .null, []),
  (90, .dup2, 1, 0, 0, .null, []),
  (91, .iaload, 1, 0, 0, .null, []),
  (92, .iload 4, 2, 4, 0, .null, []),
  (94, .ifCond .le 7, 3, 101, 0, .null, []),
  (97, .iconst 1, 1, 0, 0, .int 1, []),
  (98, .goto 4, 3, 102, 0, .null, []),
  (101, .iconst 0, 1, 0, 0, .int 0, []),
  (102, .iadd, 1, 0, 0, .null, []),
  (103, .iastore, 1, 0, 0, .null, []),
  (104, .iinc 3 1, 3, 3, 0, .int 1, []),
  (107, .goto (-70), 3, 37, 0, .null, []),
  (110, .aload_n 0, 1, 0, 0, .null, []),
  (111, .iconst 0, 1, 0, 0, .int 0, []),
  (112, .putfield 199, 3, 8, 19, .null, []),
  (115, .aload_n 0, 1, 0, 0, .null, []),
  (116, .iconst 0, 1, 0, 0, .int 0, []),
  (117, .putfield 202, 3, 8, 20, .null, []),
  (120, .aload_n 0, 1, 0, 0, .null, []),
  (121, .iconst 0, 1, 0, 0, .int 0, []),
  (122, .putfield 205, 3, 8, 21, .null, []),
  (125, .iload_n 2, 1, 2, 0, .null, []),
  (126, .aload_n 0, 1, 0, 0, .null, []),
  (127, .getfield 19, 3, 8, 3, .null, []),
  (130, .bipush 12, 2, 0, 0, .int 12, []),
  (132, .iload_n 1, 1, 1, 0, .null, []),
  (133, .imul, 1, 0, 0, .null, []),
  (134, .iconst 1, 1, 0, 0, .int 1, []),
  (135, .iadd, 1, 0, 0, .null, []),
  (136, .iaload, 1, 0, 0, .null, []),
  (137, .iadd, 1, 0, 0, .null, []),
  (138, .iconst 1, 1, 0, 0, .int 1, []),
  (139, .isub, 1, 0, 0, .null, []),
  (140, .istore_n 3, 1, 3, 0, .null, []),
  (141, .iconst 1, 1, 0, 0, .int 1, []),
  (142, .istore 4, 2, 4, 0, .null, []),
  (144, .iload 4, 2, 4, 0, .null, []),
  (146, .ifCond .eq 167, 3, 313, 0, .null, []),
  (149, .aload_n 0, 1, 0, 0, .null, []),
  (150, .getfield 199, 3, 8, 19, .null, []),
  (153, .aload_n 0, 1, 0, 0, .null, []),
  (154, .getfield 19, 3, 8, 3, .null, []),
  (157, .bipush 12, 2, 0, 0, .int 12, []),
  (159, .iload_n 1, 1, 1, 0, .null, []),
  (160, .imul, 1, 0, 0, .null, []),
  (161, .iconst 0, 1, 0, 0, .int 0, []),
  (162, .iadd, 1, 0, 0, .null, []),
  (163, .iaload, 1, 0, 0, .null, []),
  (164, .if_icmp .ge 149, 3, 313, 0, .null, []),
  (167, .iconst (-1), 1, 0, 0, .int (-1), []),
  (168, .istore 5, 2, 5, 0, .null, []),
  (170, .iload_n 2, 1, 2, 0, .null, []),
  (171, .istore 6, 2, 6, 0, .null, []),
  (173, .iload 6, 2, 6, 0, .null, []),
  (175, .iload_n 3, 1, 3, 0, .null, []),
  (176, .if_icmp .gt 67, 3, 243, 0, .null, []),
  (179, .iload 6, 2, 6, 0, .null, []),
  (181, .bipush 122, 2, 0, 0, .int 122, []),
  (183, .if_icmp .ge 60, 3, 243, 0, .null, []),
  (186, .aload_n 0, 1, 0, 0, .null, []),
  (187, .getfield 43, 3, 8, 18, .null, []),
  (190, .iload 6, 2, 6, 0, .null, []),
  (192, .baload, 1, 0, 0, .null, []),
  (193, .ifCond .ne 40, 3, 233, 0, .null, []),
  (196, .aload_n 0, 1, 0, 0, .null, []),
  (197, .getfield 37, 3, 8, 16, .null, []),
  (200, .iload 6, 2, 6, 0, .null, []),
  (202, .iaload, 1, 0, 0, .null, []),
  (203, .ifCond .le 30, 3, 233, 0, .null, []),
  (206, .iload 5, 2, 5, 0, .null, []),
  (208, .ifCond .lt 20, 3, 228, 0, .null, []),
  (211, .aload_n 0, 1, 0, 0, .null, []),
  (212, .getfield 37, 3, 8, 16, .null, []),
  (215, .iload 6, 2, 6, 0, .null, []),
  (217, .iaload, 1, 0, 0, .null, []),
  (218, .aload_n 0, 1, 0, 0, .null, []),
  (219, .getfield 37, 3, 8, 16, .null, []),
  (222, .iload 5, 2, 5, 0, .null, []),
  (224, .iaload, 1, 0, 0, .null, []),
  (225, .if_icmp .le 8, 3, 233, 0, .null, []),
  (228, .iload 6, 2, 6, 0, .null, []),
  (230, .goto 5, 3, 235, 0, .null, []),
  (233, .iload 5, 2, 5, 0, .null, []),
  (235, .istore 5, 2, 5, 0, .null, []),
  (237, .iinc 6 1, 3, 6, 0, .int 1, []),
  (240, .goto (-67), 3, 173, 0, .null, []),
  (243, .iload 5, 2, 5, 0, .null, []),
  (245, .ifCond .lt 7, 3, 252, 0, .null, []),
  (248, .iconst 1, 1, 0, 0, .int 1, []),
  (249, .goto 4, 3, 253, 0, .null, []),
  (252, .iconst 0, 1, 0, 0, .int 0, []),
  (253, .istore 4, 2, 4, 0, .null, []),
  (255, .iload 4, 2, 4, 0, .null, []),
  (257, .ifCond .eq 53, 3, 310, 0, .null, []),
  (260, .aload_n 0, 1, 0, 0, .null, []),
  (261, .getfield 43, 3, 8, 18, .null, []),
  (264, .iload 5, 2, 5, 0, .null, []),
  (266, .iconst 1, 1, 0, 0, .int 1, []),
  (267, .bastore, 1, 0, 0, .null, []),
  (268, .aload_n 0, 1, 0, 0, .null, []),
  (269, .dup, 1, 0, 0, .null, []),
  (270, .getfield 199, 3, 8, 19, .null, []),
  (273, .iconst 1, 1, 0, 0, .int 1, []),
  (274, .iadd, 1, 0, 0, .null, []),
  (275, .putfield 199, 3, 8, 19, .null, []),
  (278, .aload_n 0, 1, 0, 0, .null, []),
  (279, .dup, 1, 0, 0, .null, []),
  (280, .getfield 202, 3, 8, 20, .null, []),
  (283, .aload_n 0, 1, 0, 0, .null, []),
  (284, .getfield 37, 3, 8, 16, .null, []),
  (287, .iload 5, 2, 5, 0, .null, []),
  (289, .iaload, 1, 0, 0, .null, []),
  (290, .iadd, 1, 0, 0, .null, []),
  (291, .putfield 202, 3, 8, 20, .null, []),
  (294, .aload_n 0, 1, 0, 0, .null, []),
  (295, .dup, 1, 0, 0, .null, []),
  (296, .getfield 205, 3, 8, 21, .null, []),
  (299, .aload_n 0, 1, 0, 0, .null, []),
  (300, .getfield 40, 3, 8, 17, .null, []),
  (303, .iload 5, 2, 5, 0, .null, []),
  (305, .iaload, 1, 0, 0, .null, []),
  (306, .iadd, 1, 0, 0, .null, []),
  (307, .putfield 205, 3, 8, 21, .null, []),
  (310, .goto (-166), 3, 144, 0, .null, []),
  (313, .return_, 1, 0, 0, .null, [])]
/-- RailPassesModel.gainOf(II)I -/
def rp_k196 : List rp_En := [(0, .aload_n 0, 1, 0, 0, .null, []),
  (1, .getfield 28, 3, 8, 6, .null, []),
  (4, .iconst 2, 1, 0, 0, .int 2, []),
  (5, .iload_n 1, 1, 1, 0, .null, []),
  (6, .imul, 1, 0, 0, .null, []),
  (7, .iaload, 1, 0, 0, .null, []),
  (8, .istore_n 3, 1, 3, 0, .null, []),
  (9, .aload_n 0, 1, 0, 0, .null, []),
  (10, .aload_n 0, 1, 0, 0, .null, []),
  (11, .getfield 19, 3, 8, 3, .null, []),
  (14, .bipush 12, 2, 0, 0, .int 12, []),
  (16, .iload_n 2, 1, 2, 0, .null, []),
  (17, .imul, 1, 0, 0, .null, []),
  (18, .iload_n 3, 1, 3, 0, .null, []),
  (19, .invokevirtual 164, 3, 175, 4, .null, []),
  (22, .ifCond .eq 32, 3, 54, 0, .null, []),
  (25, .aload_n 0, 1, 0, 0, .null, []),
  (26, .getfield 16, 3, 8, 2, .null, []),
  (29, .bipush 8, 2, 0, 0, .int 8, []),
  (31, .iload_n 3, 1, 3, 0, .null, []),
  (32, .imul, 1, 0, 0, .null, []),
  (33, .bipush 6, 2, 0, 0, .int 6, []),
  (35, .iadd, 1, 0, 0, .null, []),
  (36, .iaload, 1, 0, 0, .null, []),
  (37, .aload_n 0, 1, 0, 0, .null, []),
  (38, .aload_n 0, 1, 0, 0, .null, []),
  (39, .getfield 19, 3, 8, 3, .null, []),
  (42, .bipush 12, 2, 0, 0, .int 12, []),
  (44, .iload_n 2, 1, 2, 0, .null, []),
  (45, .imul, 1, 0, 0, .null, []),
  (46, .iload_n 3, 1, 3, 0, .null, []),
  (47, .invokevirtual 183, 3, 183, 4, .null, []),
  (50, .isub, 1, 0, 0, .null, []),
  (51, .goto 4, 3, 55, 0, .null, []),
  (54, .iconst 0, 1, 0, 0, .int 0, []),
  (55, .ireturn, 1, 0, 0, .null, [])]
/-- RailPassesModel.countedWish(II)I -/
def rp_k197 : List rp_En := [(0, .aload_n 0, 1, 0, 0, .null, []),
  (1, .aload_n 0, 1, 0, 0, .null, []),
  (2, .getfield 28, 3, 8, 6, .null, []),
  (5, .iconst 2, 1, 0, 0, .int 2, []),
  (6, .iload_n 1, 1, 1, 0, .null, []),
  (7, .imul, 1, 0, 0, .null, []),
  (8, .iaload, 1, 0, 0, .null, []),
  (9, .aload_n 0, 1, 0, 0, .null, []),
  (10, .getfield 28, 3, 8, 6, .null, []),
  (13, .iconst 2, 1, 0, 0, .int 2, []),
  (14, .iload_n 1, 1, 1, 0, .null, []),
  (15, .imul, 1, 0, 0, .null, []),
  (16, .iconst 1, 1, 0, 0, .int 1, []),
  (17, .iadd, 1, 0, 0, .null, []),
  (18, .iaload, 1, 0, 0, .null, []),
  (19, .aload_n 0, 1, 0, 0, .null, []),
  (20, .getfield 19, 3, 8, 3, .null, []),
  (23, .bipush 12, 2, 0, 0, .int 12, []),
  (25, .iload_n 2, 1, 2, 0, .null, []),
  (26, .imul, 1, 0, 0, .null, []),
  (27, .iconst 5, 1, 0, 0, .int 5, []),
  (28, .iadd, 1, 0, 0, .null, []),
  (29, .iaload, 1, 0, 0, .null, []),
  (30, .invokevirtual 154, 3, 177, 4, .null, []),
  (33, .ireturn, 1, 0, 0, .null, [])]
/-- RailPassesModel.fares()I -/
def rp_k198 : List rp_En := [(0, .iconst 0, 1, 0, 0, .int 0, []),
  (1, .istore_n 1, 1, 1, 0, .null, []),
  (2, .iconst 0, 1, 0, 0, .int 0, []),
  (3, .istore_n 2, 1, 2, 0, .null, []),
  (4, .iload_n 2, 1, 2, 0, .null, []),
  (5, .aload_n 0, 1, 0, 0, .null, []),
  (6, .getfield 7, 3, 8, 0, .null, []),
  (9, .iconst 4, 1, 0, 0, .int 4, []),
  (10, .iaload, 1, 0, 0, .null, []),
  (11, .if_icmp .ge 31, 3, 42, 0, .null, []),
  (14, .iload_n 1, 1, 1, 0, .null, []),
  (15, .aload_n 0, 1, 0, 0, .null, []),
  (16, .getfield 16, 3, 8, 2, .null, []),
  (19, .bipush 8, 2, 0, 0, .int 8, []),
  (21, .aload_n 0, 1, 0, 0, .null, []),
  (22, .getfield 28, 3, 8, 6, .null, []),
  (25, .iconst 2, 1, 0, 0, .int 2, []),
  (26, .iload_n 2, 1, 2, 0, .null, []),
  (27, .imul, 1, 0, 0, .null, []),
  (28, .iaload, 1, 0, 0, .null, []),
  (29, .imul, 1, 0, 0, .null, []),
  (30, .bipush 6, 2, 0, 0, .int 6, []),
  (32, .iadd, 1, 0, 0, .null, []),
  (33, .iaload, 1, 0, 0, .null, []),
  (34, .iadd, 1, 0, 0, .null, []),
  (35, .istore_n 1, 1, 1, 0, .null, []),
  (36, .iinc 2 1, 3, 2, 0, .int 1, []),
  (39, .goto (-35), 3, 4, 0, .null, []),
  (42, .iload_n 1, 1, 1, 0, .null, []),
  (43, .ireturn, 1, 0, 0, .null, [])]
/-- RailPassesModel.choice(I)I -/
def rp_k199 : List rp_En := [(0, .iload_n 1, 1, 1, 0, .null, []),
  (1, .iconst 0, 1, 0, 0, .int 0, []),
  (2, .bipush 14, 2, 0, 0, .int 14, []),
  (4, .invokestatic 68, 3, 148, 3, .null, []),
  (7, .ifCond .ne 5, 3, 12, 0, .null, []),
  (10, .iconst (-1), 1, 0, 0, .int (-1), []),
  (11, .ireturn, 1, 0, 0, .null, []),
  (12, .aload_n 0, 1, 0, 0, .null, []),
  (13, .invokevirtual 211, 3, 198, 1, .null, []),
  (16, .istore_n 2, 1, 2, 0, .null, []),
  (17, .iconst (-1), 1, 0, 0, .int (-1), []),
  (18, .istore_n 3, 1, 3, 0, .null, []),
  (19, .iconst (-1), 1, 0, 0, .int (-1), []),
  (20, .istore 4, 2, 4, 0, .null, []),
  (22, .iconst 0, 1, 0, 0, .int 0, []),
  (23, .istore 5, 2, 5, 0, .null, []),
  (25, .iload 5, 2, 5, 0, .null, []),
  (27, .iconst 3, 1, 0, 0, .int 3, []),
  (28, .if_icmp .ge 60, 3, 88, 0, .null, []),
  (31, .iconst 0, 1, 0, 0, .int 0, []),
  (32, .istore 6, 2, 6, 0, .null, []),
  (34, .iload 6, 2, 6, 0, .null, []),
  (36, .bipush 120, 2, 0, 0, .int 120, []),
  (38, .if_icmp .gt 44, 3, 82, 0, .null, []),
  (41, .aload_n 0, 1, 0, 0, .null, []),
  (42, .iload 5, 2, 5, 0, .null, []),
  (44, .invokevirtual 144, 3, 168, 2, .null, []),
  (47, .ifCond .eq 35, 3, 82, 0, .null, []),
  (50, .aload_n 0, 1, 0, 0, .null, []),
  (51, .iload 5, 2, 5, 0, .null, []),
  (53, .iload 6, 2, 6, 0, .null, []),
  (55, .invokevirtual 215, 3, 194, 3, .null, []),
  (58, .istore 7, 2, 7, 0, .null, []),
  (60, .iload 7, 2, 7, 0, .null, []),
  (62, .iload_n 2, 1, 2, 0, .null, []),
  (63, .if_icmp .ge 13, 3, 76, 0, .null, []),
  (66, .iload 7, 2, 7, 0, .null, []),
  (68, .istore_n 2, 1, 2, 0, .null, []),
  (69, .iload 5, 2, 5, 0, .null, []),
  (71, .istore_n 3, 1, 3, 0, .null, []),
  (72, .iload 6, 2, 6, 0, .null, []),
  (74, .istore 4, 2, 4, 0, .null, []),
  (76, .iinc 6 1, 3, 6, 0, .int 1, []),
  (79, .goto (-45), 3, 34, 0, .null, []),
  (82, .iinc 5 1, 3, 5, 0, .int 1, []),
  (85, .goto (-60), 3, 25, 0, .null, []),
  (88, .iload_n 1, 1, 1, 0, .null, []),
  (89, .ifCond .ne 5, 3, 94, 0, .null, []),
  (92, .iload_n 2, 1, 2, 0, .null, []),
  (93, .ireturn, 1, 0, 0, .null, []),
  (94, .iload_n 3, 1, 3, 0, .null, []),
  (95, .ifCond .ge 20, 3, 115, 0, .null, []),
  (98, .iload_n 1, 1, 1, 0, .null, []),
  (99, .iconst 3, 1, 0, 0, .int 3, []),
  (100, .if_icmp .eq 8, 3, 108, 0, .null, []),
  (103, .iload_n 1, 1, 1, 0, .null, []),
  (104, .iconst 4, 1, 0, 0, .int 4, []),
  (105, .if_icmp .ne 7, 3, 112, 0, .null, []),
  (108, .iconst 0, 1, 0, 0, .int 0, []),
  (109, .goto 5, 3, 114, 0, .null, []),
  (112, .bipush (-3), 2, 0, 0, .int (-3), []),
  (114, .ireturn, 1, 0, 0, .null, []),
  (115, .aload_n 0, 1, 0, 0, .null, []),
  (116, .iload_n 3, 1, 3, 0, .null, []),
  (117, .iload 4, 2, 4, 0, .null, []),
  (119, .invokevirtual 208, 3, 195, 3, .null, []),
  (122, .iload_n 1, 1, 1, 0, .null, []),
  (123, .tableswitch 44 1 4 #[29, 31, 34, 39], 29, 167, 0, .null, [(1, 152), (2, 154), (3, 157), (4, 162)]),
  (152, .iload_n 3, 1, 3, 0, .null, []),
  (153, .ireturn, 1, 0, 0, .null, []),
  (154, .iload 4, 2, 4, 0, .null, []),
  (156, .ireturn, 1, 0, 0, .null, []),
  (157, .aload_n 0, 1, 0, 0, .null, []),
  (158, .getfield 199, 3, 8, 19, .null, []),
  (161, .ireturn, 1, 0, 0, .null, []),
  (162, .aload_n 0, 1, 0, 0, .null, []),
  (163, .getfield 205, 3, 8, 21, .null, []),
  (166, .ireturn, 1, 0, 0, .null, []),
  (167, .aload_n 0, 1, 0, 0, .null, []),
  (168, .iload_n 1, 1, 1, 0, .null, []),
  (169, .iconst 5, 1, 0, 0, .int 5, []),
  (170, .isub, 1, 0, 0, .null, []),
  (171, .invokevirtual 218, 3, 200, 2, .null, []),
  (174, .ireturn, 1, 0, 0, .null, [])]
/-- RailPassesModel.takenAt(I)I -/
def rp_k200 : List rp_En := [(0, .iload_n 1, 1, 1, 0, .null, []),
  (1, .istore_n 2, 1, 2, 0, .null, []),
  (2, .iconst 0, 1, 0, 0, .int 0, []),
  (3, .istore_n 3, 1, 3, 0, .null, []),
  (4, .iload_n 3, 1, 3, 0, .null, []),
  (5, .bipush 122, 2, 0, 0, .int 122, []),
  (7, .if_icmp .ge 27, 3, 34, 0, .null, []),
  (10, .aload_n 0, 1, 0, 0, .null, []),
  (11, .getfield 43, 3, 8, 18, .null, []),
  (14, .iload_n 3, 1, 3, 0, .null, []),
  (15, .baload, 1, 0, 0, .null, []),
  (16, .ifCond .eq 12, 3, 28, 0, .null, []),
  (19, .iload_n 2, 1, 2, 0, .null, []),
  (20, .ifCond .ne 5, 3, 25, 0, .null, []),
  (23, .iload_n 3, 1, 3, 0, .null, []),
  (24, .ireturn, 1, 0, 0, .null, []),
  (25, .iinc 2 (-1), 3, 2, 0, .int (-1), []),
  (28, .iinc 3 1, 3, 3, 0, .int 1, []),
  (31, .goto (-27), 3, 4, 0, .null, []),
  (34, .bipush (-3), 2, 0, 0, .int (-3), []),
  (36, .ireturn, 1, 0, 0, .null, [])]
/-- RailPassesModel.prove()I -/
def rp_k201 : List rp_En := [(0, .aload_n 0, 1, 0, 0, .null, []),
  (1, .invokevirtual 228, 3, 202, 1, .null, []),
  (4, .aload_n 0, 1, 0, 0, .null, []),
  (5, .getfield 221, 3, 8, 23, .null, []),
  (8, .sipush 200, 3, 0, 0, .int 200, []),
  (11, .if_icmp .le 6, 3, 17, 0, .null, []),
  (14, .bipush (-2), 2, 0, 0, .int (-2), []),
  (16, .ireturn, 1, 0, 0, .null, []),
  (17, .aload_n 0, 1, 0, 0, .null, []),
  (18, .aload_n 0, 1, 0, 0, .null, []),
  (19, .getfield 221, 3, 8, 23, .null, []),
  (22, .putfield 231, 3, 8, 25, .null, []),
  (25, .iconst 0, 1, 0, 0, .int 0, []),
  (26, .istore_n 1, 1, 1, 0, .null, []),
  (27, .iload_n 1, 1, 1, 0, .null, []),
  (28, .iconst 3, 1, 0, 0, .int 3, []),
  (29, .aload_n 0, 1, 0, 0, .null, []),
  (30, .getfield 221, 3, 8, 23, .null, []),
  (33, .imul, 1, 0, 0, .null, []),
  (34, .if_icmp .ge 21, 3, 55, 0, .null, []),
  (37, .aload_n 0, 1, 0, 0, .null, []),
  (38, .getfield 50, 3, 8, 24, .null, []),
  (41, .iload_n 1, 1, 1, 0, .null, []),
  (42, .aload_n 0, 1, 0, 0, .null, []),
  (43, .getfield 47, 3, 8, 22, .null, []),
  (46, .iload_n 1, 1, 1, 0, .null, []),
  (47, .iaload, 1, 0, 0, .null, []),
  (48, .iastore, 1, 0, 0, .null, []),
  (49, .iinc 1 1, 3, 1, 0, .int 1, []),
  (52, .goto (-25), 3, 27, 0, .null, []),
  (55, .aload_n 0, 1, 0, 0, .null, []),
  (56, .getfield 231, 3, 8, 25, .null, []),
  (59, .ireturn, 1, 0, 0, .null, [])]
/-- RailPassesModel.findDue()V -/
def rp_k202 : List rp_En := [(0, .aload_n 0, 1, 0, 0, .null, []),
  (1, .iconst 0, 1, 0, 0, .int 0, []),
  (2, .putfield 221, 3, 8, 23, .null, []),
  (5, .iconst 0, 1, 0, 0, .int 0, []),
  (6, .istore_n 1, 1, 1, 0, .null, []),
  (7, .iload_n 1, 1, 1, 0, .null, []),
  (8, .iconst 3, 1, 0, 0, .int 3, []),
  (9, .if_icmp .ge 95, 3, 104, 0, .null, []),
  (12, .iconst 0, 1, 0, 0, .int 0, []),
  (13, .istore_n 2, 1, 2, 0, .null, []),
  (14, .iload_n 2, 1, 2, 0, .null, []),
  (15, .bipush 120, 2, 0, 0, .int 120, []),
  (17, .if_icmp .gt 81, 3, 98, 0, .null, []),
  (20, .aload_n 0, 1, 0, 0, .null, []),
  (21, .iload_n 1, 1, 1, 0, .null, []),
  (22, .invokevirtual 144, 3, 168, 2, .null, []),
  (25, .ifCond .eq 73, 3, 98, 0, .null, []),
  (28, .aload_n 0, 1, 0, 0, .null, []),
  (29, .iload_n 1, 1, 1, 0, .null, []),
  (30, .iload_n 2, 1, 2, 0, .null, []),
  (31, .invokevirtual 224, 3, 203, 3, .null, []),
  (34, .ifCond .eq 58, 3, 92, 0, .null, []),
  (37, .aload_n 0, 1, 0, 0, .null, []),
  (38, .getfield 47, 3, 8, 22, .null, []),
  (41, .iconst 3, 1, 0, 0, .int 3, []),
  (42, .aload_n 0, 1, 0, 0, .null, []),
  (43, .getfield 221, 3, 8, 23, .null, []),
  (46, .imul, 1, 0, 0, .null, []),
  (47, .iload_n 1, 1, 1, 0, .null, []),
  (48, .iastore, 1, 0, 0, .null, []),
  (49, .aload_n 0, 1, 0, 0, .null, []),
  (50, .getfield 47, 3, 8, 22, .null, []),
  (53, .iconst 3, 1, 0, 0, .int 3, []),
  (54, .aload_n 0, 1, 0, 0, .null, []),
  (55, .getfield 221, 3, 8, 23, .null, []),
  (58, .imul, 1, 0, 0, .null, []),
  (59, .iconst 1, 1, 0, 0, .int 1, []),
  (60, .iadd, 1, 0, 0, .null, []),
  (61, .iload_n 2, 1, 2, 0, .null, []),
  (62, .iastore, 1, 0, 0, .null, []),
  (63, .aload_n 0, 1, 0, 0, .null, []),
  (64, .getfield 47, 3, 8, 22, .null, []),
  (67, .iconst 3, 1, 0, 0, .int 3, []),
  (68, .aload_n 0, 1, 0, 0, .null, []),
  (69, .getfield 221, 3, 8, 23, .null, []),
  (72, .imul, 1, 0, 0, .null, []),
  (73, .iconst 2, 1, 0, 0, .int 2, []),
  (74, .iadd, 1, 0, 0, .null, []),
  (75, .aload_n 0, 1, 0, 0, .null, []),
  (76, .iload_n 1, 1, 1, 0, .null, []),
  (77, .iload_n 2, 1, 2, 0, .null, []),
  (78, .invokevirtual 215, 3, 194, 3, .null, []),
  (81, .iastore, 1, 0, 0, .null, []),
  (82, .aload_n 0, 1, 0, 0, .null, []),
  (83, .dup, 1, 0, 0, .null, []),
  (84, .getfield 221, 3, 8, 23, .null, []),
  (87, .iconst 1, 1, 0, 0, .int 1, []),
  (88, .iadd, 1, 0, 0, .null, []),
  (89, .putfield 221, 3, 8, 23, .null, []),
  (92, .iinc 2 1, 3, 2, 0, .int 1, []),
  (95, .goto (-81), 3, 14, 0, .null, []),
  (98, .iinc 1 1, 3, 1, 0, .int 1, []),
  (101, .goto (-94), 3, 7, 0, .null, []),
  (104, .return_, 1, 0, 0, .null, [])]
/-- RailPassesModel.isSomeGood(II)Z -/
def rp_k203 : List rp_En := [(0, .iconst 0, 1, 0, 0, .int 0, []),
  (1, .istore_n 3, 1, 3, 0, .null, []),
  (2, .iconst 0, 1, 0, 0, .int 0, []),
  (3, .istore 4, 2, 4, 0, .null, []),
  (5, .iload 4, 2, 4, 0, .null, []),
  (7, .aload_n 0, 1, 0, 0, .null, []),
  (8, .getfield 7, 3, 8, 0, .null, []),
  (11, .iconst 4, 1, 0, 0, .int 4, []),
  (12, .iaload, 1, 0, 0, .null, []),
  (13, .if_icmp .ge 48, 3, 61, 0, .null, []),
  (16, .iload_n 3, 1, 3, 0, .null, []),
  (17, .ifCond .ne 32, 3, 49, 0, .null, []),
  (20, .aload_n 0, 1, 0, 0, .null, []),
  (21, .iload 4, 2, 4, 0, .null, []),
  (23, .iload_n 1, 1, 1, 0, .null, []),
  (24, .invokevirtual 196, 3, 197, 3, .null, []),
  (27, .iload_n 2, 1, 2, 0, .null, []),
  (28, .iload_n 2, 1, 2, 0, .null, []),
  (29, .aload_n 0, 1, 0, 0, .null, []),
  (30, .getfield 19, 3, 8, 3, .null, []),
  (33, .bipush 12, 2, 0, 0, .int 12, []),
  (35, .iload_n 1, 1, 1, 0, .null, []),
  (36, .imul, 1, 0, 0, .null, []),
  (37, .iconst 1, 1, 0, 0, .int 1, []),
  (38, .iadd, 1, 0, 0, .null, []),
  (39, .iaload, 1, 0, 0, .null, []),
  (40, .iadd, 1, 0, 0, .null, []),
  (41, .iconst 1, 1, 0, 0, .int 1, []),
  (42, .isub, 1, 0, 0, .null, []),
  (43, .invokestatic 68, 3, 148, 3, .null, []),
  (46, .ifCond .eq 7, 3, 53, 0, .null, []),
  (49, .iconst 1, 1, 0, 0, .int 1, []),
  (50, .goto 4, 3, 54, 0, .null, []),
  (53, .iconst 0, 1, 0, 0, .int 0, []),
  (54, .istore_n 3, 1, 3, 0, .null, []),
  (55, .iinc 4 1, 3, 4, 0, .int 1, []),
  (58, .goto (-53), 3, 5, 0, .null, []),
  (61, .iload_n 3, 1, 3, 0, .null, []),
  (62, .ireturn, 1, 0, 0, .null, [])]
/-- RailPassesModel.row(II)I -/
def rp_k204 : List rp_En := [(0, .iload_n 2, 1, 2, 0, .null, []),
  (1, .iconst 0, 1, 0, 0, .int 0, []),
  (2, .iconst 2, 1, 0, 0, .int 2, []),
  (3, .invokestatic 68, 3, 148, 3, .null, []),
  (6, .ifCond .ne 5, 3, 11, 0, .null, []),
  (9, .iconst (-1), 1, 0, 0, .int (-1), []),
  (10, .ireturn, 1, 0, 0, .null, []),
  (11, .iload_n 1, 1, 1, 0, .null, []),
  (12, .iconst 0, 1, 0, 0, .int 0, []),
  (13, .aload_n 0, 1, 0, 0, .null, []),
  (14, .getfield 231, 3, 8, 25, .null, []),
  (17, .iconst 1, 1, 0, 0, .int 1, []),
  (18, .isub, 1, 0, 0, .null, []),
  (19, .invokestatic 68, 3, 148, 3, .null, []),
  (22, .ifCond .eq 16, 3, 38, 0, .null, []),
  (25, .aload_n 0, 1, 0, 0, .null, []),
  (26, .getfield 50, 3, 8, 24, .null, []),
  (29, .iconst 3, 1, 0, 0, .int 3, []),
  (30, .iload_n 1, 1, 1, 0, .null, []),
  (31, .imul, 1, 0, 0, .null, []),
  (32, .iload_n 2, 1, 2, 0, .null, []),
  (33, .iadd, 1, 0, 0, .null, []),
  (34, .iaload, 1, 0, 0, .null, []),
  (35, .goto 5, 3, 40, 0, .null, []),
  (38, .bipush (-3), 2, 0, 0, .int (-3), []),
  (40, .ireturn, 1, 0, 0, .null, [])]
/-- RailPassesModel.forge(III)I -/
def rp_k205 : List rp_En := [(0, .iload_n 2, 1, 2, 0, .null, []),
  (1, .iconst 0, 1, 0, 0, .int 0, []),
  (2, .iconst 2, 1, 0, 0, .int 2, []),
  (3, .invokestatic 68, 3, 148, 3, .null, []),
  (6, .ifCond .ne 5, 3, 11, 0, .null, []),
  (9, .iconst (-1), 1, 0, 0, .int (-1), []),
  (10, .ireturn, 1, 0, 0, .null, []),
  (11, .iload_n 1, 1, 1, 0, .null, []),
  (12, .iconst 0, 1, 0, 0, .int 0, []),
  (13, .aload_n 0, 1, 0, 0, .null, []),
  (14, .getfield 231, 3, 8, 25, .null, []),
  (17, .iconst 1, 1, 0, 0, .int 1, []),
  (18, .isub, 1, 0, 0, .null, []),
  (19, .invokestatic 68, 3, 148, 3, .null, []),
  (22, .ifCond .ne 6, 3, 28, 0, .null, []),
  (25, .bipush (-3), 2, 0, 0, .int (-3), []),
  (27, .ireturn, 1, 0, 0, .null, []),
  (28, .aload_n 0, 1, 0, 0, .null, []),
  (29, .getfield 50, 3, 8, 24, .null, []),
  (32, .iconst 3, 1, 0, 0, .int 3, []),
  (33, .iload_n 1, 1, 1, 0, .null, []),
  (34, .imul, 1, 0, 0, .null, []),
  (35, .iload_n 2, 1, 2, 0, .null, []),
  (36, .iadd, 1, 0, 0, .null, []),
  (37, .iaload, 1, 0, 0, .null, []),
  (38, .istore 4, 2, 4, 0, .null, []),
  (40, .aload_n 0, 1, 0, 0, .null, []),
  (41, .getfield 50, 3, 8, 24, .null, []),
  (44, .iconst 3, 1, 0, 0, .int 3, []),
  (45, .iload_n 1, 1, 1, 0, .null, []),
  (46, .imul, 1, 0, 0, .null, []),
  (47, .iload_n 2, 1, 2, 0, .null, []),
  (48, .iadd, 1, 0, 0, .null, []),
  (49, .iload_n 3, 1, 3, 0, .null, []),
  (50, .iastore, 1, 0, 0, .null, []),
  (51, .iload 4, 2, 4, 0, .null, []),
  (53, .ireturn, 1, 0, 0, .null, [])]
/-- RailPassesModel.check()I -/
def rp_k206 : List rp_En := [(0, .aload_n 0, 1, 0, 0, .null, []),
  (1, .invokevirtual 228, 3, 202, 1, .null, []),
  (4, .aload_n 0, 1, 0, 0, .null, []),
  (5, .getfield 221, 3, 8, 23, .null, []),
  (8, .sipush 200, 3, 0, 0, .int 200, []),
  (11, .if_icmp .le 6, 3, 17, 0, .null, []),
  (14, .bipush (-2), 2, 0, 0, .int (-2), []),
  (16, .ireturn, 1, 0, 0, .null, []),
  (17, .iconst 0, 1, 0, 0, .int 0, []),
  (18, .istore_n 1, 1, 1, 0, .null, []),
  (19, .iload_n 1, 1, 1, 0, .null, []),
  (20, .iconst 3, 1, 0, 0, .int 3, []),
  (21, .aload_n 0, 1, 0, 0, .null, []),
  (22, .getfield 231, 3, 8, 25, .null, []),
  (25, .imul, 1, 0, 0, .null, []),
  (26, .if_icmp .ge 38, 3, 64, 0, .null, []),
  (29, .iload_n 1, 1, 1, 0, .null, []),
  (30, .iconst 3, 1, 0, 0, .int 3, []),
  (31, .aload_n 0, 1, 0, 0, .null, []),
  (32, .getfield 221, 3, 8, 23, .null, []),
  (35, .imul, 1, 0, 0, .null, []),
  (36, .if_icmp .ge 18, 3, 54, 0, .null, []),
  (39, .aload_n 0, 1, 0, 0, .null, []),
  (40, .getfield 50, 3, 8, 24, .null, []),
  (43, .iload_n 1, 1, 1, 0, .null, []),
  (44, .iaload, 1, 0, 0, .null, []),
  (45, .aload_n 0, 1, 0, 0, .null, []),
  (46, .getfield 47, 3, 8, 22, .null, []),
  (49, .iload_n 1, 1, 1, 0, .null, []),
  (50, .iaload, 1, 0, 0, .null, []),
  (51, .if_icmp .eq 7, 3, 58, 0, .null, []),
  (54, .iload_n 1, 1, 1, 0, .null, []),
  (55, .iconst 3, 1, 0, 0, .int 3, []),
  (56, .idiv, 1, 0, 0, .null, []),
  (57, .ireturn, 1, 0, 0, .null, []),
  (58, .iinc 1 1, 3, 1, 0, .int 1, []),
  (61, .goto (-42), 3, 19, 0, .null, []),
  (64, .aload_n 0, 1, 0, 0, .null, []),
  (65, .getfield 231, 3, 8, 25, .null, []),
  (68, .aload_n 0, 1, 0, 0, .null, []),
  (69, .getfield 221, 3, 8, 23, .null, []),
  (72, .if_icmp .ge 10, 3, 82, 0, .null, []),
  (75, .aload_n 0, 1, 0, 0, .null, []),
  (76, .getfield 231, 3, 8, 25, .null, []),
  (79, .goto 4, 3, 83, 0, .null, []),
  (82, .iconst (-1), 1, 0, 0, .int (-1), []),
  (83, .ireturn, 1, 0, 0, .null, [])]
/-- RailPassesModel.miles(II)I -/
def rp_k207 : List rp_En := [(0, .aload_n 0, 1, 0, 0, .null, []),
  (1, .iload_n 1, 1, 1, 0, .null, []),
  (2, .iload_n 2, 1, 2, 0, .null, []),
  (3, .iconst 0, 1, 0, 0, .int 0, []),
  (4, .invokevirtual 238, 3, 208, 4, .null, []),
  (7, .ireturn, 1, 0, 0, .null, [])]
/-- RailPassesModel.wayTo(IIZ)I -/
def rp_k208 : List rp_En := [(0, .iload_n 1, 1, 1, 0, .null, []),
  (1, .invokestatic 72, 3, 147, 1, .null, []),
  (4, .ifCond .eq 10, 3, 14, 0, .null, []),
  (7, .iload_n 2, 1, 2, 0, .null, []),
  (8, .invokestatic 72, 3, 147, 1, .null, []),
  (11, .ifCond .ne 5, 3, 16, 0, .null, []),
  (14, .iconst (-1), 1, 0, 0, .int (-1), []),
  (15, .ireturn, 1, 0, 0, .null, []),
  (16, .aload_n 0, 1, 0, 0, .null, []),
  (17, .iload_n 1, 1, 1, 0, .null, []),
  (18, .invokevirtual 235, 3, 209, 2, .null, []),
  (21, .aload_n 0, 1, 0, 0, .null, []),
  (22, .getfield 53, 3, 8, 26, .null, []),
  (25, .iload_n 2, 1, 2, 0, .null, []),
  (26, .iaload, 1, 0, 0, .null, []),
  (27, .ldc 234, 2, 0, 0, .int 100000000, []),
  (29, .if_icmp .lt 6, 3, 35, 0, .null, []),
  (32, .bipush (-3), 2, 0, 0, .int (-3), []),
  (34, .ireturn, 1, 0, 0, .null, []),
  (35, .iload_n 3, 1, 3, 0, .null, []),
  (36, .ifCond .eq 16, 3, 52, 0, .null, []),
  (39, .aload_n 0, 1, 0, 0, .null, []),
  (40, .getfield 53, 3, 8, 26, .null, []),
  (43, .iload_n 2, 1, 2, 0, .null, []),
  (44, .iaload, 1, 0, 0, .null, []),
  (45, .sipush 16384, 3, 0, 0, .int 16384, []),
  (48, .irem, 1, 0, 0, .null, []),
  (49, .goto 13, 3, 62, 0, .null, []),
  (52, .aload_n 0, 1, 0, 0, .null, []),
  (53, .getfield 53, 3, 8, 26, .null, []),
  (56, .iload_n 2, 1, 2, 0, .null, []),
  (57, .iaload, 1, 0, 0, .null, []),
  (58, .sipush 16384, 3, 0, 0, .int 16384, []),
  (61, .idiv, 1, 0, 0, .null, []),
  (62, .ireturn, 1, 0, 0, .null, [])]
/-- RailPassesModel.reach(I)V -/
def rp_k209 : List rp_En := [(0, .iconst 0, 1, 0, 0, .int 0, []),
  (1, .istore_n 2, 1, 2, 0, .null, []),
  (2, .iload_n 2, 1, 2, 0, .null, []),
  (3, .bipush 10, 2, 0, 0, .int 10, []),
  (5, .if_icmp .ge 26, 3, 31, 0, .null, []),
  (8, .aload_n 0, 1, 0, 0, .null, []),
  (9, .getfield 53, 3, 8, 26, .null, []),
  (12, .iload_n 2, 1, 2, 0, .null, []),
  (13, .iload_n 2, 1, 2, 0, .null, []),
  (14, .iload_n 1, 1, 1, 0, .null, []),
  (15, .if_icmp .ne 7, 3, 22, 0, .null, []),
  (18, .iconst 0, 1, 0, 0, .int 0, []),
  (19, .goto 5, 3, 24, 0, .null, []),
  (22, .ldc 234, 2, 0, 0, .int 100000000, []),
  (24, .iastore, 1, 0, 0, .null, []),
  (25, .iinc 2 1, 3, 2, 0, .int 1, []),
  (28, .goto (-26), 3, 2, 0, .null, []),
  (31, .iconst 1, 1, 0, 0, .int 1, []),
  (32, .istore_n 2, 1, 2, 0, .null, []),
  (33, .iload_n 2, 1, 2, 0, .null, []),
  (34, .ifCond .eq 146, 3, 180, 0, .null, []),
  (37, .iconst 0, 1, 0, 0, .int 0, []),
  (38, .istore_n 2, 1, 2, 0, .null, []),
  (39, .iconst 0, 1, 0, 0, .int 0, []),
  (40, .istore_n 3, 1, 3, 0, .null, []),
  (41, .iload_n 3, 1, 3, 0, .null, []),
  (42, .aload_n 0, 1, 0, 0, .null, []),
  (43, .getfield 7, 3, 8, 0, .null, []),
  (46, .iconst 0, 1, 0, 0, .int 0, []),
  (47, .iaload, 1, 0, 0, .null, []),
  (48, .if_icmp .ge 129, 3, 177, 0, .null, []),
  (51, .aload_n 0, 1, 0, 0, .null, []),
  (52, .getfield 13, 3, 8, 1, .null, []),
  (55, .iconst 5, 1, 0, 0, .int 5, []),
  (56, .iload_n 3, 1, 3, 0, .null, []),
  (57, .imul, 1, 0, 0, .null, []),
  (58, .iaload, 1, 0, 0, .null, []),
  (59, .istore 4, 2, 4, 0, .null, []),
  (61, .aload_n 0, 1, 0, 0, .null, []),
  (62, .getfield 13, 3, 8, 1, .null, []),
  (65, .iconst 5, 1, 0, 0, .int 5, []),
  (66, .iload_n 3, 1, 3, 0, .null, []),
  (67, .imul, 1, 0, 0, .null, []),
  (68, .iconst 1, 1, 0, 0, .int 1, []),
  (69, .iadd, 1, 0, 0, .null, []),
  (70, .iaload, 1, 0, 0, .null, []),
  (71, .istore 5, 2, 5, 0, .null, []),
  (73, .sipush 16384, 3, 0, 0, .int 16384, []),
  (76, .aload_n 0, 1, 0, 0, .null, []),
  (77, .getfield 13, 3, 8, 1, .null, []),
  (80, .iconst 5, 1, 0, 0, .int 5, []),
  (81, .iload_n 3, 1, 3, 0, .null, []),
  (82, .imul, 1, 0, 0, .null, []),
  (83, .iconst 3, 1, 0, 0, .int 3, []),
  (84, .iadd, 1, 0, 0, .null, []),
  (85, .iaload, 1, 0, 0, .null, []),
  (86, .imul, 1, 0, 0, .null, []),
  (87, .iconst 1, 1, 0, 0, .int 1, []),
  (88, .iload_n 3, 1, 3, 0, .null, []),
  (89, .ishl, 1, 0, 0, .null, []),
  (90, .iadd, 1, 0, 0, .null, []),
  (91, .istore 6, 2, 6, 0, .null, []),
  (93, .aload_n 0, 1, 0, 0, .null, []),
  (94, .getfield 53, 3, 8, 26, .null, []),
  (97, .iload 4, 2, 4, 0, .null, []),
  (99, .iaload, 1, 0, 0, .null, []),
  (100, .iload 6, 2, 6, 0, .null, []),
  (102, .iadd, 1, 0, 0, .null, []),
  (103, .aload_n 0, 1, 0, 0, .null, []),
  (104, .getfield 53, 3, 8, 26, .null, []),
  (107, .iload 5, 2, 5, 0, .null, []),
  (109, .iaload, 1, 0, 0, .null, []),
  (110, .if_icmp .ge 22, 3, 132, 0, .null, []),
  (113, .aload_n 0, 1, 0, 0, .null, []),
  (114, .getfield 53, 3, 8, 26, .null, []),
  (117, .iload 5, 2, 5, 0, .null, []),
  (119, .aload_n 0, 1, 0, 0, .null, []),
  (120, .getfield 53, 3, 8, 26, .null, []),
  (123, .iload 4, 2, 4, 0, .null, []),
  (125, .iaload, 1, 0, 0, .null, []),
  (126, .iload 6, 2, 6, 0, .null, []),
  (128, .iadd, 1, 0, 0, .null, []),
  (129, .iastore, 1, 0, 0, .null, []),
  (130, .iconst 1, 1, 0, 0, .int 1, []),
  (131, .istore_n 2, 1, 2, 0, .null, []),
  (132, .aload_n 0, 1, 0, 0, .null, []),
  (133, .getfield 53, 3, 8, 26, .null, []),
  (136, .iload 5, 2, 5, 0, .null, []),
  (138, .iaload, 1, 0, 0, .null, []),
  (139, .iload 6, 2, 6, 0, .null, []),
  (141, .iadd, 1, 0, 0, .null, []),
  (142, .aload_n 0, 1, 0, 0, .null, []),
  (143, .getfield 53, 3, 8, 26, .null, []),
  (146, .iload 4, 2, 4, 0, .null, []),
  (148, .iaload, 1, 0, 0, .null, []),
  (149, .if_icmp .ge 22, 3, 171, 0, .null, []),
  (152, .aload_n 0, 1, 0, 0, .null, []),
  (153, .getfield 53, 3, 8, 26, .null, []),
  (156, .iload 4, 2, 4, 0, .null, []),
  (158, .aload_n 0, 1, 0, 0, .null, []),
  (159, .getfield 53, 3, 8, 26, .null, []),
  (162, .iload 5, 2, 5, 0, .null, []),
  (164, .iaload, 1, 0, 0, .null, []),
  (165, .iload 6, 2, 6, 0, .null, []),
  (167, .iadd, 1, 0, 0, .null, []),
  (168, .iastore, 1, 0, 0, .null, []),
  (169, .iconst 1, 1, 0, 0, .int 1, []),
  (170, .istore_n 2, 1, 2, 0, .null, []),
  (171, .iinc 3 1, 3, 3, 0, .int 1, []),
  (174, .goto (-133), 3, 41, 0, .null, []),
  (177, .goto (-144), 3, 33, 0, .null, []),
  (180, .return_, 1, 0, 0, .null, [])]
/-- RailPassesModel.way(II)I -/
def rp_k210 : List rp_En := [(0, .aload_n 0, 1, 0, 0, .null, []),
  (1, .iload_n 1, 1, 1, 0, .null, []),
  (2, .iload_n 2, 1, 2, 0, .null, []),
  (3, .iconst 1, 1, 0, 0, .int 1, []),
  (4, .invokevirtual 238, 3, 208, 4, .null, []),
  (7, .ireturn, 1, 0, 0, .null, [])]
/-- RailPassesModel.scan(IIII)I -/
def rp_k211 : List rp_En := [(0, .aload_n 0, 1, 0, 0, .null, []),
  (1, .iload_n 1, 1, 1, 0, .null, []),
  (2, .invokevirtual 174, 3, 173, 2, .null, []),
  (5, .ifCond .eq 37, 3, 42, 0, .null, []),
  (8, .iload 4, 2, 4, 0, .null, []),
  (10, .invokestatic 72, 3, 147, 1, .null, []),
  (13, .ifCond .eq 29, 3, 42, 0, .null, []),
  (16, .iload_n 2, 1, 2, 0, .null, []),
  (17, .iconst 0, 1, 0, 0, .int 0, []),
  (18, .aload_n 0, 1, 0, 0, .null, []),
  (19, .getfield 7, 3, 8, 0, .null, []),
  (22, .bipush 6, 2, 0, 0, .int 6, []),
  (24, .iaload, 1, 0, 0, .null, []),
  (25, .invokestatic 68, 3, 148, 3, .null, []),
  (28, .ifCond .eq 14, 3, 42, 0, .null, []),
  (31, .iload_n 3, 1, 3, 0, .null, []),
  (32, .iconst 0, 1, 0, 0, .int 0, []),
  (33, .sipush 1439, 3, 0, 0, .int 1439, []),
  (36, .invokestatic 68, 3, 148, 3, .null, []),
  (39, .ifCond .ne 5, 3, 44, 0, .null, []),
  (42, .iconst (-1), 1, 0, 0, .int (-1), []),
  (43, .ireturn, 1, 0, 0, .null, []),
  (44, .aload_n 0, 1, 0, 0, .null, []),
  (45, .getfield 7, 3, 8, 0, .null, []),
  (48, .iconst 5, 1, 0, 0, .int 5, []),
  (49, .iaload, 1, 0, 0, .null, []),
  (50, .bipush 40, 2, 0, 0, .int 40, []),
  (52, .if_icmp .ne 6, 3, 58, 0, .null, []),
  (55, .bipush (-2), 2, 0, 0, .int (-2), []),
  (57, .ireturn, 1, 0, 0, .null, []),
  (58, .iconst 5, 1, 0, 0, .int 5, []),
  (59, .aload_n 0, 1, 0, 0, .null, []),
  (60, .getfield 7, 3, 8, 0, .null, []),
  (63, .iconst 5, 1, 0, 0, .int 5, []),
  (64, .iaload, 1, 0, 0, .null, []),
  (65, .imul, 1, 0, 0, .null, []),
  (66, .istore 5, 2, 5, 0, .null, []),
  (68, .aload_n 0, 1, 0, 0, .null, []),
  (69, .getfield 31, 3, 8, 7, .null, []),
  (72, .iload 5, 2, 5, 0, .null, []),
  (74, .iload_n 1, 1, 1, 0, .null, []),
  (75, .iastore, 1, 0, 0, .null, []),
  (76, .aload_n 0, 1, 0, 0, .null, []),
  (77, .getfield 31, 3, 8, 7, .null, []),
  (80, .iload 5, 2, 5, 0, .null, []),
  (82, .iconst 1, 1, 0, 0, .int 1, []),
  (83, .iadd, 1, 0, 0, .null, []),
  (84, .iload_n 2, 1, 2, 0, .null, []),
  (85, .iastore, 1, 0, 0, .null, []),
  (86, .aload_n 0, 1, 0, 0, .null, []),
  (87, .getfield 31, 3, 8, 7, .null, []),
  (90, .iload 5, 2, 5, 0, .null, []),
  (92, .iconst 2, 1, 0, 0, .int 2, []),
  (93, .iadd, 1, 0, 0, .null, []),
  (94, .iload_n 3, 1, 3, 0, .null, []),
  (95, .iastore, 1, 0, 0, .null, []),
  (96, .aload_n 0, 1, 0, 0, .null, []),
  (97, .getfield 31, 3, 8, 7, .null, []),
  (100, .iload 5, 2, 5, 0, .null, []),
  (102, .iconst 3, 1, 0, 0, .int 3, []),
  (103, .iadd, 1, 0, 0, .null, []),
  (104, .iload 4, 2, 4, 0, .null, []),
  (106, .iastore, 1, 0, 0, .null, []),
  (107, .aload_n 0, 1, 0, 0, .null, []),
  (108, .getfield 31, 3, 8, 7, .null, []),
  (111, .iload 5, 2, 5, 0, .null, []),
  (113, .iconst 4, 1, 0, 0, .int 4, []),
  (114, .iadd, 1, 0, 0, .null, []),
  (115, .aload_n 0, 1, 0, 0, .null, []),
  (116, .getfield 7, 3, 8, 0, .null, []),
  (119, .bipush 6, 2, 0, 0, .int 6, []),
  (121, .iaload, 1, 0, 0, .null, []),
  (122, .iastore, 1, 0, 0, .null, []),
  (123, .aload_n 0, 1, 0, 0, .null, []),
  (124, .getfield 7, 3, 8, 0, .null, []),
  (127, .iconst 5, 1, 0, 0, .int 5, []),
  (128, .dup2, 1, 0, 0, .null, []),
  (129, .iaload, 1, 0, 0, .null, []),
  (130, .iconst 1, 1, 0, 0, .int 1, []),
  (131, .iadd, 1, 0, 0, .null, []),
  (132, .iastore, 1, 0, 0, .null, []),
  (133, .aload_n 0, 1, 0, 0, .null, []),
  (134, .getfield 7, 3, 8, 0, .null, []),
  (137, .iconst 5, 1, 0, 0, .int 5, []),
  (138, .iaload, 1, 0, 0, .null, []),
  (139, .iconst 1, 1, 0, 0, .int 1, []),
  (140, .isub, 1, 0, 0, .null, []),
  (141, .ireturn, 1, 0, 0, .null, [])]
/-- RailPassesModel.ridden(III)I -/
def rp_k212 : List rp_En := [(0, .aload_n 0, 1, 0, 0, .null, []),
  (1, .iload_n 1, 1, 1, 0, .null, []),
  (2, .invokevirtual 174, 3, 173, 2, .null, []),
  (5, .ifCond .eq 21, 3, 26, 0, .null, []),
  (8, .iload_n 3, 1, 3, 0, .null, []),
  (9, .iconst 0, 1, 0, 0, .int 0, []),
  (10, .bipush 8, 2, 0, 0, .int 8, []),
  (12, .invokestatic 68, 3, 148, 3, .null, []),
  (15, .ifCond .eq 11, 3, 26, 0, .null, []),
  (18, .aload_n 0, 1, 0, 0, .null, []),
  (19, .iload_n 2, 1, 2, 0, .null, []),
  (20, .invokevirtual 251, 3, 213, 2, .null, []),
  (23, .ifCond .ne 5, 3, 28, 0, .null, []),
  (26, .iconst (-1), 1, 0, 0, .int (-1), []),
  (27, .ireturn, 1, 0, 0, .null, []),
  (28, .aload_n 0, 1, 0, 0, .null, []),
  (29, .iload_n 1, 1, 1, 0, .null, []),
  (30, .iload_n 2, 1, 2, 0, .null, []),
  (31, .invokevirtual 254, 3, 214, 3, .null, []),
  (34, .aload_n 0, 1, 0, 0, .null, []),
  (35, .getfield 56, 3, 8, 27, .null, []),
  (38, .iload_n 3, 1, 3, 0, .null, []),
  (39, .iaload, 1, 0, 0, .null, []),
  (40, .ireturn, 1, 0, 0, .null, [])]
/-- RailPassesModel.isKnown(I)Z -/
def rp_k213 : List rp_En := [(0, .iload_n 1, 1, 1, 0, .null, []),
  (1, .iconst 0, 1, 0, 0, .int 0, []),
  (2, .aload_n 0, 1, 0, 0, .null, []),
  (3, .getfield 7, 3, 8, 0, .null, []),
  (6, .bipush 6, 2, 0, 0, .int 6, []),
  (8, .iaload, 1, 0, 0, .null, []),
  (9, .invokestatic 68, 3, 148, 3, .null, []),
  (12, .ireturn, 1, 0, 0, .null, [])]
/-- RailPassesModel.goThrough(II)V -/
def rp_k214 : List rp_En := [(0, .iconst 0, 1, 0, 0, .int 0, []),
  (1, .istore_n 3, 1, 3, 0, .null, []),
  (2, .iload_n 3, 1, 3, 0, .null, []),
  (3, .bipush 9, 2, 0, 0, .int 9, []),
  (5, .if_icmp .ge 16, 3, 21, 0, .null, []),
  (8, .aload_n 0, 1, 0, 0, .null, []),
  (9, .getfield 56, 3, 8, 27, .null, []),
  (12, .iload_n 3, 1, 3, 0, .null, []),
  (13, .iconst 0, 1, 0, 0, .int 0, []),
  (14, .iastore, 1, 0, 0, .null, []),
  (15, .iinc 3 1, 3, 3, 0, .int 1, []),
  (18, .goto (-16), 3, 2, 0, .null, []),
  (21, .aload_n 0, 1, 0, 0, .null, []),
  (22, .iload_n 1, 1, 1, 0, .null, []),
  (23, .iconst (-1), 1, 0, 0, .int (-1), []),
  (24, .iload_n 2, 1, 2, 0, .null, []),
  (25, .invokevirtual 245, 3, 215, 4, .null, []),
  (28, .istore_n 3, 1, 3, 0, .null, []),
  (29, .iload_n 3, 1, 3, 0, .null, []),
  (30, .ifCond .lt 82, 3, 112, 0, .null, []),
  (33, .aload_n 0, 1, 0, 0, .null, []),
  (34, .iload_n 1, 1, 1, 0, .null, []),
  (35, .aload_n 0, 1, 0, 0, .null, []),
  (36, .iload_n 3, 1, 3, 0, .null, []),
  (37, .invokevirtual 242, 3, 216, 2, .null, []),
  (40, .iload_n 2, 1, 2, 0, .null, []),
  (41, .invokevirtual 245, 3, 215, 4, .null, []),
  (44, .istore 4, 2, 4, 0, .null, []),
  (46, .iload 4, 2, 4, 0, .null, []),
  (48, .ifCond .lt 58, 3, 106, 0, .null, []),
  (51, .aload_n 0, 1, 0, 0, .null, []),
  (52, .getfield 31, 3, 8, 7, .null, []),
  (55, .iconst 5, 1, 0, 0, .int 5, []),
  (56, .iload_n 3, 1, 3, 0, .null, []),
  (57, .imul, 1, 0, 0, .null, []),
  (58, .iconst 1, 1, 0, 0, .int 1, []),
  (59, .iadd, 1, 0, 0, .null, []),
  (60, .iaload, 1, 0, 0, .null, []),
  (61, .aload_n 0, 1, 0, 0, .null, []),
  (62, .getfield 31, 3, 8, 7, .null, []),
  (65, .iconst 5, 1, 0, 0, .int 5, []),
  (66, .iload 4, 2, 4, 0, .null, []),
  (68, .imul, 1, 0, 0, .null, []),
  (69, .iconst 1, 1, 0, 0, .int 1, []),
  (70, .iadd, 1, 0, 0, .null, []),
  (71, .iaload, 1, 0, 0, .null, []),
  (72, .if_icmp .ne 34, 3, 106, 0, .null, []),
  (75, .aload_n 0, 1, 0, 0, .null, []),
  (76, .getfield 31, 3, 8, 7, .null, []),
  (79, .iconst 5, 1, 0, 0, .int 5, []),
  (80, .iload_n 3, 1, 3, 0, .null, []),
  (81, .imul, 1, 0, 0, .null, []),
  (82, .iconst 3, 1, 0, 0, .int 3, []),
  (83, .iadd, 1, 0, 0, .null, []),
  (84, .iaload, 1, 0, 0, .null, []),
  (85, .aload_n 0, 1, 0, 0, .null, []),
  (86, .getfield 31, 3, 8, 7, .null, []),
  (89, .iconst 5, 1, 0, 0, .int 5, []),
  (90, .iload 4, 2, 4, 0, .null, []),
  (92, .imul, 1, 0, 0, .null, []),
  (93, .iconst 3, 1, 0, 0, .int 3, []),
  (94, .iadd, 1, 0, 0, .null, []),
  (95, .iaload, 1, 0, 0, .null, []),
  (96, .if_icmp .eq 10, 3, 106, 0, .null, []),
  (99, .aload_n 0, 1, 0, 0, .null, []),
  (100, .iload_n 3, 1, 3, 0, .null, []),
  (101, .iload 4, 2, 4, 0, .null, []),
  (103, .invokevirtual 248, 3, 217, 3, .null, []),
  (106, .iload 4, 2, 4, 0, .null, []),
  (108, .istore_n 3, 1, 3, 0, .null, []),
  (109, .goto (-80), 3, 29, 0, .null, []),
  (112, .return_, 1, 0, 0, .null, [])]
/-- RailPassesModel.nextScan(III)I -/
def rp_k215 : List rp_En := [(0, .iconst (-1), 1, 0, 0, .int (-1), []),
  (1, .istore 4, 2, 4, 0, .null, []),
  (3, .iconst 0, 1, 0, 0, .int 0, []),
  (4, .istore 5, 2, 5, 0, .null, []),
  (6, .iload 5, 2, 5, 0, .null, []),
  (8, .aload_n 0, 1, 0, 0, .null, []),
  (9, .getfield 7, 3, 8, 0, .null, []),
  (12, .iconst 5, 1, 0, 0, .int 5, []),
  (13, .iaload, 1, 0, 0, .null, []),
  (14, .if_icmp .ge 88, 3, 102, 0, .null, []),
  (17, .aload_n 0, 1, 0, 0, .null, []),
  (18, .getfield 31, 3, 8, 7, .null, []),
  (21, .iconst 5, 1, 0, 0, .int 5, []),
  (22, .iload 5, 2, 5, 0, .null, []),
  (24, .imul, 1, 0, 0, .null, []),
  (25, .iaload, 1, 0, 0, .null, []),
  (26, .iload_n 1, 1, 1, 0, .null, []),
  (27, .if_icmp .ne 32, 3, 59, 0, .null, []),
  (30, .aload_n 0, 1, 0, 0, .null, []),
  (31, .getfield 31, 3, 8, 7, .null, []),
  (34, .iconst 5, 1, 0, 0, .int 5, []),
  (35, .iload 5, 2, 5, 0, .null, []),
  (37, .imul, 1, 0, 0, .null, []),
  (38, .iconst 4, 1, 0, 0, .int 4, []),
  (39, .iadd, 1, 0, 0, .null, []),
  (40, .iaload, 1, 0, 0, .null, []),
  (41, .iload_n 3, 1, 3, 0, .null, []),
  (42, .if_icmp .gt 17, 3, 59, 0, .null, []),
  (45, .aload_n 0, 1, 0, 0, .null, []),
  (46, .iload 5, 2, 5, 0, .null, []),
  (48, .invokevirtual 242, 3, 216, 2, .null, []),
  (51, .iload_n 2, 1, 2, 0, .null, []),
  (52, .if_icmp .le 7, 3, 59, 0, .null, []),
  (55, .iconst 1, 1, 0, 0, .int 1, []),
  (56, .goto 4, 3, 60, 0, .null, []),
  (59, .iconst 0, 1, 0, 0, .int 0, []),
  (60, .istore 6, 2, 6, 0, .null, []),
  (62, .iload 6, 2, 6, 0, .null, []),
  (64, .ifCond .eq 28, 3, 92, 0, .null, []),
  (67, .iload 4, 2, 4, 0, .null, []),
  (69, .ifCond .lt 18, 3, 87, 0, .null, []),
  (72, .aload_n 0, 1, 0, 0, .null, []),
  (73, .iload 5, 2, 5, 0, .null, []),
  (75, .invokevirtual 242, 3, 216, 2, .null, []),
  (78, .aload_n 0, 1, 0, 0, .null, []),
  (79, .iload 4, 2, 4, 0, .null, []),
  (81, .invokevirtual 242, 3, 216, 2, .null, []),
  (84, .if_icmp .ge 8, 3, 92, 0, .null, []),
  (87, .iload 5, 2, 5, 0, .null, []),
  (89, .goto 5, 3, 94, 0, .null, []),
  (92, .iload 4, 2, 4, 0, .null, []),
  (94, .istore 4, 2, 4, 0, .null, []),
  (96, .iinc 5 1, 3, 5, 0, .int 1, []),
  (99, .goto (-93), 3, 6, 0, .null, []),
  (102, .iload 4, 2, 4, 0, .null, []),
  (104, .ireturn, 1, 0, 0, .null, [])]
/-- RailPassesModel.whenOf(I)I -/
def rp_k216 : List rp_En := [(0, .aload_n 0, 1, 0, 0, .null, []),
  (1, .getfield 31, 3, 8, 7, .null, []),
  (4, .iconst 5, 1, 0, 0, .int 5, []),
  (5, .iload_n 1, 1, 1, 0, .null, []),
  (6, .imul, 1, 0, 0, .null, []),
  (7, .iconst 1, 1, 0, 0, .int 1, []),
  (8, .iadd, 1, 0, 0, .null, []),
  (9, .iaload, 1, 0, 0, .null, []),
  (10, .sipush 1440, 3, 0, 0, .int 1440, []),
  (13, .imul, 1, 0, 0, .null, []),
  (14, .aload_n 0, 1, 0, 0, .null, []),
  (15, .getfield 31, 3, 8, 7, .null, []),
  (18, .iconst 5, 1, 0, 0, .int 5, []),
  (19, .iload_n 1, 1, 1, 0, .null, []),
  (20, .imul, 1, 0, 0, .null, []),
  (21, .iconst 2, 1, 0, 0, .int 2, []),
  (22, .iadd, 1, 0, 0, .null, []),
  (23, .iaload, 1, 0, 0, .null, []),
  (24, .iadd, 1, 0, 0, .null, []),
  (25, .bipush 40, 2, 0, 0, .int 40, []),
  (27, .imul, 1, 0, 0, .null, []),
  (28, .iload_n 1, 1, 1, 0, .null, []),
  (29, .iadd, 1, 0, 0, .null, []),
  (30, .ireturn, 1, 0, 0, .null, [])]
/-- RailPassesModel.addLeg(II)V -/
def rp_k217 : List rp_En := [(0, .aload_n 0, 1, 0, 0, .null, []),
  (1, .getfield 56, 3, 8, 27, .null, []),
  (4, .iconst 0, 1, 0, 0, .int 0, []),
  (5, .dup2, 1, 0, 0, .null, []),
  (6, .iaload, 1, 0, 0, .null, []),
  (7, .iconst 1, 1, 0, 0, .int 1, []),
  (8, .iadd, 1, 0, 0, .null, []),
  (9, .iastore, 1, 0, 0, .null, []),
  (10, .aload_n 0, 1, 0, 0, .null, []),
  (11, .aload_n 0, 1, 0, 0, .null, []),
  (12, .getfield 31, 3, 8, 7, .null, []),
  (15, .iconst 5, 1, 0, 0, .int 5, []),
  (16, .iload_n 1, 1, 1, 0, .null, []),
  (17, .imul, 1, 0, 0, .null, []),
  (18, .iconst 3, 1, 0, 0, .int 3, []),
  (19, .iadd, 1, 0, 0, .null, []),
  (20, .iaload, 1, 0, 0, .null, []),
  (21, .invokevirtual 235, 3, 209, 2, .null, []),
  (24, .aload_n 0, 1, 0, 0, .null, []),
  (25, .getfield 53, 3, 8, 26, .null, []),
  (28, .aload_n 0, 1, 0, 0, .null, []),
  (29, .getfield 31, 3, 8, 7, .null, []),
  (32, .iconst 5, 1, 0, 0, .int 5, []),
  (33, .iload_n 2, 1, 2, 0, .null, []),
  (34, .imul, 1, 0, 0, .null, []),
  (35, .iconst 3, 1, 0, 0, .int 3, []),
  (36, .iadd, 1, 0, 0, .null, []),
  (37, .iaload, 1, 0, 0, .null, []),
  (38, .iaload, 1, 0, 0, .null, []),
  (39, .istore_n 3, 1, 3, 0, .null, []),
  (40, .iload_n 3, 1, 3, 0, .null, []),
  (41, .ldc 234, 2, 0, 0, .int 100000000, []),
  (43, .if_icmp .lt 14, 3, 57, 0, .null, []),
  (46, .aload_n 0, 1, 0, 0, .null, []),
  (47, .getfield 56, 3, 8, 27, .null, []),
  (50, .iconst 1, 1, 0, 0, .int 1, []),
  (51, .dup2, 1, 0, 0, .null, []),
  (52, .iaload, 1, 0, 0, .null, []),
  (53, .iconst 1, 1, 0, 0, .int 1, []),
  (54, .iadd, 1, 0, 0, .null, []),
  (55, .iastore, 1, 0, 0, .null, []),
  (56, .return_, 1, 0, 0, .null, []),
  (57, .iload_n 3, 1, 3, 0, .null, []),
  (58, .sipush 16384, 3, 0, 0, .int 16384, []),
  (61, .idiv, 1, 0, 0, .null, []),
  (62, .iconst 3, 1, 0, 0, .int 3, []),
  (63, .aload_n 0, 1, 0, 0, .null, []),
  (64, .getfield 31, 3, 8, 7, .null, []),
  (67, .iconst 5, 1, 0, 0, .int 5, []),
  (68, .iload_n 2, 1, 2, 0, .null, []),
  (69, .imul, 1, 0, 0, .null, []),
  (70, .iconst 2, 1, 0, 0, .int 2, []),
  (71, .iadd, 1, 0, 0, .null, []),
  (72, .iaload, 1, 0, 0, .null, []),
  (73, .aload_n 0, 1, 0, 0, .null, []),
  (74, .getfield 31, 3, 8, 7, .null, []),
  (77, .iconst 5, 1, 0, 0, .int 5, []),
  (78, .iload_n 1, 1, 1, 0, .null, []),
  (79, .imul, 1, 0, 0, .null, []),
  (80, .iconst 2, 1, 0, 0, .int 2, []),
  (81, .iadd, 1, 0, 0, .null, []),
  (82, .iaload, 1, 0, 0, .null, []),
  (83, .isub, 1, 0, 0, .null, []),
  (84, .imul, 1, 0, 0, .null, []),
  (85, .if_icmp .le 14, 3, 99, 0, .null, []),
  (88, .aload_n 0, 1, 0, 0, .null, []),
  (89, .getfield 56, 3, 8, 27, .null, []),
  (92, .iconst 2, 1, 0, 0, .int 2, []),
  (93, .dup2, 1, 0, 0, .null, []),
  (94, .iaload, 1, 0, 0, .null, []),
  (95, .iconst 1, 1, 0, 0, .int 1, []),
  (96, .iadd, 1, 0, 0, .null, []),
  (97, .iastore, 1, 0, 0, .null, []),
  (98, .return_, 1, 0, 0, .null, []),
  (99, .iconst 0, 1, 0, 0, .int 0, []),
  (100, .istore 4, 2, 4, 0, .null, []),
  (102, .iload 4, 2, 4, 0, .null, []),
  (104, .aload_n 0, 1, 0, 0, .null, []),
  (105, .getfield 7, 3, 8, 0, .null, []),
  (108, .iconst 0, 1, 0, 0, .int 0, []),
  (109, .iaload, 1, 0, 0, .null, []),
  (110, .if_icmp .ge 75, 3, 185, 0, .null, []),
  (113, .iload_n 3, 1, 3, 0, .null, []),
  (114, .sipush 16384, 3, 0, 0, .int 16384, []),
  (117, .irem, 1, 0, 0, .null, []),
  (118, .iload 4, 2, 4, 0, .null, []),
  (120, .ishr, 1, 0, 0, .null, []),
  (121, .iconst 1, 1, 0, 0, .int 1, []),
  (122, .iand, 1, 0, 0, .null, []),
  (123, .iconst 1, 1, 0, 0, .int 1, []),
  (124, .if_icmp .ne 55, 3, 179, 0, .null, []),
  (127, .aload_n 0, 1, 0, 0, .null, []),
  (128, .getfield 56, 3, 8, 27, .null, []),
  (131, .iconst 3, 1, 0, 0, .int 3, []),
  (132, .dup2, 1, 0, 0, .null, []),
  (133, .iaload, 1, 0, 0, .null, []),
  (134, .aload_n 0, 1, 0, 0, .null, []),
  (135, .getfield 13, 3, 8, 1, .null, []),
  (138, .iconst 5, 1, 0, 0, .int 5, []),
  (139, .iload 4, 2, 4, 0, .null, []),
  (141, .imul, 1, 0, 0, .null, []),
  (142, .iconst 3, 1, 0, 0, .int 3, []),
  (143, .iadd, 1, 0, 0, .null, []),
  (144, .iaload, 1, 0, 0, .null, []),
  (145, .iadd, 1, 0, 0, .null, []),
  (146, .iastore, 1, 0, 0, .null, []),
  (147, .aload_n 0, 1, 0, 0, .null, []),
  (148, .getfield 56, 3, 8, 27, .null, []),
  (151, .iconst 4, 1, 0, 0, .int 4, []),
  (152, .aload_n 0, 1, 0, 0, .null, []),
  (153, .getfield 13, 3, 8, 1, .null, []),
  (156, .iconst 5, 1, 0, 0, .int 5, []),
  (157, .iload 4, 2, 4, 0, .null, []),
  (159, .imul, 1, 0, 0, .null, []),
  (160, .iconst 2, 1, 0, 0, .int 2, []),
  (161, .iadd, 1, 0, 0, .null, []),
  (162, .iaload, 1, 0, 0, .null, []),
  (163, .iadd, 1, 0, 0, .null, []),
  (164, .dup2, 1, 0, 0, .null, []),
  (165, .iaload, 1, 0, 0, .null, []),
  (166, .aload_n 0, 1, 0, 0, .null, []),
  (167, .getfield 13, 3, 8, 1, .null, []),
  (170, .iconst 5, 1, 0, 0, .int 5, []),
  (171, .iload 4, 2, 4, 0, .null, []),
  (173, .imul, 1, 0, 0, .null, []),
  (174, .iconst 3, 1, 0, 0, .int 3, []),
  (175, .iadd, 1, 0, 0, .null, []),
  (176, .iaload, 1, 0, 0, .null, []),
  (177, .iadd, 1, 0, 0, .null, []),
  (178, .iastore, 1, 0, 0, .null, []),
  (179, .iinc 4 1, 3, 4, 0, .int 1, []),
  (182, .goto (-80), 3, 102, 0, .null, []),
  (185, .return_, 1, 0, 0, .null, [])]
/-- RailPassesModel.part(III)I -/
def rp_k218 : List rp_En := [(0, .aload_n 0, 1, 0, 0, .null, []),
  (1, .iload_n 1, 1, 1, 0, .null, []),
  (2, .invokevirtual 174, 3, 173, 2, .null, []),
  (5, .ifCond .eq 42, 3, 47, 0, .null, []),
  (8, .iload_n 2, 1, 2, 0, .null, []),
  (9, .iconst 0, 1, 0, 0, .int 0, []),
  (10, .iconst 4, 1, 0, 0, .int 4, []),
  (11, .invokestatic 68, 3, 148, 3, .null, []),
  (14, .ifCond .eq 33, 3, 47, 0, .null, []),
  (17, .aload_n 0, 1, 0, 0, .null, []),
  (18, .iload_n 3, 1, 3, 0, .null, []),
  (19, .invokevirtual 251, 3, 213, 2, .null, []),
  (22, .ifCond .eq 25, 3, 47, 0, .null, []),
  (25, .aload_n 0, 1, 0, 0, .null, []),
  (26, .iload_n 1, 1, 1, 0, .null, []),
  (27, .iload_n 2, 1, 2, 0, .null, []),
  (28, .iload_n 3, 1, 3, 0, .null, []),
  (29, .aload_n 0, 1, 0, 0, .null, []),
  (30, .getfield 22, 3, 8, 4, .null, []),
  (33, .bipush 16, 2, 0, 0, .int 16, []),
  (35, .iload_n 1, 1, 1, 0, .null, []),
  (36, .imul, 1, 0, 0, .null, []),
  (37, .bipush 14, 2, 0, 0, .int 14, []),
  (39, .iadd, 1, 0, 0, .null, []),
  (40, .iaload, 1, 0, 0, .null, []),
  (41, .invokevirtual 260, 3, 219, 5, .null, []),
  (44, .goto 4, 3, 48, 0, .null, []),
  (47, .iconst (-1), 1, 0, 0, .int (-1), []),
  (48, .ireturn, 1, 0, 0, .null, [])]
/-- RailPassesModel.partOf(IIII)I -/
def rp_k219 : List rp_En := [(0, .aload_n 0, 1, 0, 0, .null, []),
  (1, .iload_n 1, 1, 1, 0, .null, []),
  (2, .iload_n 3, 1, 3, 0, .null, []),
  (3, .invokevirtual 254, 3, 214, 3, .null, []),
  (6, .aload_n 0, 1, 0, 0, .null, []),
  (7, .iload 4, 2, 4, 0, .null, []),
  (9, .invokevirtual 257, 3, 220, 2, .null, []),
  (12, .aload_n 0, 1, 0, 0, .null, []),
  (13, .getfield 62, 3, 8, 29, .null, []),
  (16, .iload_n 2, 1, 2, 0, .null, []),
  (17, .iaload, 1, 0, 0, .null, []),
  (18, .ireturn, 1, 0, 0, .null, [])]
/-- RailPassesModel.divide(I)V -/
def rp_k220 : List rp_En := [(0, .iload_n 1, 1, 1, 0, .null, []),
  (1, .istore_n 2, 1, 2, 0, .null, []),
  (2, .iconst 0, 1, 0, 0, .int 0, []),
  (3, .istore_n 3, 1, 3, 0, .null, []),
  (4, .iload_n 3, 1, 3, 0, .null, []),
  (5, .iconst 5, 1, 0, 0, .int 5, []),
  (6, .if_icmp .ge 90, 3, 96, 0, .null, []),
  (9, .aload_n 0, 1, 0, 0, .null, []),
  (10, .getfield 62, 3, 8, 29, .null, []),
  (13, .iload_n 3, 1, 3, 0, .null, []),
  (14, .aload_n 0, 1, 0, 0, .null, []),
  (15, .getfield 56, 3, 8, 27, .null, []),
  (18, .iconst 3, 1, 0, 0, .int 3, []),
  (19, .iaload, 1, 0, 0, .null, []),
  (20, .ifCond .ne 7, 3, 27, 0, .null, []),
  (23, .iconst 0, 1, 0, 0, .int 0, []),
  (24, .goto 20, 3, 44, 0, .null, []),
  (27, .iload_n 1, 1, 1, 0, .null, []),
  (28, .aload_n 0, 1, 0, 0, .null, []),
  (29, .getfield 56, 3, 8, 27, .null, []),
  (32, .iconst 4, 1, 0, 0, .int 4, []),
  (33, .iload_n 3, 1, 3, 0, .null, []),
  (34, .iadd, 1, 0, 0, .null, []),
  (35, .iaload, 1, 0, 0, .null, []),
  (36, .imul, 1, 0, 0, .null, []),
  (37, .aload_n 0, 1, 0, 0, .null, []),
  (38, .getfield 56, 3, 8, 27, .null, []),
  (41, .iconst 3, 1, 0, 0, .int 3, []),
  (42, .iaload, 1, 0, 0, .null, []),
  (43, .idiv, 1, 0, 0, .null, []),
  (44, .iastore, 1, 0, 0, .null, []),
  (45, .aload_n 0, 1, 0, 0, .null, []),
  (46, .getfield 59, 3, 8, 28, .null, []),
  (49, .iload_n 3, 1, 3, 0, .null, []),
  (50, .aload_n 0, 1, 0, 0, .null, []),
  (51, .getfield 56, 3, 8, 27, .null, []),
  (54, .iconst 3, 1, 0, 0, .int 3, []),
  (55, .iaload, 1, 0, 0, .null, []),
  (56, .ifCond .ne 7, 3, 63, 0, .null, []),
  (59, .iconst 0, 1, 0, 0, .int 0, []),
  (60, .goto 20, 3, 80, 0, .null, []),
  (63, .iload_n 1, 1, 1, 0, .null, []),
  (64, .aload_n 0, 1, 0, 0, .null, []),
  (65, .getfield 56, 3, 8, 27, .null, []),
  (68, .iconst 4, 1, 0, 0, .int 4, []),
  (69, .iload_n 3, 1, 3, 0, .null, []),
  (70, .iadd, 1, 0, 0, .null, []),
  (71, .iaload, 1, 0, 0, .null, []),
  (72, .imul, 1, 0, 0, .null, []),
  (73, .aload_n 0, 1, 0, 0, .null, []),
  (74, .getfield 56, 3, 8, 27, .null, []),
  (77, .iconst 3, 1, 0, 0, .int 3, []),
  (78, .iaload, 1, 0, 0, .null, []),
  (79, .irem, 1, 0, 0, .null, []),
  (80, .iastore, 1, 0, 0, .null, []),
  (81, .iload_n 2, 1, 2, 0, .null, []),
  (82, .aload_n 0, 1, 0, 0, .null, []),
  (83, .getfield 62, 3, 8, 29, .null, []),
  (86, .iload_n 3, 1, 3, 0, .null, []),
  (87, .iaload, 1, 0, 0, .null, []),
  (88, .isub, 1, 0, 0, .null, []),
  (89, .istore_n 2, 1, 2, 0, .null, []),
  (90, .iinc 3 1, 3, 3, 0, .int 1, []),
  (93, .goto (-89), 3, 4, 0, .null, []),
  (96, .aload_n 0, 1, 0, 0, .null, []),
  (97, .getfield 56, 3, 8, 27, .null, []),
  (100, .iconst 3, 1, 0, 0, .int 3, []),
  (101, .iaload, 1, 0, 0, .null, []),
  (102, .ifCond .ne 11, 3, 113, 0, .null, []),
  (105, .aload_n 0, 1, 0, 0, .null, []),
  (106, .getfield 62, 3, 8, 29, .null, []),
  (109, .iconst 0, 1, 0, 0, .int 0, []),
  (110, .iload_n 1, 1, 1, 0, .null, []),
  (111, .iastore, 1, 0, 0, .null, []),
  (112, .return_, 1, 0, 0, .null, []),
  (113, .iload_n 2, 1, 2, 0, .null, []),
  (114, .ifCond .le 66, 3, 180, 0, .null, []),
  (117, .iconst 0, 1, 0, 0, .int 0, []),
  (118, .istore_n 3, 1, 3, 0, .null, []),
  (119, .iconst 1, 1, 0, 0, .int 1, []),
  (120, .istore 4, 2, 4, 0, .null, []),
  (122, .iload 4, 2, 4, 0, .null, []),
  (124, .iconst 5, 1, 0, 0, .int 5, []),
  (125, .if_icmp .ge 32, 3, 157, 0, .null, []),
  (128, .aload_n 0, 1, 0, 0, .null, []),
  (129, .getfield 59, 3, 8, 28, .null, []),
  (132, .iload 4, 2, 4, 0, .null, []),
  (134, .iaload, 1, 0, 0, .null, []),
  (135, .aload_n 0, 1, 0, 0, .null, []),
  (136, .getfield 59, 3, 8, 28, .null, []),
  (139, .iload_n 3, 1, 3, 0, .null, []),
  (140, .iaload, 1, 0, 0, .null, []),
  (141, .if_icmp .le 8, 3, 149, 0, .null, []),
  (144, .iload 4, 2, 4, 0, .null, []),
  (146, .goto 4, 3, 150, 0, .null, []),
  (149, .iload_n 3, 1, 3, 0, .null, []),
  (150, .istore_n 3, 1, 3, 0, .null, []),
  (151, .iinc 4 1, 3, 4, 0, .int 1, []),
  (154, .goto (-32), 3, 122, 0, .null, []),
  (157, .aload_n 0, 1, 0, 0, .null, []),
  (158, .getfield 62, 3, 8, 29, .null, []),
  (161, .iload_n 3, 1, 3, 0, .null, []),
  (162, .dup2, 1, 0, 0, .null, []),
  (163, .iaload, 1, 0, 0, .null, []),
  (164, .iconst 1, 1, 0, 0, .int 1, []),
  (165, .iadd, 1, 0, 0, .null, []),
  (166, .iastore, 1, 0, 0, .null, []),
  (167, .aload_n 0, 1, 0, 0, .null, []),
  (168, .getfield 59, 3, 8, 28, .null, []),
  (171, .iload_n 3, 1, 3, 0, .null, []),
  (172, .iconst (-1), 1, 0, 0, .int (-1), []),
  (173, .iastore, 1, 0, 0, .null, []),
  (174, .iinc 2 (-1), 3, 2, 0, .int (-1), []),
  (177, .goto (-64), 3, 113, 0, .null, []),
  (180, .return_, 1, 0, 0, .null, [])]
/-- RailPassesModel.account(II)I -/
def rp_k221 : List rp_En := [(0, .iload_n 1, 1, 1, 0, .null, []),
  (1, .iconst 0, 1, 0, 0, .int 0, []),
  (2, .iconst 4, 1, 0, 0, .int 4, []),
  (3, .invokestatic 68, 3, 148, 3, .null, []),
  (6, .ifCond .eq 11, 3, 17, 0, .null, []),
  (9, .aload_n 0, 1, 0, 0, .null, []),
  (10, .iload_n 2, 1, 2, 0, .null, []),
  (11, .invokevirtual 251, 3, 213, 2, .null, []),
  (14, .ifCond .ne 5, 3, 19, 0, .null, []),
  (17, .iconst (-1), 1, 0, 0, .int (-1), []),
  (18, .ireturn, 1, 0, 0, .null, []),
  (19, .iconst 0, 1, 0, 0, .int 0, []),
  (20, .istore_n 3, 1, 3, 0, .null, []),
  (21, .iconst 0, 1, 0, 0, .int 0, []),
  (22, .istore 4, 2, 4, 0, .null, []),
  (24, .iload 4, 2, 4, 0, .null, []),
  (26, .aload_n 0, 1, 0, 0, .null, []),
  (27, .getfield 7, 3, 8, 0, .null, []),
  (30, .iconst 2, 1, 0, 0, .int 2, []),
  (31, .iaload, 1, 0, 0, .null, []),
  (32, .if_icmp .ge 71, 3, 103, 0, .null, []),
  (35, .iload_n 3, 1, 3, 0, .null, []),
  (36, .aload_n 0, 1, 0, 0, .null, []),
  (37, .iload 4, 2, 4, 0, .null, []),
  (39, .iload_n 1, 1, 1, 0, .null, []),
  (40, .iload_n 2, 1, 2, 0, .null, []),
  (41, .aload_n 0, 1, 0, 0, .null, []),
  (42, .getfield 22, 3, 8, 4, .null, []),
  (45, .bipush 16, 2, 0, 0, .int 16, []),
  (47, .iload 4, 2, 4, 0, .null, []),
  (49, .imul, 1, 0, 0, .null, []),
  (50, .bipush 14, 2, 0, 0, .int 14, []),
  (52, .iadd, 1, 0, 0, .null, []),
  (53, .iaload, 1, 0, 0, .null, []),
  (54, .invokevirtual 260, 3, 219, 5, .null, []),
  (57, .iadd, 1, 0, 0, .null, []),
  (58, .istore_n 3, 1, 3, 0, .null, []),
  (59, .iload_n 3, 1, 3, 0, .null, []),
  (60, .aload_n 0, 1, 0, 0, .null, []),
  (61, .getfield 22, 3, 8, 4, .null, []),
  (64, .bipush 16, 2, 0, 0, .int 16, []),
  (66, .iload 4, 2, 4, 0, .null, []),
  (68, .imul, 1, 0, 0, .null, []),
  (69, .bipush 13, 2, 0, 0, .int 13, []),
  (71, .iadd, 1, 0, 0, .null, []),
  (72, .iaload, 1, 0, 0, .null, []),
  (73, .iconst 1, 1, 0, 0, .int 1, []),
  (74, .if_icmp .ne 20, 3, 94, 0, .null, []),
  (77, .aload_n 0, 1, 0, 0, .null, []),
  (78, .iload 4, 2, 4, 0, .null, []),
  (80, .iload_n 1, 1, 1, 0, .null, []),
  (81, .iload_n 2, 1, 2, 0, .null, []),
  (82, .aload_n 0, 1, 0, 0, .null, []),
  (83, .iload 4, 2, 4, 0, .null, []),
  (85, .invokevirtual 190, 3, 189, 2, .null, []),
  (88, .invokevirtual 260, 3, 219, 5, .null, []),
  (91, .goto 4, 3, 95, 0, .null, []),
  (94, .iconst 0, 1, 0, 0, .int 0, []),
  (95, .isub, 1, 0, 0, .null, []),
  (96, .istore_n 3, 1, 3, 0, .null, []),
  (97, .iinc 4 1, 3, 4, 0, .int 1, []),
  (100, .goto (-76), 3, 24, 0, .null, []),
  (103, .iload_n 3, 1, 3, 0, .null, []),
  (104, .ireturn, 1, 0, 0, .null, [])]
/-- RailPassesModel.many(I)I -/
def rp_k222 : List rp_En := [(0, .iconst 0, 1, 0, 0, .int 0, []),
  (1, .istore_n 2, 1, 2, 0, .null, []),
  (2, .iload_n 1, 1, 1, 0, .null, []),
  (3, .tableswitch 125 0 9 #[53, 53, 60, 91, 91, 91, 100, 105, 112, 117], 53, 128, 0, .null, [(0, 56), (1, 56), (2, 63), (3, 94), (4, 94), (5, 94), (6, 103), (7, 108), (8, 115), (9, 120)]),
  (56, .aload_n 0, 1, 0, 0, .null, []),
  (57, .getfield 7, 3, 8, 0, .null, []),
  (60, .iload_n 1, 1, 1, 0, .null, []),
  (61, .iaload, 1, 0, 0, .null, []),
  (62, .ireturn, 1, 0, 0, .null, []),
  (63, .iconst 0, 1, 0, 0, .int 0, []),
  (64, .istore_n 3, 1, 3, 0, .null, []),
  (65, .iload_n 3, 1, 3, 0, .null, []),
  (66, .iconst 3, 1, 0, 0, .int 3, []),
  (67, .if_icmp .ge 25, 3, 92, 0, .null, []),
  (70, .iload_n 2, 1, 2, 0, .null, []),
  (71, .aload_n 0, 1, 0, 0, .null, []),
  (72, .iload_n 3, 1, 3, 0, .null, []),
  (73, .invokevirtual 144, 3, 168, 2, .null, []),
  (76, .ifCond .eq 7, 3, 83, 0, .null, []),
  (79, .iconst 1, 1, 0, 0, .int 1, []),
  (80, .goto 4, 3, 84, 0, .null, []),
  (83, .iconst 0, 1, 0, 0, .int 0, []),
  (84, .iadd, 1, 0, 0, .null, []),
  (85, .istore_n 2, 1, 2, 0, .null, []),
  (86, .iinc 3 1, 3, 3, 0, .int 1, []),
  (89, .goto (-24), 3, 65, 0, .null, []),
  (92, .iload_n 2, 1, 2, 0, .null, []),
  (93, .ireturn, 1, 0, 0, .null, []),
  (94, .aload_n 0, 1, 0, 0, .null, []),
  (95, .getfield 7, 3, 8, 0, .null, []),
  (98, .iload_n 1, 1, 1, 0, .null, []),
  (99, .iconst 1, 1, 0, 0, .int 1, []),
  (100, .isub, 1, 0, 0, .null, []),
  (101, .iaload, 1, 0, 0, .null, []),
  (102, .ireturn, 1, 0, 0, .null, []),
  (103, .aload_n 0, 1, 0, 0, .null, []),
  (104, .getfield 231, 3, 8, 25, .null, []),
  (107, .ireturn, 1, 0, 0, .null, []),
  (108, .aload_n 0, 1, 0, 0, .null, []),
  (109, .getfield 7, 3, 8, 0, .null, []),
  (112, .iconst 5, 1, 0, 0, .int 5, []),
  (113, .iaload, 1, 0, 0, .null, []),
  (114, .ireturn, 1, 0, 0, .null, []),
  (115, .aload_n 0, 1, 0, 0, .null, []),
  (116, .getfield 82, 3, 8, 9, .null, []),
  (119, .ireturn, 1, 0, 0, .null, []),
  (120, .aload_n 0, 1, 0, 0, .null, []),
  (121, .getfield 7, 3, 8, 0, .null, []),
  (124, .bipush 6, 2, 0, 0, .int 6, []),
  (126, .iaload, 1, 0, 0, .null, []),
  (127, .ireturn, 1, 0, 0, .null, []),
  (128, .iconst (-1), 1, 0, 0, .int (-1), []),
  (129, .ireturn, 1, 0, 0, .null, [])]
/-- RailPassesModel.keep()I -/
def rp_k223 : List rp_En := [(0, .aload_n 0, 1, 0, 0, .null, []),
  (1, .iconst 1, 1, 0, 0, .int 1, []),
  (2, .invokevirtual 271, 3, 224, 2, .null, []),
  (5, .aload_n 0, 1, 0, 0, .null, []),
  (6, .iconst 1, 1, 0, 0, .int 1, []),
  (7, .putfield 275, 3, 8, 30, .int 1, []),
  (10, .iconst 1, 1, 0, 0, .int 1, []),
  (11, .ireturn, 1, 0, 0, .null, [])]
/-- RailPassesModel.moveAll(Z)V -/
def rp_k224 : List rp_En := [(0, .aload_n 0, 1, 0, 0, .null, []),
  (1, .iconst 0, 1, 0, 0, .int 0, []),
  (2, .putfield 264, 3, 8, 32, .null, []),
  (5, .aload_n 0, 1, 0, 0, .null, []),
  (6, .aload_n 0, 1, 0, 0, .null, []),
  (7, .getfield 7, 3, 8, 0, .null, []),
  (10, .bipush 7, 2, 0, 0, .int 7, []),
  (12, .iload_n 1, 1, 1, 0, .null, []),
  (13, .invokevirtual 267, 3, 225, 4, .null, []),
  (16, .aload_n 0, 1, 0, 0, .null, []),
  (17, .aload_n 0, 1, 0, 0, .null, []),
  (18, .getfield 13, 3, 8, 1, .null, []),
  (21, .bipush 70, 2, 0, 0, .int 70, []),
  (23, .iload_n 1, 1, 1, 0, .null, []),
  (24, .invokevirtual 267, 3, 225, 4, .null, []),
  (27, .aload_n 0, 1, 0, 0, .null, []),
  (28, .aload_n 0, 1, 0, 0, .null, []),
  (29, .getfield 16, 3, 8, 2, .null, []),
  (32, .sipush 128, 3, 0, 0, .int 128, []),
  (35, .iload_n 1, 1, 1, 0, .null, []),
  (36, .invokevirtual 267, 3, 225, 4, .null, []),
  (39, .aload_n 0, 1, 0, 0, .null, []),
  (40, .aload_n 0, 1, 0, 0, .null, []),
  (41, .getfield 19, 3, 8, 3, .null, []),
  (44, .bipush 48, 2, 0, 0, .int 48, []),
  (46, .iload_n 1, 1, 1, 0, .null, []),
  (47, .invokevirtual 267, 3, 225, 4, .null, []),
  (50, .aload_n 0, 1, 0, 0, .null, []),
  (51, .aload_n 0, 1, 0, 0, .null, []),
  (52, .getfield 22, 3, 8, 4, .null, []),
  (55, .sipush 128, 3, 0, 0, .int 128, []),
  (58, .iload_n 1, 1, 1, 0, .null, []),
  (59, .invokevirtual 267, 3, 225, 4, .null, []),
  (62, .aload_n 0, 1, 0, 0, .null, []),
  (63, .aload_n 0, 1, 0, 0, .null, []),
  (64, .getfield 25, 3, 8, 5, .null, []),
  (67, .bipush 120, 2, 0, 0, .int 120, []),
  (69, .iload_n 1, 1, 1, 0, .null, []),
  (70, .invokevirtual 267, 3, 225, 4, .null, []),
  (73, .aload_n 0, 1, 0, 0, .null, []),
  (74, .aload_n 0, 1, 0, 0, .null, []),
  (75, .getfield 28, 3, 8, 6, .null, []),
  (78, .bipush 20, 2, 0, 0, .int 20, []),
  (80, .iload_n 1, 1, 1, 0, .null, []),
  (81, .invokevirtual 267, 3, 225, 4, .null, []),
  (84, .aload_n 0, 1, 0, 0, .null, []),
  (85, .aload_n 0, 1, 0, 0, .null, []),
  (86, .getfield 31, 3, 8, 7, .null, []),
  (89, .sipush 200, 3, 0, 0, .int 200, []),
  (92, .iload_n 1, 1, 1, 0, .null, []),
  (93, .invokevirtual 267, 3, 225, 4, .null, []),
  (96, .return_, 1, 0, 0, .null, [])]
/-- RailPassesModel.move([IIZ)V -/
def rp_k225 : List rp_En := [(0, .iconst 0, 1, 0, 0, .int 0, []),
  (1, .istore 4, 2, 4, 0, .null, []),
  (3, .iload 4, 2, 4, 0, .null, []),
  (5, .iload_n 2, 1, 2, 0, .null, []),
  (6, .if_icmp .ge 52, 3, 58, 0, .null, []),
  (9, .iload_n 3, 1, 3, 0, .null, []),
  (10, .ifCond .eq 19, 3, 29, 0, .null, []),
  (13, .aload_n 0, 1, 0, 0, .null, []),
  (14, .getfield 65, 3, 8, 31, .null, []),
  (17, .aload_n 0, 1, 0, 0, .null, []),
  (18, .getfield 264, 3, 8, 32, .null, []),
  (21, .aload_n 1, 1, 1, 0, .null, []),
  (22, .iload 4, 2, 4, 0, .null, []),
  (24, .iaload, 1, 0, 0, .null, []),
  (25, .iastore, 1, 0, 0, .null, []),
  (26, .goto 16, 3, 42, 0, .null, []),
  (29, .aload_n 1, 1, 1, 0, .null, []),
  (30, .iload 4, 2, 4, 0, .null, []),
  (32, .aload_n 0, 1, 0, 0, .null, []),
  (33, .getfield 65, 3, 8, 31, .null, []),
  (36, .aload_n 0, 1, 0, 0, .null, []),
  (37, .getfield 264, 3, 8, 32, .null, []),
  (40, .iaload, 1, 0, 0, .null, []),
  (41, .iastore, 1, 0, 0, .null, []),
  (42, .aload_n 0, 1, 0, 0, .null, []),
  (43, .dup, 1, 0, 0, .null, []),
  (44, .getfield 264, 3, 8, 32, .null, []),
  (47, .iconst 1, 1, 0, 0, .int 1, []),
  (48, .iadd, 1, 0, 0, .null, []),
  (49, .putfield 264, 3, 8, 32, .null, []),
  (52, .iinc 4 1, 3, 4, 0, .int 1, []),
  (55, .goto (-52), 3, 3, 0, .null, []),
  (58, .return_, 1, 0, 0, .null, [])]
/-- RailPassesModel.back()I -/
def rp_k226 : List rp_En := [(0, .aload_n 0, 1, 0, 0, .null, []),
  (1, .getfield 275, 3, 8, 30, .int 1, []),
  (4, .ifCond .ne 6, 3, 10, 0, .null, []),
  (7, .bipush (-3), 2, 0, 0, .int (-3), []),
  (9, .ireturn, 1, 0, 0, .null, []),
  (10, .aload_n 0, 1, 0, 0, .null, []),
  (11, .iconst 0, 1, 0, 0, .int 0, []),
  (12, .invokevirtual 271, 3, 224, 2, .null, []),
  (15, .iconst 1, 1, 0, 0, .int 1, []),
  (16, .ireturn, 1, 0, 0, .null, [])]
/-- RailPassesLaw.law([I)Z -/
def rp_k227 : List rp_En := [(0, .new 7, 3, 7, 0, .null, []),
  (3, .dup, 1, 0, 0, .null, []),
  (4, .invokespecial 9, 3, 0, 1, .null, []),
  (7, .astore_n 1, 1, 1, 0, .null, []),
  (8, .new 10, 3, 8, 0, .null, []),
  (11, .dup, 1, 0, 0, .null, []),
  (12, .invokespecial 12, 3, 145, 1, .null, []),
  (15, .astore_n 2, 1, 2, 0, .null, []),
  (16, .iconst 0, 1, 0, 0, .int 0, []),
  (17, .istore_n 3, 1, 3, 0, .null, []),
  (18, .iload_n 3, 1, 3, 0, .null, []),
  (19, .aload_n 0, 1, 0, 0, .null, []),
  (20, .arraylength, 1, 0, 0, .null, []),
  (21, .bipush 7, 2, 0, 0, .int 7, []),
  (23, .isub, 1, 0, 0, .null, []),
  (24, .if_icmp .gt 1300, 3, 1324, 0, .null, []),
  (27, .aload_n 0, 1, 0, 0, .null, []),
  (28, .iload_n 3, 1, 3, 0, .null, []),
  (29, .iaload, 1, 0, 0, .null, []),
  (30, .bipush 31, 2, 0, 0, .int 31, []),
  (32, .iand, 1, 0, 0, .null, []),
  (33, .tableswitch 1285 0 31 #[143, 222, 329, 362, 385, 448, 471, 504, 563, 596, 639, 682, 715, 738, 771, 794, 827, 840, 863, 896, 909, 942, 985, 998, 1051, 1084, 1117, 1160, 1203, 1236, 1259, 1272], 143, 1318, 0, .null, [(0, 176), (1, 255), (2, 362), (3, 395), (4, 418), (5, 481), (6, 504), (7, 537), (8, 596), (9, 629), (10, 672), (11, 715), (12, 748), (13, 771), (14, 804), (15, 827), (16, 860), (17, 873), (18, 896), (19, 929), (20, 942), (21, 975), (22, 1018), (23, 1031), (24, 1084), (25, 1117), (26, 1150), (27, 1193), (28, 1236), (29, 1269), (30, 1292), (31, 1305)]),
  (176, .aload_n 1, 1, 1, 0, .null, []),
  (177, .aload_n 0, 1, 0, 0, .null, []),
  (178, .iload_n 3, 1, 3, 0, .null, []),
  (179, .iconst 1, 1, 0, 0, .int 1, []),
  (180, .iadd, 1, 0, 0, .null, []),
  (181, .iaload, 1, 0, 0, .null, []),
  (182, .aload_n 0, 1, 0, 0, .null, []),
  (183, .iload_n 3, 1, 3, 0, .null, []),
  (184, .iconst 2, 1, 0, 0, .int 2, []),
  (185, .iadd, 1, 0, 0, .null, []),
  (186, .iaload, 1, 0, 0, .null, []),
  (187, .aload_n 0, 1, 0, 0, .null, []),
  (188, .iload_n 3, 1, 3, 0, .null, []),
  (189, .iconst 3, 1, 0, 0, .int 3, []),
  (190, .iadd, 1, 0, 0, .null, []),
  (191, .iaload, 1, 0, 0, .null, []),
  (192, .aload_n 0, 1, 0, 0, .null, []),
  (193, .iload_n 3, 1, 3, 0, .null, []),
  (194, .iconst 4, 1, 0, 0, .int 4, []),
  (195, .iadd, 1, 0, 0, .null, []),
  (196, .iaload, 1, 0, 0, .null, []),
  (197, .aload_n 0, 1, 0, 0, .null, []),
  (198, .iload_n 3, 1, 3, 0, .null, []),
  (199, .iconst 5, 1, 0, 0, .int 5, []),
  (200, .iadd, 1, 0, 0, .null, []),
  (201, .iaload, 1, 0, 0, .null, []),
  (202, .ifCond .eq 7, 3, 209, 0, .null, []),
  (205, .iconst 1, 1, 0, 0, .int 1, []),
  (206, .goto 4, 3, 210, 0, .null, []),
  (209, .iconst 0, 1, 0, 0, .int 0, []),
  (210, .invokevirtual 13, 3, 13, 6, .null, []),
  (213, .aload_n 2, 1, 2, 0, .null, []),
  (214, .aload_n 0, 1, 0, 0, .null, []),
  (215, .iload_n 3, 1, 3, 0, .null, []),
  (216, .iconst 1, 1, 0, 0, .int 1, []),
  (217, .iadd, 1, 0, 0, .null, []),
  (218, .iaload, 1, 0, 0, .null, []),
  (219, .aload_n 0, 1, 0, 0, .null, []),
  (220, .iload_n 3, 1, 3, 0, .null, []),
  (221, .iconst 2, 1, 0, 0, .int 2, []),
  (222, .iadd, 1, 0, 0, .null, []),
  (223, .iaload, 1, 0, 0, .null, []),
  (224, .aload_n 0, 1, 0, 0, .null, []),
  (225, .iload_n 3, 1, 3, 0, .null, []),
  (226, .iconst 3, 1, 0, 0, .int 3, []),
  (227, .iadd, 1, 0, 0, .null, []),
  (228, .iaload, 1, 0, 0, .null, []),
  (229, .aload_n 0, 1, 0, 0, .null, []),
  (230, .iload_n 3, 1, 3, 0, .null, []),
  (231, .iconst 4, 1, 0, 0, .int 4, []),
  (232, .iadd, 1, 0, 0, .null, []),
  (233, .iaload, 1, 0, 0, .null, []),
  (234, .aload_n 0, 1, 0, 0, .null, []),
  (235, .iload_n 3, 1, 3, 0, .null, []),
  (236, .iconst 5, 1, 0, 0, .int 5, []),
  (237, .iadd, 1, 0, 0, .null, []),
  (238, .iaload, 1, 0, 0, .null, []),
  (239, .ifCond .eq 7, 3, 246, 0, .null, []),
  (242, .iconst 1, 1, 0, 0, .int 1, []),
  (243, .goto 4, 3, 247, 0, .null, []),
  (246, .iconst 0, 1, 0, 0, .int 0, []),
  (247, .invokevirtual 17, 3, 146, 6, .null, []),
  (250, .if_icmp .eq 1068, 3, 1318, 0, .null, []),
  (253, .iconst 0, 1, 0, 0, .int 0, []),
  (254, .ireturn, 1, 0, 0, .null, []),
  (255, .aload_n 1, 1, 1, 0, .null, []),
  (256, .aload_n 0, 1, 0, 0, .null, []),
  (257, .iload_n 3, 1, 3, 0, .null, []),
  (258, .iconst 1, 1, 0, 0, .int 1, []),
  (259, .iadd, 1, 0, 0, .null, []),
  (260, .iaload, 1, 0, 0, .null, []),
  (261, .aload_n 0, 1, 0, 0, .null, []),
  (262, .iload_n 3, 1, 3, 0, .null, []),
  (263, .iconst 2, 1, 0, 0, .int 2, []),
  (264, .iadd, 1, 0, 0, .null, []),
  (265, .iaload, 1, 0, 0, .null, []),
  (266, .ifCond .eq 7, 3, 273, 0, .null, []),
  (269, .iconst 1, 1, 0, 0, .int 1, []),
  (270, .goto 4, 3, 274, 0, .null, []),
  (273, .iconst 0, 1, 0, 0, .int 0, []),
  (274, .aload_n 0, 1, 0, 0, .null, []),
  (275, .iload_n 3, 1, 3, 0, .null, []),
  (276, .iconst 3, 1, 0, 0, .int 3, []),
  (277, .iadd, 1, 0, 0, .null, []),
  (278, .iaload, 1, 0, 0, .null, []),
  (279, .aload_n 0, 1, 0, 0, .null, []),
  (280, .iload_n 3, 1, 3, 0, .null, []),
  (281, .iconst 4, 1, 0, 0, .int 4, []),
  (282, .iadd, 1, 0, 0, .null, []),
  (283, .iaload, 1, 0, 0, .null, []),
  (284, .aload_n 0, 1, 0, 0, .null, []),
  (285, .iload_n 3, 1, 3, 0, .null, []),
  (286, .iconst 5, 1, 0, 0, .int 5, []),
  (287, .iadd, 1, 0, 0, .null, []),
  (288, .iaload, 1, 0, 0, .null, []),
  (289, .ifCond .eq 7, 3, 296, 0, .null, []),
  (292, .iconst 1, 1, 0, 0, .int 1, []),
  (293, .goto 4, 3, 297, 0, .null, []),
  (296, .iconst 0, 1, 0, 0, .int 0, []),
  (297, .aload_n 0, 1, 0, 0, .null, []),
  (298, .iload_n 3, 1, 3, 0, .null, []),
  (299, .bipush 6, 2, 0, 0, .int 6, []),
  (301, .iadd, 1, 0, 0, .null, []),
  (302, .iaload, 1, 0, 0, .null, []),
  (303, .invokevirtual 18, 3, 24, 7, .null, []),
  (306, .aload_n 2, 1, 2, 0, .null, []),
  (307, .aload_n 0, 1, 0, 0, .null, []),
  (308, .iload_n 3, 1, 3, 0, .null, []),
  (309, .iconst 1, 1, 0, 0, .int 1, []),
  (310, .iadd, 1, 0, 0, .null, []),
  (311, .iaload, 1, 0, 0, .null, []),
  (312, .aload_n 0, 1, 0, 0, .null, []),
  (313, .iload_n 3, 1, 3, 0, .null, []),
  (314, .iconst 2, 1, 0, 0, .int 2, []),
  (315, .iadd, 1, 0, 0, .null, []),
  (316, .iaload, 1, 0, 0, .null, []),
  (317, .ifCond .eq 7, 3, 324, 0, .null, []),
  (320, .iconst 1, 1, 0, 0, .int 1, []),
  (321, .goto 4, 3, 325, 0, .null, []),
  (324, .iconst 0, 1, 0, 0, .int 0, []),
  (325, .aload_n 0, 1, 0, 0, .null, []),
  (326, .iload_n 3, 1, 3, 0, .null, []),
  (327, .iconst 3, 1, 0, 0, .int 3, []),
  (328, .iadd, 1, 0, 0, .null, []),
  (329, .iaload, 1, 0, 0, .null, []),
  (330, .aload_n 0, 1, 0, 0, .null, []),
  (331, .iload_n 3, 1, 3, 0, .null, []),
  (332, .iconst 4, 1, 0, 0, .int 4, []),
  (333, .iadd, 1, 0, 0, .null, []),
  (334, .iaload, 1, 0, 0, .null, []),
  (335, .aload_n 0, 1, 0, 0, .null, []),
  (336, .iload_n 3, 1, 3, 0, .null, []),
  (337, .iconst 5, 1, 0, 0, .int 5, []),
  (338, .iadd, 1, 0, 0, .null, []),
  (339, .iaload, 1, 0, 0, .null, []),
  (340, .ifCond .eq 7, 3, 347, 0, .null, []),
  (343, .iconst 1, 1, 0, 0, .int 1, []),
  (344, .goto 4, 3, 348, 0, .null, []),
  (347, .iconst 0, 1, 0, 0, .int 0, []),
  (348, .aload_n 0, 1, 0, 0, .null, []),
  (349, .iload_n 3, 1, 3, 0, .null, []),
  (350, .bipush 6, 2, 0, 0, .int 6, []),
  (352, .iadd, 1, 0, 0, .null, []),
  (353, .iaload, 1, 0, 0, .null, []),
  (354, .invokevirtual 22, 3, 149, 7, .null, []),
  (357, .if_icmp .eq 961, 3, 1318, 0, .null, []),
  (360, .iconst 0, 1, 0, 0, .int 0, []),
  (361, .ireturn, 1, 0, 0, .null, []),
  (362, .aload_n 1, 1, 1, 0, .null, []),
  (363, .aload_n 0, 1, 0, 0, .null, []),
  (364, .iload_n 3, 1, 3, 0, .null, []),
  (365, .iconst 1, 1, 0, 0, .int 1, []),
  (366, .iadd, 1, 0, 0, .null, []),
  (367, .iaload, 1, 0, 0, .null, []),
  (368, .aload_n 0, 1, 0, 0, .null, []),
  (369, .iload_n 3, 1, 3, 0, .null, []),
  (370, .iconst 2, 1, 0, 0, .int 2, []),
  (371, .iadd, 1, 0, 0, .null, []),
  (372, .iaload, 1, 0, 0, .null, []),
  (373, .invokevirtual 23, 3, 28, 3, .null, []),
  (376, .aload_n 2, 1, 2, 0, .null, []),
  (377, .aload_n 0, 1, 0, 0, .null, []),
  (378, .iload_n 3, 1, 3, 0, .null, []),
  (379, .iconst 1, 1, 0, 0, .int 1, []),
  (380, .iadd, 1, 0, 0, .null, []),
  (381, .iaload, 1, 0, 0, .null, []),
  (382, .aload_n 0, 1, 0, 0, .null, []),
  (383, .iload_n 3, 1, 3, 0, .null, []),
  (384, .iconst 2, 1, 0, 0, .int 2, []),
  (385, .iadd, 1, 0, 0, .null, []),
  (386, .iaload, 1, 0, 0, .null, []),
  (387, .invokevirtual 27, 3, 150, 3, .null, []),
  (390, .if_icmp .eq 928, 3, 1318, 0, .null, []),
  (393, .iconst 0, 1, 0, 0, .int 0, []),
  (394, .ireturn, 1, 0, 0, .null, []),
  (395, .aload_n 1, 1, 1, 0, .null, []),
  (396, .aload_n 0, 1, 0, 0, .null, []),
  (397, .iload_n 3, 1, 3, 0, .null, []),
  (398, .iconst 1, 1, 0, 0, .int 1, []),
  (399, .iadd, 1, 0, 0, .null, []),
  (400, .iaload, 1, 0, 0, .null, []),
  (401, .invokevirtual 28, 3, 29, 2, .null, []),
  (404, .aload_n 2, 1, 2, 0, .null, []),
  (405, .aload_n 0, 1, 0, 0, .null, []),
  (406, .iload_n 3, 1, 3, 0, .null, []),
  (407, .iconst 1, 1, 0, 0, .int 1, []),
  (408, .iadd, 1, 0, 0, .null, []),
  (409, .iaload, 1, 0, 0, .null, []),
  (410, .invokevirtual 32, 3, 153, 2, .null, []),
  (413, .if_icmp .eq 905, 3, 1318, 0, .null, []),
  (416, .iconst 0, 1, 0, 0, .int 0, []),
  (417, .ireturn, 1, 0, 0, .null, []),
  (418, .aload_n 1, 1, 1, 0, .null, []),
  (419, .aload_n 0, 1, 0, 0, .null, []),
  (420, .iload_n 3, 1, 3, 0, .null, []),
  (421, .iconst 1, 1, 0, 0, .int 1, []),
  (422, .iadd, 1, 0, 0, .null, []),
  (423, .iaload, 1, 0, 0, .null, []),
  (424, .i2l, 1, 0, 0, .null, []),
  (425, .bipush 32, 2, 0, 0, .int 32, []),
  (427, .lshl, 1, 0, 0, .null, []),
  (428, .aload_n 0, 1, 0, 0, .null, []),
  (429, .iload_n 3, 1, 3, 0, .null, []),
  (430, .iconst 2, 1, 0, 0, .int 2, []),
  (431, .iadd, 1, 0, 0, .null, []),
  (432, .iaload, 1, 0, 0, .null, []),
  (433, .i2l, 1, 0, 0, .null, []),
  (434, .ldc2_w 33, 3, 0, 0, .long 4294967295, []),
  (437, .land, 1, 0, 0, .null, []),
  (438, .lor, 1, 0, 0, .null, []),
  (439, .aload_n 0, 1, 0, 0, .null, []),
  (440, .iload_n 3, 1, 3, 0, .null, []),
  (441, .iconst 3, 1, 0, 0, .int 3, []),
  (442, .iadd, 1, 0, 0, .null, []),
  (443, .iaload, 1, 0, 0, .null, []),
  (444, .invokevirtual 35, 3, 30, 3, .null, []),
  (447, .aload_n 2, 1, 2, 0, .null, []),
  (448, .aload_n 0, 1, 0, 0, .null, []),
  (449, .iload_n 3, 1, 3, 0, .null, []),
  (450, .iconst 1, 1, 0, 0, .int 1, []),
  (451, .iadd, 1, 0, 0, .null, []),
  (452, .iaload, 1, 0, 0, .null, []),
  (453, .i2l, 1, 0, 0, .null, []),
  (454, .bipush 32, 2, 0, 0, .int 32, []),
  (456, .lshl, 1, 0, 0, .null, []),
  (457, .aload_n 0, 1, 0, 0, .null, []),
  (458, .iload_n 3, 1, 3, 0, .null, []),
  (459, .iconst 2, 1, 0, 0, .int 2, []),
  (460, .iadd, 1, 0, 0, .null, []),
  (461, .iaload, 1, 0, 0, .null, []),
  (462, .i2l, 1, 0, 0, .null, []),
  (463, .ldc2_w 33, 3, 0, 0, .long 4294967295, []),
  (466, .land, 1, 0, 0, .null, []),
  (467, .lor, 1, 0, 0, .null, []),
  (468, .aload_n 0, 1, 0, 0, .null, []),
  (469, .iload_n 3, 1, 3, 0, .null, []),
  (470, .iconst 3, 1, 0, 0, .int 3, []),
  (471, .iadd, 1, 0, 0, .null, []),
  (472, .iaload, 1, 0, 0, .null, []),
  (473, .invokevirtual 39, 3, 154, 3, .null, []),
  (476, .if_icmp .eq 842, 3, 1318, 0, .null, []),
  (479, .iconst 0, 1, 0, 0, .int 0, []),
  (480, .ireturn, 1, 0, 0, .null, []),
  (481, .aload_n 1, 1, 1, 0, .null, []),
  (482, .aload_n 0, 1, 0, 0, .null, []),
  (483, .iload_n 3, 1, 3, 0, .null, []),
  (484, .iconst 1, 1, 0, 0, .int 1, []),
  (485, .iadd, 1, 0, 0, .null, []),
  (486, .iaload, 1, 0, 0, .null, []),
  (487, .invokevirtual 40, 3, 33, 2, .null, []),
  (490, .aload_n 2, 1, 2, 0, .null, []),
  (491, .aload_n 0, 1, 0, 0, .null, []),
  (492, .iload_n 3, 1, 3, 0, .null, []),
  (493, .iconst 1, 1, 0, 0, .int 1, []),
  (494, .iadd, 1, 0, 0, .null, []),
  (495, .iaload, 1, 0, 0, .null, []),
  (496, .invokevirtual 43, 3, 155, 2, .null, []),
  (499, .if_icmp .eq 819, 3, 1318, 0, .null, []),
  (502, .iconst 0, 1, 0, 0, .int 0, []),
  (503, .ireturn, 1, 0, 0, .null, []),
  (504, .aload_n 1, 1, 1, 0, .null, []),
  (505, .aload_n 0, 1, 0, 0, .null, []),
  (506, .iload_n 3, 1, 3, 0, .null, []),
  (507, .iconst 1, 1, 0, 0, .int 1, []),
  (508, .iadd, 1, 0, 0, .null, []),
  (509, .iaload, 1, 0, 0, .null, []),
  (510, .aload_n 0, 1, 0, 0, .null, []),
  (511, .iload_n 3, 1, 3, 0, .null, []),
  (512, .iconst 2, 1, 0, 0, .int 2, []),
  (513, .iadd, 1, 0, 0, .null, []),
  (514, .iaload, 1, 0, 0, .null, []),
  (515, .invokevirtual 44, 3, 57, 3, .null, []),
  (518, .aload_n 2, 1, 2, 0, .null, []),
  (519, .aload_n 0, 1, 0, 0, .null, []),
  (520, .iload_n 3, 1, 3, 0, .null, []),
  (521, .iconst 1, 1, 0, 0, .int 1, []),
  (522, .iadd, 1, 0, 0, .null, []),
  (523, .iaload, 1, 0, 0, .null, []),
  (524, .aload_n 0, 1, 0, 0, .null, []),
  (525, .iload_n 3, 1, 3, 0, .null, []),
  (526, .iconst 2, 1, 0, 0, .int 2, []),
  (527, .iadd, 1, 0, 0, .null, []),
  (528, .iaload, 1, 0, 0, .null, []),
  (529, .invokevirtual 47, 3, 167, 3, .null, []),
  (532, .if_icmp .eq 786, 3, 1318, 0, .null, []),
  (535, .iconst 0, 1, 0, 0, .int 0, []),
  (536, .ireturn, 1, 0, 0, .null, []),
  (537, .aload_n 1, 1, 1, 0, .null, []),
  (538, .aload_n 0, 1, 0, 0, .null, []),
  (539, .iload_n 3, 1, 3, 0, .null, []),
  (540, .iconst 1, 1, 0, 0, .int 1, []),
  (541, .iadd, 1, 0, 0, .null, []),
  (542, .iaload, 1, 0, 0, .null, []),
  (543, .aload_n 0, 1, 0, 0, .null, []),
  (544, .iload_n 3, 1, 3, 0, .null, []),
  (545, .iconst 2, 1, 0, 0, .int 2, []),
  (546, .iadd, 1, 0, 0, .null, []),
  (547, .iaload, 1, 0, 0, .null, []),
  (548, .aload_n 0, 1, 0, 0, .null, []),
  (549, .iload_n 3, 1, 3, 0, .null, []),
  (550, .iconst 3, 1, 0, 0, .int 3, []),
  (551, .iadd, 1, 0, 0, .null, []),
  (552, .iaload, 1, 0, 0, .null, []),
  (553, .ifCond .eq 7, 3, 560, 0, .null, []),
  (556, .iconst 1, 1, 0, 0, .int 1, []),
  (557, .goto 4, 3, 561, 0, .null, []),
  (560, .iconst 0, 1, 0, 0, .int 0, []),
  (561, .invokevirtual 48, 3, 59, 4, .null, []),
  (564, .aload_n 2, 1, 2, 0, .null, []),
  (565, .aload_n 0, 1, 0, 0, .null, []),
  (566, .iload_n 3, 1, 3, 0, .null, []),
  (567, .iconst 1, 1, 0, 0, .int 1, []),
  (568, .iadd, 1, 0, 0, .null, []),
  (569, .iaload, 1, 0, 0, .null, []),
  (570, .aload_n 0, 1, 0, 0, .null, []),
  (571, .iload_n 3, 1, 3, 0, .null, []),
  (572, .iconst 2, 1, 0, 0, .int 2, []),
  (573, .iadd, 1, 0, 0, .null, []),
  (574, .iaload, 1, 0, 0, .null, []),
  (575, .aload_n 0, 1, 0, 0, .null, []),
  (576, .iload_n 3, 1, 3, 0, .null, []),
  (577, .iconst 3, 1, 0, 0, .int 3, []),
  (578, .iadd, 1, 0, 0, .null, []),
  (579, .iaload, 1, 0, 0, .null, []),
  (580, .ifCond .eq 7, 3, 587, 0, .null, []),
  (583, .iconst 1, 1, 0, 0, .int 1, []),
  (584, .goto 4, 3, 588, 0, .null, []),
  (587, .iconst 0, 1, 0, 0, .int 0, []),
  (588, .invokevirtual 52, 3, 169, 4, .null, []),
  (591, .if_icmp .eq 727, 3, 1318, 0, .null, []),
  (594, .iconst 0, 1, 0, 0, .int 0, []),
  (595, .ireturn, 1, 0, 0, .null, []),
  (596, .aload_n 1, 1, 1, 0, .null, []),
  (597, .aload_n 0, 1, 0, 0, .null, []),
  (598, .iload_n 3, 1, 3, 0, .null, []),
  (599, .iconst 1, 1, 0, 0, .int 1, []),
  (600, .iadd, 1, 0, 0, .null, []),
  (601, .iaload, 1, 0, 0, .null, []),
  (602, .aload_n 0, 1, 0, 0, .null, []),
  (603, .iload_n 3, 1, 3, 0, .null, []),
  (604, .iconst 2, 1, 0, 0, .int 2, []),
  (605, .iadd, 1, 0, 0, .null, []),
  (606, .iaload, 1, 0, 0, .null, []),
  (607, .invokevirtual 53, 3, 63, 3, .null, []),
  (610, .aload_n 2, 1, 2, 0, .null, []),
  (611, .aload_n 0, 1, 0, 0, .null, []),
  (612, .iload_n 3, 1, 3, 0, .null, []),
  (613, .iconst 1, 1, 0, 0, .int 1, []),
  (614, .iadd, 1, 0, 0, .null, []),
  (615, .iaload, 1, 0, 0, .null, []),
  (616, .aload_n 0, 1, 0, 0, .null, []),
  (617, .iload_n 3, 1, 3, 0, .null, []),
  (618, .iconst 2, 1, 0, 0, .int 2, []),
  (619, .iadd, 1, 0, 0, .null, []),
  (620, .iaload, 1, 0, 0, .null, []),
  (621, .invokevirtual 56, 3, 188, 3, .null, []),
  (624, .if_icmp .eq 694, 3, 1318, 0, .null, []),
  (627, .iconst 0, 1, 0, 0, .int 0, []),
  (628, .ireturn, 1, 0, 0, .null, []),
  (629, .aload_n 1, 1, 1, 0, .null, []),
  (630, .aload_n 0, 1, 0, 0, .null, []),
  (631, .iload_n 3, 1, 3, 0, .null, []),
  (632, .iconst 1, 1, 0, 0, .int 1, []),
  (633, .iadd, 1, 0, 0, .null, []),
  (634, .iaload, 1, 0, 0, .null, []),
  (635, .aload_n 0, 1, 0, 0, .null, []),
  (636, .iload_n 3, 1, 3, 0, .null, []),
  (637, .iconst 2, 1, 0, 0, .int 2, []),
  (638, .iadd, 1, 0, 0, .null, []),
  (639, .iaload, 1, 0, 0, .null, []),
  (640, .aload_n 0, 1, 0, 0, .null, []),
  (641, .iload_n 3, 1, 3, 0, .null, []),
  (642, .iconst 3, 1, 0, 0, .int 3, []),
  (643, .iadd, 1, 0, 0, .null, []),
  (644, .iaload, 1, 0, 0, .null, []),
  (645, .invokevirtual 57, 3, 71, 4, .null, []),
  (648, .aload_n 2, 1, 2, 0, .null, []),
  (649, .aload_n 0, 1, 0, 0, .null, []),
  (650, .iload_n 3, 1, 3, 0, .null, []),
  (651, .iconst 1, 1, 0, 0, .int 1, []),
  (652, .iadd, 1, 0, 0, .null, []),
  (653, .iaload, 1, 0, 0, .null, []),
  (654, .aload_n 0, 1, 0, 0, .null, []),
  (655, .iload_n 3, 1, 3, 0, .null, []),
  (656, .iconst 2, 1, 0, 0, .int 2, []),
  (657, .iadd, 1, 0, 0, .null, []),
  (658, .iaload, 1, 0, 0, .null, []),
  (659, .aload_n 0, 1, 0, 0, .null, []),
  (660, .iload_n 3, 1, 3, 0, .null, []),
  (661, .iconst 3, 1, 0, 0, .int 3, []),
  (662, .iadd, 1, 0, 0, .null, []),
  (663, .iaload, 1, 0, 0, .null, []),
  (664, .invokevirtual 61, 3, 171, 4, .null, []),
  (667, .if_icmp .eq 651, 3, 1318, 0, .null, []),
  (670, .iconst 0, 1, 0, 0, .int 0, []),
  (671, .ireturn, 1, 0, 0, .null, []),
  (672, .aload_n 1, 1, 1, 0, .null, []),
  (673, .aload_n 0, 1, 0, 0, .null, []),
  (674, .iload_n 3, 1, 3, 0, .null, []),
  (675, .iconst 1, 1, 0, 0, .int 1, []),
  (676, .iadd, 1, 0, 0, .null, []),
  (677, .iaload, 1, 0, 0, .null, []),
  (678, .aload_n 0, 1, 0, 0, .null, []),
  (679, .iload_n 3, 1, 3, 0, .null, []),
  (680, .iconst 2, 1, 0, 0, .int 2, []),
  (681, .iadd, 1, 0, 0, .null, []),
  (682, .iaload, 1, 0, 0, .null, []),
  (683, .aload_n 0, 1, 0, 0, .null, []),
  (684, .iload_n 3, 1, 3, 0, .null, []),
  (685, .iconst 3, 1, 0, 0, .int 3, []),
  (686, .iadd, 1, 0, 0, .null, []),
  (687, .iaload, 1, 0, 0, .null, []),
  (688, .invokevirtual 62, 3, 76, 4, .null, []),
  (691, .aload_n 2, 1, 2, 0, .null, []),
  (692, .aload_n 0, 1, 0, 0, .null, []),
  (693, .iload_n 3, 1, 3, 0, .null, []),
  (694, .iconst 1, 1, 0, 0, .int 1, []),
  (695, .iadd, 1, 0, 0, .null, []),
  (696, .iaload, 1, 0, 0, .null, []),
  (697, .aload_n 0, 1, 0, 0, .null, []),
  (698, .iload_n 3, 1, 3, 0, .null, []),
  (699, .iconst 2, 1, 0, 0, .int 2, []),
  (700, .iadd, 1, 0, 0, .null, []),
  (701, .iaload, 1, 0, 0, .null, []),
  (702, .aload_n 0, 1, 0, 0, .null, []),
  (703, .iload_n 3, 1, 3, 0, .null, []),
  (704, .iconst 3, 1, 0, 0, .int 3, []),
  (705, .iadd, 1, 0, 0, .null, []),
  (706, .iaload, 1, 0, 0, .null, []),
  (707, .invokevirtual 65, 3, 182, 4, .null, []),
  (710, .if_icmp .eq 608, 3, 1318, 0, .null, []),
  (713, .iconst 0, 1, 0, 0, .int 0, []),
  (714, .ireturn, 1, 0, 0, .null, []),
  (715, .aload_n 1, 1, 1, 0, .null, []),
  (716, .aload_n 0, 1, 0, 0, .null, []),
  (717, .iload_n 3, 1, 3, 0, .null, []),
  (718, .iconst 1, 1, 0, 0, .int 1, []),
  (719, .iadd, 1, 0, 0, .null, []),
  (720, .iaload, 1, 0, 0, .null, []),
  (721, .aload_n 0, 1, 0, 0, .null, []),
  (722, .iload_n 3, 1, 3, 0, .null, []),
  (723, .iconst 2, 1, 0, 0, .int 2, []),
  (724, .iadd, 1, 0, 0, .null, []),
  (725, .iaload, 1, 0, 0, .null, []),
  (726, .invokevirtual 66, 3, 79, 3, .null, []),
  (729, .aload_n 2, 1, 2, 0, .null, []),
  (730, .aload_n 0, 1, 0, 0, .null, []),
  (731, .iload_n 3, 1, 3, 0, .null, []),
  (732, .iconst 1, 1, 0, 0, .int 1, []),
  (733, .iadd, 1, 0, 0, .null, []),
  (734, .iaload, 1, 0, 0, .null, []),
  (735, .aload_n 0, 1, 0, 0, .null, []),
  (736, .iload_n 3, 1, 3, 0, .null, []),
  (737, .iconst 2, 1, 0, 0, .int 2, []),
  (738, .iadd, 1, 0, 0, .null, []),
  (739, .iaload, 1, 0, 0, .null, []),
  (740, .invokevirtual 69, 3, 184, 3, .null, []),
  (743, .if_icmp .eq 575, 3, 1318, 0, .null, []),
  (746, .iconst 0, 1, 0, 0, .int 0, []),
  (747, .ireturn, 1, 0, 0, .null, []),
  (748, .aload_n 1, 1, 1, 0, .null, []),
  (749, .aload_n 0, 1, 0, 0, .null, []),
  (750, .iload_n 3, 1, 3, 0, .null, []),
  (751, .iconst 1, 1, 0, 0, .int 1, []),
  (752, .iadd, 1, 0, 0, .null, []),
  (753, .iaload, 1, 0, 0, .null, []),
  (754, .invokevirtual 70, 3, 80, 2, .null, []),
  (757, .aload_n 2, 1, 2, 0, .null, []),
  (758, .aload_n 0, 1, 0, 0, .null, []),
  (759, .iload_n 3, 1, 3, 0, .null, []),
  (760, .iconst 1, 1, 0, 0, .int 1, []),
  (761, .iadd, 1, 0, 0, .null, []),
  (762, .iaload, 1, 0, 0, .null, []),
  (763, .invokevirtual 73, 3, 186, 2, .null, []),
  (766, .if_icmp .eq 552, 3, 1318, 0, .null, []),
  (769, .iconst 0, 1, 0, 0, .int 0, []),
  (770, .ireturn, 1, 0, 0, .null, []),
  (771, .aload_n 1, 1, 1, 0, .null, []),
  (772, .aload_n 0, 1, 0, 0, .null, []),
  (773, .iload_n 3, 1, 3, 0, .null, []),
  (774, .iconst 1, 1, 0, 0, .int 1, []),
  (775, .iadd, 1, 0, 0, .null, []),
  (776, .iaload, 1, 0, 0, .null, []),
  (777, .aload_n 0, 1, 0, 0, .null, []),
  (778, .iload_n 3, 1, 3, 0, .null, []),
  (779, .iconst 2, 1, 0, 0, .int 2, []),
  (780, .iadd, 1, 0, 0, .null, []),
  (781, .iaload, 1, 0, 0, .null, []),
  (782, .invokevirtual 74, 3, 82, 3, .null, []),
  (785, .aload_n 2, 1, 2, 0, .null, []),
  (786, .aload_n 0, 1, 0, 0, .null, []),
  (787, .iload_n 3, 1, 3, 0, .null, []),
  (788, .iconst 1, 1, 0, 0, .int 1, []),
  (789, .iadd, 1, 0, 0, .null, []),
  (790, .iaload, 1, 0, 0, .null, []),
  (791, .aload_n 0, 1, 0, 0, .null, []),
  (792, .iload_n 3, 1, 3, 0, .null, []),
  (793, .iconst 2, 1, 0, 0, .int 2, []),
  (794, .iadd, 1, 0, 0, .null, []),
  (795, .iaload, 1, 0, 0, .null, []),
  (796, .invokevirtual 77, 3, 187, 3, .null, []),
  (799, .if_icmp .eq 519, 3, 1318, 0, .null, []),
  (802, .iconst 0, 1, 0, 0, .int 0, []),
  (803, .ireturn, 1, 0, 0, .null, []),
  (804, .aload_n 1, 1, 1, 0, .null, []),
  (805, .aload_n 0, 1, 0, 0, .null, []),
  (806, .iload_n 3, 1, 3, 0, .null, []),
  (807, .iconst 1, 1, 0, 0, .int 1, []),
  (808, .iadd, 1, 0, 0, .null, []),
  (809, .iaload, 1, 0, 0, .null, []),
  (810, .invokevirtual 78, 3, 83, 2, .null, []),
  (813, .aload_n 2, 1, 2, 0, .null, []),
  (814, .aload_n 0, 1, 0, 0, .null, []),
  (815, .iload_n 3, 1, 3, 0, .null, []),
  (816, .iconst 1, 1, 0, 0, .int 1, []),
  (817, .iadd, 1, 0, 0, .null, []),
  (818, .iaload, 1, 0, 0, .null, []),
  (819, .invokevirtual 81, 3, 190, 2, .null, []),
  (822, .if_icmp .eq 496, 3, 1318, 0, .null, []),
  (825, .iconst 0, 1, 0, 0, .int 0, []),
  (826, .ireturn, 1, 0, 0, .null, []),
  (827, .aload_n 1, 1, 1, 0, .null, []),
  (828, .aload_n 0, 1, 0, 0, .null, []),
  (829, .iload_n 3, 1, 3, 0, .null, []),
  (830, .iconst 1, 1, 0, 0, .int 1, []),
  (831, .iadd, 1, 0, 0, .null, []),
  (832, .iaload, 1, 0, 0, .null, []),
  (833, .aload_n 0, 1, 0, 0, .null, []),
  (834, .iload_n 3, 1, 3, 0, .null, []),
  (835, .iconst 2, 1, 0, 0, .int 2, []),
  (836, .iadd, 1, 0, 0, .null, []),
  (837, .iaload, 1, 0, 0, .null, []),
  (838, .invokevirtual 82, 3, 84, 3, .null, []),
  (841, .aload_n 2, 1, 2, 0, .null, []),
  (842, .aload_n 0, 1, 0, 0, .null, []),
  (843, .iload_n 3, 1, 3, 0, .null, []),
  (844, .iconst 1, 1, 0, 0, .int 1, []),
  (845, .iadd, 1, 0, 0, .null, []),
  (846, .iaload, 1, 0, 0, .null, []),
  (847, .aload_n 0, 1, 0, 0, .null, []),
  (848, .iload_n 3, 1, 3, 0, .null, []),
  (849, .iconst 2, 1, 0, 0, .int 2, []),
  (850, .iadd, 1, 0, 0, .null, []),
  (851, .iaload, 1, 0, 0, .null, []),
  (852, .invokevirtual 85, 3, 191, 3, .null, []),
  (855, .if_icmp .eq 463, 3, 1318, 0, .null, []),
  (858, .iconst 0, 1, 0, 0, .int 0, []),
  (859, .ireturn, 1, 0, 0, .null, []),
  (860, .aload_n 1, 1, 1, 0, .null, []),
  (861, .invokevirtual 86, 3, 85, 1, .null, []),
  (864, .aload_n 2, 1, 2, 0, .null, []),
  (865, .invokevirtual 90, 3, 192, 1, .null, []),
  (868, .if_icmp .eq 450, 3, 1318, 0, .null, []),
  (871, .iconst 0, 1, 0, 0, .int 0, []),
  (872, .ireturn, 1, 0, 0, .null, []),
  (873, .aload_n 1, 1, 1, 0, .null, []),
  (874, .aload_n 0, 1, 0, 0, .null, []),
  (875, .iload_n 3, 1, 3, 0, .null, []),
  (876, .iconst 1, 1, 0, 0, .int 1, []),
  (877, .iadd, 1, 0, 0, .null, []),
  (878, .iaload, 1, 0, 0, .null, []),
  (879, .invokevirtual 91, 3, 86, 2, .null, []),
  (882, .aload_n 2, 1, 2, 0, .null, []),
  (883, .aload_n 0, 1, 0, 0, .null, []),
  (884, .iload_n 3, 1, 3, 0, .null, []),
  (885, .iconst 1, 1, 0, 0, .int 1, []),
  (886, .iadd, 1, 0, 0, .null, []),
  (887, .iaload, 1, 0, 0, .null, []),
  (888, .invokevirtual 94, 3, 199, 2, .null, []),
  (891, .if_icmp .eq 427, 3, 1318, 0, .null, []),
  (894, .iconst 0, 1, 0, 0, .int 0, []),
  (895, .ireturn, 1, 0, 0, .null, []),
  (896, .aload_n 1, 1, 1, 0, .null, []),
  (897, .aload_n 0, 1, 0, 0, .null, []),
  (898, .iload_n 3, 1, 3, 0, .null, []),
  (899, .iconst 1, 1, 0, 0, .int 1, []),
  (900, .iadd, 1, 0, 0, .null, []),
  (901, .iaload, 1, 0, 0, .null, []),
  (902, .aload_n 0, 1, 0, 0, .null, []),
  (903, .iload_n 3, 1, 3, 0, .null, []),
  (904, .iconst 2, 1, 0, 0, .int 2, []),
  (905, .iadd, 1, 0, 0, .null, []),
  (906, .iaload, 1, 0, 0, .null, []),
  (907, .invokevirtual 95, 3, 106, 3, .null, []),
  (910, .aload_n 2, 1, 2, 0, .null, []),
  (911, .aload_n 0, 1, 0, 0, .null, []),
  (912, .iload_n 3, 1, 3, 0, .null, []),
  (913, .iconst 1, 1, 0, 0, .int 1, []),
  (914, .iadd, 1, 0, 0, .null, []),
  (915, .iaload, 1, 0, 0, .null, []),
  (916, .aload_n 0, 1, 0, 0, .null, []),
  (917, .iload_n 3, 1, 3, 0, .null, []),
  (918, .iconst 2, 1, 0, 0, .int 2, []),
  (919, .iadd, 1, 0, 0, .null, []),
  (920, .iaload, 1, 0, 0, .null, []),
  (921, .invokevirtual 98, 3, 193, 3, .null, []),
  (924, .if_icmp .eq 394, 3, 1318, 0, .null, []),
  (927, .iconst 0, 1, 0, 0, .int 0, []),
  (928, .ireturn, 1, 0, 0, .null, []),
  (929, .aload_n 1, 1, 1, 0, .null, []),
  (930, .invokevirtual 99, 3, 107, 1, .null, []),
  (933, .aload_n 2, 1, 2, 0, .null, []),
  (934, .invokevirtual 102, 3, 201, 1, .null, []),
  (937, .if_icmp .eq 381, 3, 1318, 0, .null, []),
  (940, .iconst 0, 1, 0, 0, .int 0, []),
  (941, .ireturn, 1, 0, 0, .null, []),
  (942, .aload_n 1, 1, 1, 0, .null, []),
  (943, .aload_n 0, 1, 0, 0, .null, []),
  (944, .iload_n 3, 1, 3, 0, .null, []),
  (945, .iconst 1, 1, 0, 0, .int 1, []),
  (946, .iadd, 1, 0, 0, .null, []),
  (947, .iaload, 1, 0, 0, .null, []),
  (948, .aload_n 0, 1, 0, 0, .null, []),
  (949, .iload_n 3, 1, 3, 0, .null, []),
  (950, .iconst 2, 1, 0, 0, .int 2, []),
  (951, .iadd, 1, 0, 0, .null, []),
  (952, .iaload, 1, 0, 0, .null, []),
  (953, .invokevirtual 103, 3, 111, 3, .null, []),
  (956, .aload_n 2, 1, 2, 0, .null, []),
  (957, .aload_n 0, 1, 0, 0, .null, []),
  (958, .iload_n 3, 1, 3, 0, .null, []),
  (959, .iconst 1, 1, 0, 0, .int 1, []),
  (960, .iadd, 1, 0, 0, .null, []),
  (961, .iaload, 1, 0, 0, .null, []),
  (962, .aload_n 0, 1, 0, 0, .null, []),
  (963, .iload_n 3, 1, 3, 0, .null, []),
  (964, .iconst 2, 1, 0, 0, .int 2, []),
  (965, .iadd, 1, 0, 0, .null, []),
  (966, .iaload, 1, 0, 0, .null, []),
  (967, .invokevirtual 106, 3, 204, 3, .null, []),
  (970, .if_icmp .eq 348, 3, 1318, 0, .null, []),
  (973, .iconst 0, 1, 0, 0, .int 0, []),
  (974, .ireturn, 1, 0, 0, .null, []),
  (975, .aload_n 1, 1, 1, 0, .null, []),
  (976, .aload_n 0, 1, 0, 0, .null, []),
  (977, .iload_n 3, 1, 3, 0, .null, []),
  (978, .iconst 1, 1, 0, 0, .int 1, []),
  (979, .iadd, 1, 0, 0, .null, []),
  (980, .iaload, 1, 0, 0, .null, []),
  (981, .aload_n 0, 1, 0, 0, .null, []),
  (982, .iload_n 3, 1, 3, 0, .null, []),
  (983, .iconst 2, 1, 0, 0, .int 2, []),
  (984, .iadd, 1, 0, 0, .null, []),
  (985, .iaload, 1, 0, 0, .null, []),
  (986, .aload_n 0, 1, 0, 0, .null, []),
  (987, .iload_n 3, 1, 3, 0, .null, []),
  (988, .iconst 3, 1, 0, 0, .int 3, []),
  (989, .iadd, 1, 0, 0, .null, []),
  (990, .iaload, 1, 0, 0, .null, []),
  (991, .invokevirtual 107, 3, 112, 4, .null, []),
  (994, .aload_n 2, 1, 2, 0, .null, []),
  (995, .aload_n 0, 1, 0, 0, .null, []),
  (996, .iload_n 3, 1, 3, 0, .null, []),
  (997, .iconst 1, 1, 0, 0, .int 1, []),
  (998, .iadd, 1, 0, 0, .null, []),
  (999, .iaload, 1, 0, 0, .null, []),
  (1000, .aload_n 0, 1, 0, 0, .null, []),
  (1001, .iload_n 3, 1, 3, 0, .null, []),
  (1002, .iconst 2, 1, 0, 0, .int 2, []),
  (1003, .iadd, 1, 0, 0, .null, []),
  (1004, .iaload, 1, 0, 0, .null, []),
  (1005, .aload_n 0, 1, 0, 0, .null, []),
  (1006, .iload_n 3, 1, 3, 0, .null, []),
  (1007, .iconst 3, 1, 0, 0, .int 3, []),
  (1008, .iadd, 1, 0, 0, .null, []),
  (1009, .iaload, 1, 0, 0, .null, []),
  (1010, .invokevirtual 110, 3, 205, 4, .null, []),
  (1013, .if_icmp .eq 305, 3, 1318, 0, .null, []),
  (1016, .iconst 0, 1, 0, 0, .int 0, []),
  (1017, .ireturn, 1, 0, 0, .null, []),
  (1018, .aload_n 1, 1, 1, 0, .null, []),
  (1019, .invokevirtual 111, 3, 113, 1, .null, []),
  (1022, .aload_n 2, 1, 2, 0, .null, []),
  (1023, .invokevirtual 114, 3, 206, 1, .null, []),
  (1026, .if_icmp .eq 292, 3, 1318, 0, .null, []),
  (1029, .iconst 0, 1, 0, 0, .int 0, []),
  (1030, .ireturn, 1, 0, 0, .null, []),
  (1031, .aload_n 1, 1, 1, 0, .null, []),
  (1032, .aload_n 0, 1, 0, 0, .null, []),
  (1033, .iload_n 3, 1, 3, 0, .null, []),
  (1034, .iconst 1, 1, 0, 0, .int 1, []),
  (1035, .iadd, 1, 0, 0, .null, []),
  (1036, .iaload, 1, 0, 0, .null, []),
  (1037, .aload_n 0, 1, 0, 0, .null, []),
  (1038, .iload_n 3, 1, 3, 0, .null, []),
  (1039, .iconst 2, 1, 0, 0, .int 2, []),
  (1040, .iadd, 1, 0, 0, .null, []),
  (1041, .iaload, 1, 0, 0, .null, []),
  (1042, .aload_n 0, 1, 0, 0, .null, []),
  (1043, .iload_n 3, 1, 3, 0, .null, []),
  (1044, .iconst 3, 1, 0, 0, .int 3, []),
  (1045, .iadd, 1, 0, 0, .null, []),
  (1046, .iaload, 1, 0, 0, .null, []),
  (1047, .aload_n 0, 1, 0, 0, .null, []),
  (1048, .iload_n 3, 1, 3, 0, .null, []),
  (1049, .iconst 4, 1, 0, 0, .int 4, []),
  (1050, .iadd, 1, 0, 0, .null, []),
  (1051, .iaload, 1, 0, 0, .null, []),
  (1052, .invokevirtual 115, 3, 116, 5, .null, []),
  (1055, .aload_n 2, 1, 2, 0, .null, []),
  (1056, .aload_n 0, 1, 0, 0, .null, []),
  (1057, .iload_n 3, 1, 3, 0, .null, []),
  (1058, .iconst 1, 1, 0, 0, .int 1, []),
  (1059, .iadd, 1, 0, 0, .null, []),
  (1060, .iaload, 1, 0, 0, .null, []),
  (1061, .aload_n 0, 1, 0, 0, .null, []),
  (1062, .iload_n 3, 1, 3, 0, .null, []),
  (1063, .iconst 2, 1, 0, 0, .int 2, []),
  (1064, .iadd, 1, 0, 0, .null, []),
  (1065, .iaload, 1, 0, 0, .null, []),
  (1066, .aload_n 0, 1, 0, 0, .null, []),
  (1067, .iload_n 3, 1, 3, 0, .null, []),
  (1068, .iconst 3, 1, 0, 0, .int 3, []),
  (1069, .iadd, 1, 0, 0, .null, []),
  (1070, .iaload, 1, 0, 0, .null, []),
  (1071, .aload_n 0, 1, 0, 0, .null, []),
  (1072, .iload_n 3, 1, 3, 0, .null, []),
  (1073, .iconst 4, 1, 0, 0, .int 4, []),
  (1074, .iadd, 1, 0, 0, .null, []),
  (1075, .iaload, 1, 0, 0, .null, []),
  (1076, .invokevirtual 119, 3, 211, 5, .null, []),
  (1079, .if_icmp .eq 239, 3, 1318, 0, .null, []),
  (1082, .iconst 0, 1, 0, 0, .int 0, []),
  (1083, .ireturn, 1, 0, 0, .null, []),
  (1084, .aload_n 1, 1, 1, 0, .null, []),
  (1085, .aload_n 0, 1, 0, 0, .null, []),
  (1086, .iload_n 3, 1, 3, 0, .null, []),
  (1087, .iconst 1, 1, 0, 0, .int 1, []),
  (1088, .iadd, 1, 0, 0, .null, []),
  (1089, .iaload, 1, 0, 0, .null, []),
  (1090, .aload_n 0, 1, 0, 0, .null, []),
  (1091, .iload_n 3, 1, 3, 0, .null, []),
  (1092, .iconst 2, 1, 0, 0, .int 2, []),
  (1093, .iadd, 1, 0, 0, .null, []),
  (1094, .iaload, 1, 0, 0, .null, []),
  (1095, .invokevirtual 120, 3, 118, 3, .null, []),
  (1098, .aload_n 2, 1, 2, 0, .null, []),
  (1099, .aload_n 0, 1, 0, 0, .null, []),
  (1100, .iload_n 3, 1, 3, 0, .null, []),
  (1101, .iconst 1, 1, 0, 0, .int 1, []),
  (1102, .iadd, 1, 0, 0, .null, []),
  (1103, .iaload, 1, 0, 0, .null, []),
  (1104, .aload_n 0, 1, 0, 0, .null, []),
  (1105, .iload_n 3, 1, 3, 0, .null, []),
  (1106, .iconst 2, 1, 0, 0, .int 2, []),
  (1107, .iadd, 1, 0, 0, .null, []),
  (1108, .iaload, 1, 0, 0, .null, []),
  (1109, .invokevirtual 123, 3, 207, 3, .null, []),
  (1112, .if_icmp .eq 206, 3, 1318, 0, .null, []),
  (1115, .iconst 0, 1, 0, 0, .int 0, []),
  (1116, .ireturn, 1, 0, 0, .null, []),
  (1117, .aload_n 1, 1, 1, 0, .null, []),
  (1118, .aload_n 0, 1, 0, 0, .null, []),
  (1119, .iload_n 3, 1, 3, 0, .null, []),
  (1120, .iconst 1, 1, 0, 0, .int 1, []),
  (1121, .iadd, 1, 0, 0, .null, []),
  (1122, .iaload, 1, 0, 0, .null, []),
  (1123, .aload_n 0, 1, 0, 0, .null, []),
  (1124, .iload_n 3, 1, 3, 0, .null, []),
  (1125, .iconst 2, 1, 0, 0, .int 2, []),
  (1126, .iadd, 1, 0, 0, .null, []),
  (1127, .iaload, 1, 0, 0, .null, []),
  (1128, .invokevirtual 124, 3, 120, 3, .null, []),
  (1131, .aload_n 2, 1, 2, 0, .null, []),
  (1132, .aload_n 0, 1, 0, 0, .null, []),
  (1133, .iload_n 3, 1, 3, 0, .null, []),
  (1134, .iconst 1, 1, 0, 0, .int 1, []),
  (1135, .iadd, 1, 0, 0, .null, []),
  (1136, .iaload, 1, 0, 0, .null, []),
  (1137, .aload_n 0, 1, 0, 0, .null, []),
  (1138, .iload_n 3, 1, 3, 0, .null, []),
  (1139, .iconst 2, 1, 0, 0, .int 2, []),
  (1140, .iadd, 1, 0, 0, .null, []),
  (1141, .iaload, 1, 0, 0, .null, []),
  (1142, .invokevirtual 127, 3, 210, 3, .null, []),
  (1145, .if_icmp .eq 173, 3, 1318, 0, .null, []),
  (1148, .iconst 0, 1, 0, 0, .int 0, []),
  (1149, .ireturn, 1, 0, 0, .null, []),
  (1150, .aload_n 1, 1, 1, 0, .null, []),
  (1151, .aload_n 0, 1, 0, 0, .null, []),
  (1152, .iload_n 3, 1, 3, 0, .null, []),
  (1153, .iconst 1, 1, 0, 0, .int 1, []),
  (1154, .iadd, 1, 0, 0, .null, []),
  (1155, .iaload, 1, 0, 0, .null, []),
  (1156, .aload_n 0, 1, 0, 0, .null, []),
  (1157, .iload_n 3, 1, 3, 0, .null, []),
  (1158, .iconst 2, 1, 0, 0, .int 2, []),
  (1159, .iadd, 1, 0, 0, .null, []),
  (1160, .iaload, 1, 0, 0, .null, []),
  (1161, .aload_n 0, 1, 0, 0, .null, []),
  (1162, .iload_n 3, 1, 3, 0, .null, []),
  (1163, .iconst 3, 1, 0, 0, .int 3, []),
  (1164, .iadd, 1, 0, 0, .null, []),
  (1165, .iaload, 1, 0, 0, .null, []),
  (1166, .invokevirtual 128, 3, 122, 4, .null, []),
  (1169, .aload_n 2, 1, 2, 0, .null, []),
  (1170, .aload_n 0, 1, 0, 0, .null, []),
  (1171, .iload_n 3, 1, 3, 0, .null, []),
  (1172, .iconst 1, 1, 0, 0, .int 1, []),
  (1173, .iadd, 1, 0, 0, .null, []),
  (1174, .iaload, 1, 0, 0, .null, []),
  (1175, .aload_n 0, 1, 0, 0, .null, []),
  (1176, .iload_n 3, 1, 3, 0, .null, []),
  (1177, .iconst 2, 1, 0, 0, .int 2, []),
  (1178, .iadd, 1, 0, 0, .null, []),
  (1179, .iaload, 1, 0, 0, .null, []),
  (1180, .aload_n 0, 1, 0, 0, .null, []),
  (1181, .iload_n 3, 1, 3, 0, .null, []),
  (1182, .iconst 3, 1, 0, 0, .int 3, []),
  (1183, .iadd, 1, 0, 0, .null, []),
  (1184, .iaload, 1, 0, 0, .null, []),
  (1185, .invokevirtual 131, 3, 212, 4, .null, []),
  (1188, .if_icmp .eq 130, 3, 1318, 0, .null, []),
  (1191, .iconst 0, 1, 0, 0, .int 0, []),
  (1192, .ireturn, 1, 0, 0, .null, []),
  (1193, .aload_n 1, 1, 1, 0, .null, []),
  (1194, .aload_n 0, 1, 0, 0, .null, []),
  (1195, .iload_n 3, 1, 3, 0, .null, []),
  (1196, .iconst 1, 1, 0, 0, .int 1, []),
  (1197, .iadd, 1, 0, 0, .null, []),
  (1198, .iaload, 1, 0, 0, .null, []),
  (1199, .aload_n 0, 1, 0, 0, .null, []),
  (1200, .iload_n 3, 1, 3, 0, .null, []),
  (1201, .iconst 2, 1, 0, 0, .int 2, []),
  (1202, .iadd, 1, 0, 0, .null, []),
  (1203, .iaload, 1, 0, 0, .null, []),
  (1204, .aload_n 0, 1, 0, 0, .null, []),
  (1205, .iload_n 3, 1, 3, 0, .null, []),
  (1206, .iconst 3, 1, 0, 0, .int 3, []),
  (1207, .iadd, 1, 0, 0, .null, []),
  (1208, .iaload, 1, 0, 0, .null, []),
  (1209, .invokevirtual 132, 3, 136, 4, .null, []),
  (1212, .aload_n 2, 1, 2, 0, .null, []),
  (1213, .aload_n 0, 1, 0, 0, .null, []),
  (1214, .iload_n 3, 1, 3, 0, .null, []),
  (1215, .iconst 1, 1, 0, 0, .int 1, []),
  (1216, .iadd, 1, 0, 0, .null, []),
  (1217, .iaload, 1, 0, 0, .null, []),
  (1218, .aload_n 0, 1, 0, 0, .null, []),
  (1219, .iload_n 3, 1, 3, 0, .null, []),
  (1220, .iconst 2, 1, 0, 0, .int 2, []),
  (1221, .iadd, 1, 0, 0, .null, []),
  (1222, .iaload, 1, 0, 0, .null, []),
  (1223, .aload_n 0, 1, 0, 0, .null, []),
  (1224, .iload_n 3, 1, 3, 0, .null, []),
  (1225, .iconst 3, 1, 0, 0, .int 3, []),
  (1226, .iadd, 1, 0, 0, .null, []),
  (1227, .iaload, 1, 0, 0, .null, []),
  (1228, .invokevirtual 135, 3, 218, 4, .null, []),
  (1231, .if_icmp .eq 87, 3, 1318, 0, .null, []),
  (1234, .iconst 0, 1, 0, 0, .int 0, []),
  (1235, .ireturn, 1, 0, 0, .null, []),
  (1236, .aload_n 1, 1, 1, 0, .null, []),
  (1237, .aload_n 0, 1, 0, 0, .null, []),
  (1238, .iload_n 3, 1, 3, 0, .null, []),
  (1239, .iconst 1, 1, 0, 0, .int 1, []),
  (1240, .iadd, 1, 0, 0, .null, []),
  (1241, .iaload, 1, 0, 0, .null, []),
  (1242, .aload_n 0, 1, 0, 0, .null, []),
  (1243, .iload_n 3, 1, 3, 0, .null, []),
  (1244, .iconst 2, 1, 0, 0, .int 2, []),
  (1245, .iadd, 1, 0, 0, .null, []),
  (1246, .iaload, 1, 0, 0, .null, []),
  (1247, .invokevirtual 136, 3, 138, 3, .null, []),
  (1250, .aload_n 2, 1, 2, 0, .null, []),
  (1251, .aload_n 0, 1, 0, 0, .null, []),
  (1252, .iload_n 3, 1, 3, 0, .null, []),
  (1253, .iconst 1, 1, 0, 0, .int 1, []),
  (1254, .iadd, 1, 0, 0, .null, []),
  (1255, .iaload, 1, 0, 0, .null, []),
  (1256, .aload_n 0, 1, 0, 0, .null, []),
  (1257, .iload_n 3, 1, 3, 0, .null, []),
  (1258, .iconst 2, 1, 0, 0, .int 2, []),
  (1259, .iadd, 1, 0, 0, .null, []),
  (1260, .iaload, 1, 0, 0, .null, []),
  (1261, .invokevirtual 139, 3, 221, 3, .null, []),
  (1264, .if_icmp .eq 54, 3, 1318, 0, .null, []),
  (1267, .iconst 0, 1, 0, 0, .int 0, []),
  (1268, .ireturn, 1, 0, 0, .null, []),
  (1269, .aload_n 1, 1, 1, 0, .null, []),
  (1270, .aload_n 0, 1, 0, 0, .null, []),
  (1271, .iload_n 3, 1, 3, 0, .null, []),
  (1272, .iconst 1, 1, 0, 0, .int 1, []),
  (1273, .iadd, 1, 0, 0, .null, []),
  (1274, .iaload, 1, 0, 0, .null, []),
  (1275, .invokevirtual 140, 3, 139, 2, .null, []),
  (1278, .aload_n 2, 1, 2, 0, .null, []),
  (1279, .aload_n 0, 1, 0, 0, .null, []),
  (1280, .iload_n 3, 1, 3, 0, .null, []),
  (1281, .iconst 1, 1, 0, 0, .int 1, []),
  (1282, .iadd, 1, 0, 0, .null, []),
  (1283, .iaload, 1, 0, 0, .null, []),
  (1284, .invokevirtual 143, 3, 222, 2, .null, []),
  (1287, .if_icmp .eq 31, 3, 1318, 0, .null, []),
  (1290, .iconst 0, 1, 0, 0, .int 0, []),
  (1291, .ireturn, 1, 0, 0, .null, []),
  (1292, .aload_n 1, 1, 1, 0, .null, []),
  (1293, .invokevirtual 144, 3, 141, 1, .null, []),
  (1296, .aload_n 2, 1, 2, 0, .null, []),
  (1297, .invokevirtual 147, 3, 223, 1, .null, []),
  (1300, .if_icmp .eq 18, 3, 1318, 0, .null, []),
  (1303, .iconst 0, 1, 0, 0, .int 0, []),
  (1304, .ireturn, 1, 0, 0, .null, []),
  (1305, .aload_n 1, 1, 1, 0, .null, []),
  (1306, .invokevirtual 148, 3, 144, 1, .null, []),
  (1309, .aload_n 2, 1, 2, 0, .null, []),
  (1310, .invokevirtual 151, 3, 226, 1, .null, []),
  (1313, .if_icmp .eq 5, 3, 1318, 0, .null, []),
  (1316, .iconst 0, 1, 0, 0, .int 0, []),
  (1317, .ireturn, 1, 0, 0, .null, []),
  (1318, .iinc 3 7, 3, 3, 0, .int 7, []),
  (1321, .goto (-1303), 3, 18, 0, .null, []),
  (1324, .iconst 1, 1, 0, 0, .int 1, []),
  (1325, .ireturn, 1, 0, 0, .null, [])]
def rp_mig0 : List (List rp_En) := [rp_k0, rp_k1, rp_k2, rp_k3, rp_k4, rp_k5, rp_k6, rp_k7, rp_k8, rp_k9, rp_k10, rp_k11, rp_k12, rp_k13, rp_k14, rp_k15]
def rp_mig1 : List (List rp_En) := [rp_k16, rp_k17, rp_k18, rp_k19, rp_k20, rp_k21, rp_k22, rp_k23, rp_k24, rp_k25, rp_k26, rp_k27, rp_k28, rp_k29, rp_k30, rp_k31]
def rp_mig2 : List (List rp_En) := [rp_k32, rp_k33, rp_k34, rp_k35, rp_k36, rp_k37, rp_k38, rp_k39, rp_k40, rp_k41, rp_k42, rp_k43, rp_k44, rp_k45, rp_k46, rp_k47]
def rp_mig3 : List (List rp_En) := [rp_k48, rp_k49, rp_k50, rp_k51, rp_k52, rp_k53, rp_k54, rp_k55, rp_k56, rp_k57, rp_k58, rp_k59, rp_k60, rp_k61, rp_k62, rp_k63]
def rp_mig4 : List (List rp_En) := [rp_k64, rp_k65, rp_k66, rp_k67, rp_k68, rp_k69, rp_k70, rp_k71, rp_k72, rp_k73, rp_k74, rp_k75, rp_k76, rp_k77, rp_k78, rp_k79]
def rp_mig5 : List (List rp_En) := [rp_k80, rp_k81, rp_k82, rp_k83, rp_k84, rp_k85, rp_k86, rp_k87, rp_k88, rp_k89, rp_k90, rp_k91, rp_k92, rp_k93, rp_k94, rp_k95]
def rp_mig6 : List (List rp_En) := [rp_k96, rp_k97, rp_k98, rp_k99, rp_k100, rp_k101, rp_k102, rp_k103, rp_k104, rp_k105, rp_k106, rp_k107, rp_k108, rp_k109, rp_k110, rp_k111]
def rp_mig7 : List (List rp_En) := [rp_k112, rp_k113, rp_k114, rp_k115, rp_k116, rp_k117, rp_k118, rp_k119, rp_k120, rp_k121, rp_k122, rp_k123, rp_k124, rp_k125, rp_k126, rp_k127]
def rp_mig8 : List (List rp_En) := [rp_k128, rp_k129, rp_k130, rp_k131, rp_k132, rp_k133, rp_k134, rp_k135, rp_k136, rp_k137, rp_k138, rp_k139, rp_k140, rp_k141, rp_k142, rp_k143]
def rp_mig9 : List (List rp_En) := [rp_k144, rp_k145, rp_k146, rp_k147, rp_k148, rp_k149, rp_k150, rp_k151, rp_k152, rp_k153, rp_k154, rp_k155, rp_k156, rp_k157, rp_k158, rp_k159]
def rp_mig10 : List (List rp_En) := [rp_k160, rp_k161, rp_k162, rp_k163, rp_k164, rp_k165, rp_k166, rp_k167, rp_k168, rp_k169, rp_k170, rp_k171, rp_k172, rp_k173, rp_k174, rp_k175]
def rp_mig11 : List (List rp_En) := [rp_k176, rp_k177, rp_k178, rp_k179, rp_k180, rp_k181, rp_k182, rp_k183, rp_k184, rp_k185, rp_k186, rp_k187, rp_k188, rp_k189, rp_k190, rp_k191]
def rp_mig12 : List (List rp_En) := [rp_k192, rp_k193, rp_k194, rp_k195, rp_k196, rp_k197, rp_k198, rp_k199, rp_k200, rp_k201, rp_k202, rp_k203, rp_k204, rp_k205, rp_k206, rp_k207]
def rp_mig13 : List (List rp_En) := [rp_k208, rp_k209, rp_k210, rp_k211, rp_k212, rp_k213, rp_k214, rp_k215, rp_k216, rp_k217, rp_k218, rp_k219, rp_k220, rp_k221, rp_k222, rp_k223]
def rp_mig14 : List (List rp_En) := [rp_k224, rp_k225, rp_k226, rp_k227]
def rp_mig : List (List (List rp_En)) := [rp_mig0, rp_mig1, rp_mig2, rp_mig3, rp_mig4, rp_mig5, rp_mig6, rp_mig7, rp_mig8, rp_mig9, rp_mig10, rp_mig11, rp_mig12, rp_mig13, rp_mig14]
def rp_mi (j : Nat) : List rp_En := (rp_mig.getD (j / 16) []).getD (j % 16) []
def rp_m0 : rp_Mt := (⟨"RailPasses", "<init>", "()V"⟩, prog_1_method_1_code, 1, none, 7, (4, 88, 45, 9588))
def rp_m1 : rp_Mt := (⟨"RailPasses$Book", "<init>", "()V"⟩, prog_2_method_1_code, 2, none, 0, (3, 67, 14, 4228))
def rp_m2 : rp_Mt := (⟨"RailPasses$Table", "<init>", "(II)V"⟩, prog_7_method_1_code, 3, none, 5, (1, 21, 1, 600))
def rp_m3 : rp_Mt := (⟨"RailPasses$Table", "append", "()I"⟩, prog_7_method_7_code, 2, (some .int), 5, (2, 46, 0, 0))
def rp_m4 : rp_Mt := (⟨"RailPasses$Table", "isFull", "()Z"⟩, prog_7_method_3_code, 1, (some .boolean), 5, (0, 0, 0, 0))
def rp_m5 : rp_Mt := (⟨"RailPasses$Table", "set", "(III)V"⟩, prog_7_method_6_code, 5, none, 5, (1, 22, 0, 0))
def rp_m6 : rp_Mt := (⟨"RailPasses$Table", "place", "(II)I"⟩, prog_7_method_11_code, 3, (some .int), 5, (0, 0, 0, 0))
def rp_m7 : rp_Mt := (⟨"RailPasses$LawText", "<init>", "()V"⟩, prog_3_method_1_code, 1, none, 1, (1, 20, 2, 311))
def rp_m8 : rp_Mt := (⟨"RailPasses$Ways", "<init>", "()V"⟩, prog_8_method_1_code, 1, none, 6, (1, 21, 1, 100))
def rp_m9 : rp_Mt := (⟨"RailPasses$Ways", "forget", "()V"⟩, prog_8_method_6_code, 2, none, 6, (0, 0, 0, 0))
def rp_m10 : rp_Mt := (⟨"RailPasses$Plan", "<init>", "()V"⟩, prog_5_method_1_code, 1, none, 3, (1, 20, 3, 30))
def rp_m11 : rp_Mt := (⟨"RailPasses$Proof", "<init>", "()V"⟩, prog_6_method_1_code, 1, none, 4, (2, 43, 2, 604))
def rp_m12 : rp_Mt := (⟨"RailPasses$Ledger", "<init>", "()V"⟩, prog_4_method_1_code, 1, none, 2, (1, 20, 2, 45))
def rp_m13 : rp_Mt := (⟨"RailPasses", "line", "(IIIIZ)I"⟩, prog_1_method_2_code, 7, (some .int), 7, (5, 111, 0, 0))
def rp_m14 : rp_Mt := (⟨"RailPasses", "isStation", "(I)Z"⟩, prog_1_method_35_code, 1, (some .boolean), 7, (1, 22, 0, 0))
def rp_m15 : rp_Mt := (⟨"RailPasses", "isWithin", "(III)Z"⟩, prog_1_method_34_code, 3, (some .boolean), 7, (0, 0, 0, 0))
def rp_m16 : rp_Mt := (⟨"RailPasses", "isRailway", "(I)Z"⟩, prog_1_method_36_code, 1, (some .boolean), 7, (1, 22, 0, 0))
def rp_m17 : rp_Mt := (⟨"RailPasses", "bit", "(Z)I"⟩, prog_1_method_42_code, 1, (some .int), 7, (0, 0, 0, 0))
def rp_m18 : rp_Mt := (⟨"RailPasses$Ways", "reckon", "(LRailPasses$Table;)V"⟩, prog_8_method_2_code, 5, none, 6, (4, 87, 0, 0))
def rp_m19 : rp_Mt := (⟨"RailPasses$Table", "size", "()I"⟩, prog_7_method_2_code, 1, (some .int), 5, (0, 0, 0, 0))
def rp_m20 : rp_Mt := (⟨"RailPasses$Table", "get", "(II)I"⟩, prog_7_method_5_code, 4, (some .int), 5, (1, 22, 0, 0))
def rp_m21 : rp_Mt := (⟨"RailPasses$Ways", "better", "(III)V"⟩, prog_8_method_8_code, 5, none, 6, (2, 42, 0, 0))
def rp_m22 : rp_Mt := (⟨"RailPasses$Ways", "isThere", "(II)Z"⟩, prog_8_method_3_code, 3, (some .boolean), 6, (3, 65, 0, 0))
def rp_m23 : rp_Mt := (⟨"RailPasses$Ways", "keyOf", "(II)I"⟩, prog_8_method_7_code, 4, (some .int), 6, (2, 42, 0, 0))
def rp_m24 : rp_Mt := (⟨"RailPasses", "train", "(IZIIZI)I"⟩, prog_1_method_3_code, 8, (some .int), 7, (3, 67, 0, 0))
def rp_m25 : rp_Mt := (⟨"RailPasses$Table", "has", "(I)Z"⟩, prog_7_method_4_code, 2, (some .boolean), 5, (0, 0, 0, 0))
def rp_m26 : rp_Mt := (⟨"RailPasses", "isMinute", "(I)Z"⟩, prog_1_method_39_code, 1, (some .boolean), 7, (1, 22, 0, 0))
def rp_m27 : rp_Mt := (⟨"RailPasses", "isFareWithQuota", "(I)Z"⟩, prog_1_method_40_code, 1, (some .boolean), 7, (1, 22, 0, 0))
def rp_m28 : rp_Mt := (⟨"RailPasses", "of", "(II)I"⟩, prog_1_method_4_code, 3, (some .int), 7, (2, 45, 0, 0))
def rp_m29 : rp_Mt := (⟨"RailPasses", "days", "(I)I"⟩, prog_1_method_5_code, 2, (some .int), 7, (1, 22, 0, 0))
def rp_m30 : rp_Mt := (⟨"RailPasses", "feed", "(JI)I"⟩, prog_1_method_6_code, 4, (some .int), 7, (1, 24, 0, 0))
def rp_m31 : rp_Mt := (⟨"RailPasses$LawText", "size", "()I"⟩, prog_3_method_2_code, 1, (some .int), 1, (0, 0, 0, 0))
def rp_m32 : rp_Mt := (⟨"RailPasses$LawText", "put", "(JI)V"⟩, prog_3_method_6_code, 5, none, 1, (0, 0, 0, 0))
def rp_m33 : rp_Mt := (⟨"RailPasses", "read", "(I)I"⟩, prog_1_method_7_code, 4, (some .int), 7, (9, 193, 0, 0))
def rp_m34 : rp_Mt := (⟨"RailPasses$LawText", "firstFault", "()I"⟩, prog_3_method_7_code, 2, (some .int), 1, (8, 172, 0, 0))
def rp_m35 : rp_Mt := (⟨"RailPasses$LawText", "startOver", "()V"⟩, prog_3_method_8_code, 2, none, 1, (1, 22, 0, 0))
def rp_m36 : rp_Mt := (⟨"RailPasses$LawText", "setTerm", "(II)V"⟩, prog_3_method_15_code, 3, none, 1, (0, 0, 0, 0))
def rp_m37 : rp_Mt := (⟨"RailPasses$LawText", "advance", "()V"⟩, prog_3_method_23_code, 2, none, 1, (1, 21, 0, 0))
def rp_m38 : rp_Mt := (⟨"RailPasses$LawText", "byteAt", "(I)I"⟩, prog_3_method_25_code, 2, (some .int), 1, (0, 0, 0, 0))
def rp_m39 : rp_Mt := (⟨"RailPasses$LawText", "sortOf", "(I)I"⟩, prog_3_method_24_code, 1, (some .int), 1, (0, 0, 0, 0))
def rp_m40 : rp_Mt := (⟨"RailPasses$LawText", "takeRule", "()Z"⟩, prog_3_method_9_code, 3, (some .boolean), 1, (7, 150, 0, 0))
def rp_m41 : rp_Mt := (⟨"RailPasses$LawText", "kindAtHand", "()I"⟩, prog_3_method_18_code, 2, (some .int), 1, (5, 107, 0, 0))
def rp_m42 : rp_Mt := (⟨"RailPasses$LawText", "wordOf", "(I)Ljava/lang/String;"⟩, prog_3_method_19_code, 1, (some (.object "java/lang/String")), 1, (0, 0, 0, 0))
def rp_m43 : rp_Mt := (⟨"RailPasses$LawText", "isAtHand", "(Ljava/lang/String;)Z"⟩, prog_3_method_22_code, 3, (some .boolean), 1, (4, 85, 0, 0))
def rp_m44 : rp_Mt := (⟨"RailPasses$LawText", "isSeen", "(I)Z"⟩, prog_3_method_16_code, 2, (some .boolean), 1, (0, 0, 0, 0))
def rp_m45 : rp_Mt := (⟨"RailPasses$LawText", "mayRepeat", "(I)Z"⟩, prog_3_method_17_code, 1, (some .boolean), 1, (0, 0, 0, 0))
def rp_m46 : rp_Mt := (⟨"RailPasses$LawText", "takeDays", "()Z"⟩, prog_3_method_11_code, 3, (some .boolean), 1, (6, 128, 0, 0))
def rp_m47 : rp_Mt := (⟨"RailPasses$LawText", "numberAtHand", "(II)I"⟩, prog_3_method_21_code, 5, (some .int), 1, (1, 22, 0, 0))
def rp_m48 : rp_Mt := (⟨"RailPasses$LawText", "takeWord", "(Ljava/lang/String;)Z"⟩, prog_3_method_13_code, 2, (some .boolean), 1, (5, 107, 0, 0))
def rp_m49 : rp_Mt := (⟨"RailPasses$LawText", "takeBit", "(I)Z"⟩, prog_3_method_12_code, 3, (some .boolean), 1, (2, 46, 0, 0))
def rp_m50 : rp_Mt := (⟨"RailPasses$LawText", "greatest", "(I)I"⟩, prog_3_method_20_code, 1, (some .int), 1, (0, 0, 0, 0))
def rp_m51 : rp_Mt := (⟨"RailPasses$LawText", "term", "(I)I"⟩, prog_3_method_4_code, 2, (some .int), 1, (0, 0, 0, 0))
def rp_m52 : rp_Mt := (⟨"RailPasses$LawText", "takeTerm", "(I)Z"⟩, prog_3_method_10_code, 3, (some .boolean), 1, (2, 46, 0, 0))
def rp_m53 : rp_Mt := (⟨"RailPasses$LawText", "takeSemicolon", "()Z"⟩, prog_3_method_14_code, 1, (some .boolean), 1, (2, 42, 0, 0))
def rp_m54 : rp_Mt := (⟨"RailPasses$LawText", "empty", "()V"⟩, prog_3_method_5_code, 1, none, 1, (0, 0, 0, 0))
def rp_m55 : rp_Mt := (⟨"RailPasses", "isLaw", "(I)Z"⟩, prog_1_method_37_code, 1, (some .boolean), 7, (1, 22, 0, 0))
def rp_m56 : rp_Mt := (⟨"RailPasses$LawText", "rules", "()I"⟩, prog_3_method_3_code, 1, (some .int), 1, (0, 0, 0, 0))
def rp_m57 : rp_Mt := (⟨"RailPasses", "law", "(II)I"⟩, prog_1_method_8_code, 3, (some .int), 7, (3, 66, 0, 0))
def rp_m58 : rp_Mt := (⟨"RailPasses$Book", "isLawThere", "(I)Z"⟩, prog_2_method_3_code, 2, (some .boolean), 0, (2, 45, 0, 0))
def rp_m59 : rp_Mt := (⟨"RailPasses", "sell", "(IIZ)I"⟩, prog_1_method_9_code, 4, (some .int), 7, (4, 92, 0, 0))
def rp_m60 : rp_Mt := (⟨"RailPasses", "isDay", "(I)Z"⟩, prog_1_method_38_code, 1, (some .boolean), 7, (1, 22, 0, 0))
def rp_m61 : rp_Mt := (⟨"RailPasses$Book", "addPass", "(IIZ)I"⟩, prog_2_method_8_code, 6, (some .int), 0, (3, 67, 0, 0))
def rp_m62 : rp_Mt := (⟨"RailPasses", "percents", "(II)I"⟩, prog_1_method_43_code, 2, (some .int), 7, (0, 0, 0, 0))
def rp_m63 : rp_Mt := (⟨"RailPasses", "pass", "(II)I"⟩, prog_1_method_10_code, 3, (some .int), 7, (5, 115, 0, 0))
def rp_m64 : rp_Mt := (⟨"RailPasses$Book", "countedDays", "(I)I"⟩, prog_2_method_14_code, 4, (some .int), 0, (3, 69, 0, 0))
def rp_m65 : rp_Mt := (⟨"RailPasses$Book", "isCounted", "(III)Z"⟩, prog_2_method_18_code, 5, (some .boolean), 0, (2, 45, 0, 0))
def rp_m66 : rp_Mt := (⟨"RailPasses$Book", "ridesBy", "(I)I"⟩, prog_2_method_15_code, 4, (some .int), 0, (2, 45, 0, 0))
def rp_m67 : rp_Mt := (⟨"RailPasses$Book", "paidBy", "(I)I"⟩, prog_2_method_16_code, 4, (some .int), 0, (2, 45, 0, 0))
def rp_m68 : rp_Mt := (⟨"RailPasses$Book", "refund", "(I)I"⟩, prog_2_method_11_code, 4, (some .int), 0, (4, 92, 0, 0))
def rp_m69 : rp_Mt := (⟨"RailPasses$Book", "isLost", "(I)Z"⟩, prog_2_method_9_code, 2, (some .boolean), 0, (2, 45, 0, 0))
def rp_m70 : rp_Mt := (⟨"RailPasses$Book", "lastGoodDay", "(I)I"⟩, prog_2_method_10_code, 2, (some .int), 0, (2, 45, 0, 0))
def rp_m71 : rp_Mt := (⟨"RailPasses", "may", "(III)I"⟩, prog_1_method_11_code, 4, (some .int), 7, (5, 116, 0, 0))
def rp_m72 : rp_Mt := (⟨"RailPasses$Book", "bar", "(III)I"⟩, prog_2_method_12_code, 5, (some .int), 0, (4, 92, 0, 0))
def rp_m73 : rp_Mt := (⟨"RailPasses$Book", "countedDay", "(LRailPasses$Table;III)I"⟩, prog_2_method_6_code, 6, (some .int), 0, (2, 45, 0, 0))
def rp_m74 : rp_Mt := (⟨"RailPasses$Book", "lets", "(LRailPasses$Table;II)Z"⟩, prog_2_method_5_code, 8, (some .boolean), 0, (2, 45, 0, 0))
def rp_m75 : rp_Mt := (⟨"RailPasses$Book", "ridesOn", "(II)I"⟩, prog_2_method_17_code, 5, (some .int), 0, (2, 45, 0, 0))
def rp_m76 : rp_Mt := (⟨"RailPasses", "ride", "(III)I"⟩, prog_1_method_12_code, 5, (some .int), 7, (5, 116, 0, 0))
def rp_m77 : rp_Mt := (⟨"RailPasses$Book", "addRide", "(III)I"⟩, prog_2_method_13_code, 5, (some .int), 0, (3, 70, 0, 0))
def rp_m78 : rp_Mt := (⟨"RailPasses$Book", "pays", "(LRailPasses$Table;II)I"⟩, prog_2_method_7_code, 5, (some .int), 0, (2, 45, 0, 0))
def rp_m79 : rp_Mt := (⟨"RailPasses", "rideOf", "(II)I"⟩, prog_1_method_13_code, 3, (some .int), 7, (2, 45, 0, 0))
def rp_m80 : rp_Mt := (⟨"RailPasses", "giveBack", "(I)I"⟩, prog_1_method_14_code, 2, (some .int), 7, (3, 69, 0, 0))
def rp_m81 : rp_Mt := (⟨"RailPasses$Table", "drop", "(I)V"⟩, prog_7_method_8_code, 4, none, 5, (2, 46, 0, 0))
def rp_m82 : rp_Mt := (⟨"RailPasses", "taken", "(II)I"⟩, prog_1_method_15_code, 3, (some .int), 7, (3, 69, 0, 0))
def rp_m83 : rp_Mt := (⟨"RailPasses", "lose", "(I)I"⟩, prog_1_method_16_code, 2, (some .int), 7, (5, 115, 0, 0))
def rp_m84 : rp_Mt := (⟨"RailPasses", "wish", "(II)I"⟩, prog_1_method_17_code, 4, (some .int), 7, (3, 67, 0, 0))
def rp_m85 : rp_Mt := (⟨"RailPasses", "unwish", "()I"⟩, prog_1_method_18_code, 1, (some .int), 7, (3, 69, 0, 0))
def rp_m86 : rp_Mt := (⟨"RailPasses", "choice", "(I)I"⟩, prog_1_method_19_code, 2, (some .int), 7, (6, 145, 0, 0))
def rp_m87 : rp_Mt := (⟨"RailPasses$Plan", "choose", "(LRailPasses$Book;)V"⟩, prog_5_method_14_code, 4, none, 3, (5, 122, 0, 0))
def rp_m88 : rp_Mt := (⟨"RailPasses$Plan", "prepare", "(LRailPasses$Book;I)V"⟩, prog_5_method_2_code, 4, none, 3, (4, 99, 0, 0))
def rp_m89 : rp_Mt := (⟨"RailPasses$Plan", "prepareWish", "(LRailPasses$Book;III)V"⟩, prog_5_method_3_code, 8, none, 3, (3, 72, 0, 0))
def rp_m90 : rp_Mt := (⟨"RailPasses$Plan", "placeOf", "(I)I"⟩, prog_5_method_4_code, 4, (some .int), 3, (1, 24, 0, 0))
def rp_m91 : rp_Mt := (⟨"RailPasses$Plan", "dayAt", "(I)I"⟩, prog_5_method_6_code, 2, (some .int), 3, (0, 0, 0, 0))
def rp_m92 : rp_Mt := (⟨"RailPasses$Plan", "sparedAt", "(I)I"⟩, prog_5_method_7_code, 2, (some .int), 3, (0, 0, 0, 0))
def rp_m93 : rp_Mt := (⟨"RailPasses$Plan", "goersAt", "(I)I"⟩, prog_5_method_8_code, 2, (some .int), 3, (0, 0, 0, 0))
def rp_m94 : rp_Mt := (⟨"RailPasses$Plan", "put", "(IIII)V"⟩, prog_5_method_5_code, 5, none, 3, (0, 0, 0, 0))
def rp_m95 : rp_Mt := (⟨"RailPasses$Plan", "hasGoodDay", "(I)Z"⟩, prog_5_method_9_code, 3, (some .boolean), 3, (2, 43, 0, 0))
def rp_m96 : rp_Mt := (⟨"RailPasses$Plan", "isGood", "(II)Z"⟩, prog_5_method_11_code, 3, (some .boolean), 3, (1, 21, 0, 0))
def rp_m97 : rp_Mt := (⟨"RailPasses$Plan", "costFrom", "(I)I"⟩, prog_5_method_10_code, 4, (some .int), 3, (4, 90, 0, 0))
def rp_m98 : rp_Mt := (⟨"RailPasses$Plan", "isSpent", "(II)Z"⟩, prog_5_method_12_code, 3, (some .boolean), 3, (3, 68, 0, 0))
def rp_m99 : rp_Mt := (⟨"RailPasses$Plan", "betterDays", "(II)I"⟩, prog_5_method_13_code, 6, (some .int), 3, (2, 43, 0, 0))
def rp_m100 : rp_Mt := (⟨"RailPasses$Plan", "chosenCost", "()I"⟩, prog_5_method_15_code, 1, (some .int), 3, (0, 0, 0, 0))
def rp_m101 : rp_Mt := (⟨"RailPasses$Plan", "chosenLaw", "()I"⟩, prog_5_method_16_code, 1, (some .int), 3, (0, 0, 0, 0))
def rp_m102 : rp_Mt := (⟨"RailPasses$Plan", "chosenStart", "()I"⟩, prog_5_method_17_code, 1, (some .int), 3, (0, 0, 0, 0))
def rp_m103 : rp_Mt := (⟨"RailPasses$Plan", "chosenDays", "()I"⟩, prog_5_method_18_code, 3, (some .int), 3, (4, 90, 0, 0))
def rp_m104 : rp_Mt := (⟨"RailPasses$Plan", "chosenGoers", "()I"⟩, prog_5_method_19_code, 3, (some .int), 3, (4, 90, 0, 0))
def rp_m105 : rp_Mt := (⟨"RailPasses$Plan", "chosenDay", "(I)I"⟩, prog_5_method_20_code, 4, (some .int), 3, (4, 90, 0, 0))
def rp_m106 : rp_Mt := (⟨"RailPasses", "least", "(II)I"⟩, prog_1_method_20_code, 3, (some .int), 7, (5, 122, 0, 0))
def rp_m107 : rp_Mt := (⟨"RailPasses", "prove", "()I"⟩, prog_1_method_21_code, 1, (some .int), 7, (6, 147, 0, 0))
def rp_m108 : rp_Mt := (⟨"RailPasses$Proof", "due", "(LRailPasses$Book;LRailPasses$Plan;)I"⟩, prog_6_method_2_code, 6, (some .int), 4, (5, 122, 0, 0))
def rp_m109 : rp_Mt := (⟨"RailPasses$Proof", "write", "(LRailPasses$Book;LRailPasses$Plan;)V"⟩, prog_6_method_3_code, 6, none, 4, (5, 122, 0, 0))
def rp_m110 : rp_Mt := (⟨"RailPasses$Table", "clear", "()V"⟩, prog_7_method_9_code, 1, none, 5, (0, 0, 0, 0))
def rp_m111 : rp_Mt := (⟨"RailPasses", "row", "(II)I"⟩, prog_1_method_22_code, 3, (some .int), 7, (2, 45, 0, 0))
def rp_m112 : rp_Mt := (⟨"RailPasses", "forge", "(III)I"⟩, prog_1_method_23_code, 5, (some .int), 7, (2, 46, 0, 0))
def rp_m113 : rp_Mt := (⟨"RailPasses", "check", "()I"⟩, prog_1_method_24_code, 1, (some .int), 7, (6, 147, 0, 0))
def rp_m114 : rp_Mt := (⟨"RailPasses$Proof", "firstWrong", "(LRailPasses$Book;LRailPasses$Plan;)I"⟩, prog_6_method_4_code, 6, (some .int), 4, (5, 122, 0, 0))
def rp_m115 : rp_Mt := (⟨"RailPasses$Proof", "isRow", "(IIII)Z"⟩, prog_6_method_5_code, 5, (some .boolean), 4, (2, 45, 0, 0))
def rp_m116 : rp_Mt := (⟨"RailPasses", "scan", "(IIII)I"⟩, prog_1_method_25_code, 6, (some .int), 7, (3, 67, 0, 0))
def rp_m117 : rp_Mt := (⟨"RailPasses", "isPast", "(I)Z"⟩, prog_1_method_41_code, 2, (some .boolean), 7, (1, 22, 0, 0))
def rp_m118 : rp_Mt := (⟨"RailPasses", "miles", "(II)I"⟩, prog_1_method_26_code, 3, (some .int), 7, (4, 87, 0, 0))
def rp_m119 : rp_Mt := (⟨"RailPasses$Ways", "milesOf", "(II)I"⟩, prog_8_method_4_code, 3, (some .int), 6, (3, 65, 0, 0))
def rp_m120 : rp_Mt := (⟨"RailPasses", "way", "(II)I"⟩, prog_1_method_27_code, 3, (some .int), 7, (4, 87, 0, 0))
def rp_m121 : rp_Mt := (⟨"RailPasses$Ways", "linesOf", "(II)I"⟩, prog_8_method_5_code, 3, (some .int), 6, (3, 65, 0, 0))
def rp_m122 : rp_Mt := (⟨"RailPasses", "ridden", "(III)I"⟩, prog_1_method_28_code, 4, (some .int), 7, (6, 139, 0, 0))
def rp_m123 : rp_Mt := (⟨"RailPasses$Ledger", "reckon", "(LRailPasses$Book;LRailPasses$Ways;II)V"⟩, prog_4_method_2_code, 6, none, 2, (5, 114, 0, 0))
def rp_m124 : rp_Mt := (⟨"RailPasses$Ledger", "sortScans", "(LRailPasses$Table;II)V"⟩, prog_4_method_3_code, 5, none, 2, (4, 89, 0, 0))
def rp_m125 : rp_Mt := (⟨"RailPasses$Ledger", "insert", "(LRailPasses$Table;I)V"⟩, prog_4_method_4_code, 4, none, 2, (3, 66, 0, 0))
def rp_m126 : rp_Mt := (⟨"RailPasses$Ledger", "scanAt", "(I)I"⟩, prog_4_method_6_code, 2, (some .int), 2, (0, 0, 0, 0))
def rp_m127 : rp_Mt := (⟨"RailPasses$Ledger", "timeOf", "(LRailPasses$Table;I)I"⟩, prog_4_method_5_code, 2, (some .int), 2, (2, 45, 0, 0))
def rp_m128 : rp_Mt := (⟨"RailPasses$Ledger", "setScan", "(II)V"⟩, prog_4_method_7_code, 3, none, 2, (0, 0, 0, 0))
def rp_m129 : rp_Mt := (⟨"RailPasses$Ledger", "reckonPair", "(LRailPasses$Book;LRailPasses$Ways;II)V"⟩, prog_4_method_8_code, 8, none, 2, (4, 87, 0, 0))
def rp_m130 : rp_Mt := (⟨"RailPasses$Ledger", "addMiles", "(LRailPasses$Table;I)V"⟩, prog_4_method_9_code, 5, none, 2, (2, 45, 0, 0))
def rp_m131 : rp_Mt := (⟨"RailPasses$Ledger", "legs", "()I"⟩, prog_4_method_10_code, 1, (some .int), 2, (0, 0, 0, 0))
def rp_m132 : rp_Mt := (⟨"RailPasses$Ledger", "wayless", "()I"⟩, prog_4_method_11_code, 1, (some .int), 2, (0, 0, 0, 0))
def rp_m133 : rp_Mt := (⟨"RailPasses$Ledger", "doubted", "()I"⟩, prog_4_method_12_code, 1, (some .int), 2, (0, 0, 0, 0))
def rp_m134 : rp_Mt := (⟨"RailPasses$Ledger", "allMiles", "()I"⟩, prog_4_method_14_code, 3, (some .int), 2, (1, 21, 0, 0))
def rp_m135 : rp_Mt := (⟨"RailPasses$Ledger", "milesBy", "(I)I"⟩, prog_4_method_13_code, 2, (some .int), 2, (0, 0, 0, 0))
def rp_m136 : rp_Mt := (⟨"RailPasses", "part", "(III)I"⟩, prog_1_method_29_code, 4, (some .int), 7, (6, 139, 0, 0))
def rp_m137 : rp_Mt := (⟨"RailPasses$Ledger", "share", "(II)I"⟩, prog_4_method_15_code, 9, (some .int), 2, (2, 43, 0, 0))
def rp_m138 : rp_Mt := (⟨"RailPasses", "account", "(II)I"⟩, prog_1_method_30_code, 5, (some .int), 7, (6, 139, 0, 0))
def rp_m139 : rp_Mt := (⟨"RailPasses", "many", "(I)I"⟩, prog_1_method_31_code, 2, (some .int), 7, (3, 67, 0, 0))
def rp_m140 : rp_Mt := (⟨"RailPasses$Book", "lawsThere", "()I"⟩, prog_2_method_4_code, 3, (some .int), 0, (2, 45, 0, 0))
def rp_m141 : rp_Mt := (⟨"RailPasses", "keep", "()I"⟩, prog_1_method_32_code, 1, (some .int), 7, (3, 64, 0, 0))
def rp_m142 : rp_Mt := (⟨"RailPasses$Book", "copyFrom", "(LRailPasses$Book;)V"⟩, prog_2_method_2_code, 2, none, 0, (2, 43, 0, 0))
def rp_m143 : rp_Mt := (⟨"RailPasses$Table", "copyFrom", "(LRailPasses$Table;)V"⟩, prog_7_method_10_code, 3, none, 5, (1, 21, 0, 0))
def rp_m144 : rp_Mt := (⟨"RailPasses", "back", "()I"⟩, prog_1_method_33_code, 1, (some .int), 7, (5, 111, 0, 0))
def rp_m145 : rp_Mt := (⟨"RailPassesModel", "<init>", "()V"⟩, prog_10_method_1_code, 1, none, 8, (1, 20, 19, 3830))
def rp_m146 : rp_Mt := (⟨"RailPassesModel", "line", "(IIIIZ)I"⟩, prog_10_method_9_code, 7, (some .int), 8, (2, 42, 0, 0))
def rp_m147 : rp_Mt := (⟨"RailPassesModel", "isStation", "(I)Z"⟩, prog_10_method_3_code, 1, (some .boolean), 8, (1, 22, 0, 0))
def rp_m148 : rp_Mt := (⟨"RailPassesModel", "in", "(III)Z"⟩, prog_10_method_2_code, 3, (some .boolean), 8, (0, 0, 0, 0))
def rp_m149 : rp_Mt := (⟨"RailPassesModel", "train", "(IZIIZI)I"⟩, prog_10_method_10_code, 9, (some .int), 8, (1, 22, 0, 0))
def rp_m150 : rp_Mt := (⟨"RailPassesModel", "of", "(II)I"⟩, prog_10_method_12_code, 3, (some .int), 8, (2, 43, 0, 0))
def rp_m151 : rp_Mt := (⟨"RailPassesModel", "isTrain", "(I)Z"⟩, prog_10_method_5_code, 2, (some .boolean), 8, (1, 22, 0, 0))
def rp_m152 : rp_Mt := (⟨"RailPassesModel", "isOver", "(I)Z"⟩, prog_10_method_11_code, 2, (some .boolean), 8, (0, 0, 0, 0))
def rp_m153 : rp_Mt := (⟨"RailPassesModel", "days", "(I)I"⟩, prog_10_method_13_code, 2, (some .int), 8, (1, 22, 0, 0))
def rp_m154 : rp_Mt := (⟨"RailPassesModel", "feed", "(JI)I"⟩, prog_10_method_14_code, 5, (some .int), 8, (1, 22, 0, 0))
def rp_m155 : rp_Mt := (⟨"RailPassesModel", "read", "(I)I"⟩, prog_10_method_25_code, 5, (some .int), 8, (5, 109, 0, 0))
def rp_m156 : rp_Mt := (⟨"RailPassesModel", "isLaw", "(I)Z"⟩, prog_10_method_7_code, 1, (some .boolean), 8, (1, 22, 0, 0))
def rp_m157 : rp_Mt := (⟨"RailPassesModel", "advance", "()V"⟩, prog_10_method_17_code, 2, none, 8, (1, 20, 0, 0))
def rp_m158 : rp_Mt := (⟨"RailPassesModel", "isLetter", "(I)Z"⟩, prog_10_method_15_code, 1, (some .boolean), 8, (0, 0, 0, 0))
def rp_m159 : rp_Mt := (⟨"RailPassesModel", "isDigit", "(I)Z"⟩, prog_10_method_16_code, 1, (some .boolean), 8, (0, 0, 0, 0))
def rp_m160 : rp_Mt := (⟨"RailPassesModel", "isGood", "()Z"⟩, prog_10_method_18_code, 1, (some .boolean), 8, (0, 0, 0, 0))
def rp_m161 : rp_Mt := (⟨"RailPassesModel", "wantRule", "()V"⟩, prog_10_method_24_code, 3, none, 8, (4, 87, 0, 0))
def rp_m162 : rp_Mt := (⟨"RailPassesModel", "kindOf", "(I)I"⟩, prog_10_method_22_code, 2, (some .int), 8, (0, 0, 0, 0))
def rp_m163 : rp_Mt := (⟨"RailPassesModel", "wrong", "()V"⟩, prog_10_method_19_code, 1, none, 8, (0, 0, 0, 0))
def rp_m164 : rp_Mt := (⟨"RailPassesModel", "wantNumber", "(II)I"⟩, prog_10_method_21_code, 4, (some .int), 8, (2, 41, 0, 0))
def rp_m165 : rp_Mt := (⟨"RailPassesModel", "wantWord", "(I)V"⟩, prog_10_method_20_code, 2, none, 8, (2, 41, 0, 0))
def rp_m166 : rp_Mt := (⟨"RailPassesModel", "wantBit", "(II)V"⟩, prog_10_method_23_code, 4, none, 8, (3, 64, 0, 0))
def rp_m167 : rp_Mt := (⟨"RailPassesModel", "law", "(II)I"⟩, prog_10_method_26_code, 3, (some .int), 8, (2, 42, 0, 0))
def rp_m168 : rp_Mt := (⟨"RailPassesModel", "hasLaw", "(I)Z"⟩, prog_10_method_8_code, 2, (some .boolean), 8, (0, 0, 0, 0))
def rp_m169 : rp_Mt := (⟨"RailPassesModel", "sell", "(IIZ)I"⟩, prog_10_method_27_code, 6, (some .int), 8, (2, 42, 0, 0))
def rp_m170 : rp_Mt := (⟨"RailPassesModel", "isDay", "(I)Z"⟩, prog_10_method_4_code, 1, (some .boolean), 8, (1, 22, 0, 0))
def rp_m171 : rp_Mt := (⟨"RailPassesModel", "may", "(III)I"⟩, prog_10_method_38_code, 4, (some .int), 8, (6, 139, 0, 0))
def rp_m172 : rp_Mt := (⟨"RailPassesModel", "isAsked", "(III)Z"⟩, prog_10_method_37_code, 4, (some .boolean), 8, (2, 43, 0, 0))
def rp_m173 : rp_Mt := (⟨"RailPassesModel", "isPass", "(I)Z"⟩, prog_10_method_6_code, 2, (some .boolean), 8, (1, 22, 0, 0))
def rp_m174 : rp_Mt := (⟨"RailPassesModel", "bar", "(III)I"⟩, prog_10_method_36_code, 6, (some .int), 8, (5, 114, 0, 0))
def rp_m175 : rp_Mt := (⟨"RailPassesModel", "letsTrain", "([III)Z"⟩, prog_10_method_30_code, 5, (some .boolean), 8, (1, 23, 0, 0))
def rp_m176 : rp_Mt := (⟨"RailPassesModel", "lets", "([IIII)Z"⟩, prog_10_method_29_code, 4, (some .boolean), 8, (0, 0, 0, 0))
def rp_m177 : rp_Mt := (⟨"RailPassesModel", "counted", "(III)I"⟩, prog_10_method_28_code, 4, (some .int), 8, (1, 21, 0, 0))
def rp_m178 : rp_Mt := (⟨"RailPassesModel", "isCounted", "(III)Z"⟩, prog_10_method_33_code, 6, (some .boolean), 8, (3, 66, 0, 0))
def rp_m179 : rp_Mt := (⟨"RailPassesModel", "countedOf", "(I)I"⟩, prog_10_method_32_code, 3, (some .int), 8, (2, 44, 0, 0))
def rp_m180 : rp_Mt := (⟨"RailPassesModel", "countedDays", "(I)I"⟩, prog_10_method_34_code, 4, (some .int), 8, (4, 91, 0, 0))
def rp_m181 : rp_Mt := (⟨"RailPassesModel", "takenOn", "(II)I"⟩, prog_10_method_35_code, 5, (some .int), 8, (0, 0, 0, 0))
def rp_m182 : rp_Mt := (⟨"RailPassesModel", "ride", "(III)I"⟩, prog_10_method_39_code, 5, (some .int), 8, (6, 139, 0, 0))
def rp_m183 : rp_Mt := (⟨"RailPassesModel", "pays", "([III)I"⟩, prog_10_method_31_code, 6, (some .int), 8, (0, 0, 0, 0))
def rp_m184 : rp_Mt := (⟨"RailPassesModel", "rideOf", "(II)I"⟩, prog_10_method_41_code, 3, (some .int), 8, (3, 66, 0, 0))
def rp_m185 : rp_Mt := (⟨"RailPassesModel", "paysOf", "(I)I"⟩, prog_10_method_40_code, 2, (some .int), 8, (1, 25, 0, 0))
def rp_m186 : rp_Mt := (⟨"RailPassesModel", "giveBack", "(I)I"⟩, prog_10_method_42_code, 3, (some .int), 8, (1, 22, 0, 0))
def rp_m187 : rp_Mt := (⟨"RailPassesModel", "taken", "(II)I"⟩, prog_10_method_43_code, 3, (some .int), 8, (2, 43, 0, 0))
def rp_m188 : rp_Mt := (⟨"RailPassesModel", "pass", "(II)I"⟩, prog_10_method_45_code, 6, (some .int), 8, (6, 138, 0, 0))
def rp_m189 : rp_Mt := (⟨"RailPassesModel", "refundOf", "(I)I"⟩, prog_10_method_44_code, 5, (some .int), 8, (5, 114, 0, 0))
def rp_m190 : rp_Mt := (⟨"RailPassesModel", "lose", "(I)I"⟩, prog_10_method_46_code, 2, (some .int), 8, (6, 138, 0, 0))
def rp_m191 : rp_Mt := (⟨"RailPassesModel", "wish", "(II)I"⟩, prog_10_method_47_code, 3, (some .int), 8, (2, 43, 0, 0))
def rp_m192 : rp_Mt := (⟨"RailPassesModel", "unwish", "()I"⟩, prog_10_method_48_code, 1, (some .int), 8, (0, 0, 0, 0))
def rp_m193 : rp_Mt := (⟨"RailPassesModel", "least", "(II)I"⟩, prog_10_method_54_code, 3, (some .int), 8, (5, 118, 0, 0))
def rp_m194 : rp_Mt := (⟨"RailPassesModel", "leastOf", "(II)I"⟩, prog_10_method_53_code, 3, (some .int), 8, (4, 96, 0, 0))
def rp_m195 : rp_Mt := (⟨"RailPassesModel", "takes", "(II)V"⟩, prog_10_method_52_code, 7, none, 8, (3, 70, 0, 0))
def rp_m196 : rp_Mt := (⟨"RailPassesModel", "gainOf", "(II)I"⟩, prog_10_method_51_code, 4, (some .int), 8, (2, 47, 0, 0))
def rp_m197 : rp_Mt := (⟨"RailPassesModel", "countedWish", "(II)I"⟩, prog_10_method_50_code, 3, (some .int), 8, (2, 44, 0, 0))
def rp_m198 : rp_Mt := (⟨"RailPassesModel", "fares", "()I"⟩, prog_10_method_49_code, 3, (some .int), 8, (0, 0, 0, 0))
def rp_m199 : rp_Mt := (⟨"RailPassesModel", "choice", "(I)I"⟩, prog_10_method_55_code, 8, (some .int), 8, (5, 118, 0, 0))
def rp_m200 : rp_Mt := (⟨"RailPassesModel", "takenAt", "(I)I"⟩, prog_10_method_56_code, 4, (some .int), 8, (0, 0, 0, 0))
def rp_m201 : rp_Mt := (⟨"RailPassesModel", "prove", "()I"⟩, prog_10_method_59_code, 2, (some .int), 8, (6, 140, 0, 0))
def rp_m202 : rp_Mt := (⟨"RailPassesModel", "findDue", "()V"⟩, prog_10_method_58_code, 3, none, 8, (5, 118, 0, 0))
def rp_m203 : rp_Mt := (⟨"RailPassesModel", "isSomeGood", "(II)Z"⟩, prog_10_method_57_code, 5, (some .boolean), 8, (3, 66, 0, 0))
def rp_m204 : rp_Mt := (⟨"RailPassesModel", "row", "(II)I"⟩, prog_10_method_60_code, 3, (some .int), 8, (1, 22, 0, 0))
def rp_m205 : rp_Mt := (⟨"RailPassesModel", "forge", "(III)I"⟩, prog_10_method_61_code, 5, (some .int), 8, (1, 22, 0, 0))
def rp_m206 : rp_Mt := (⟨"RailPassesModel", "check", "()I"⟩, prog_10_method_62_code, 2, (some .int), 8, (6, 140, 0, 0))
def rp_m207 : rp_Mt := (⟨"RailPassesModel", "miles", "(II)I"⟩, prog_10_method_65_code, 3, (some .int), 8, (3, 65, 0, 0))
def rp_m208 : rp_Mt := (⟨"RailPassesModel", "wayTo", "(IIZ)I"⟩, prog_10_method_64_code, 4, (some .int), 8, (2, 42, 0, 0))
def rp_m209 : rp_Mt := (⟨"RailPassesModel", "reach", "(I)V"⟩, prog_10_method_63_code, 7, none, 8, (0, 0, 0, 0))
def rp_m210 : rp_Mt := (⟨"RailPassesModel", "way", "(II)I"⟩, prog_10_method_66_code, 3, (some .int), 8, (3, 65, 0, 0))
def rp_m211 : rp_Mt := (⟨"RailPassesModel", "scan", "(IIII)I"⟩, prog_10_method_67_code, 6, (some .int), 8, (2, 43, 0, 0))
def rp_m212 : rp_Mt := (⟨"RailPassesModel", "ridden", "(III)I"⟩, prog_10_method_73_code, 4, (some .int), 8, (3, 74, 0, 0))
def rp_m213 : rp_Mt := (⟨"RailPassesModel", "isKnown", "(I)Z"⟩, prog_10_method_72_code, 2, (some .boolean), 8, (1, 22, 0, 0))
def rp_m214 : rp_Mt := (⟨"RailPassesModel", "goThrough", "(II)V"⟩, prog_10_method_70_code, 5, none, 8, (2, 50, 0, 0))
def rp_m215 : rp_Mt := (⟨"RailPassesModel", "nextScan", "(III)I"⟩, prog_10_method_69_code, 7, (some .int), 8, (1, 21, 0, 0))
def rp_m216 : rp_Mt := (⟨"RailPassesModel", "whenOf", "(I)I"⟩, prog_10_method_68_code, 2, (some .int), 8, (0, 0, 0, 0))
def rp_m217 : rp_Mt := (⟨"RailPassesModel", "addLeg", "(II)V"⟩, prog_10_method_71_code, 5, none, 8, (1, 26, 0, 0))
def rp_m218 : rp_Mt := (⟨"RailPassesModel", "part", "(III)I"⟩, prog_10_method_76_code, 4, (some .int), 8, (4, 98, 0, 0))
def rp_m219 : rp_Mt := (⟨"RailPassesModel", "partOf", "(IIII)I"⟩, prog_10_method_75_code, 5, (some .int), 8, (3, 74, 0, 0))
def rp_m220 : rp_Mt := (⟨"RailPassesModel", "divide", "(I)V"⟩, prog_10_method_74_code, 5, none, 8, (0, 0, 0, 0))
def rp_m221 : rp_Mt := (⟨"RailPassesModel", "account", "(II)I"⟩, prog_10_method_77_code, 5, (some .int), 8, (6, 138, 0, 0))
def rp_m222 : rp_Mt := (⟨"RailPassesModel", "many", "(I)I"⟩, prog_10_method_78_code, 4, (some .int), 8, (1, 21, 0, 0))
def rp_m223 : rp_Mt := (⟨"RailPassesModel", "keep", "()I"⟩, prog_10_method_81_code, 1, (some .int), 8, (2, 45, 0, 0))
def rp_m224 : rp_Mt := (⟨"RailPassesModel", "moveAll", "(Z)V"⟩, prog_10_method_80_code, 2, none, 8, (1, 24, 0, 0))
def rp_m225 : rp_Mt := (⟨"RailPassesModel", "move", "([IIZ)V"⟩, prog_10_method_79_code, 5, none, 8, (0, 0, 0, 0))
def rp_m226 : rp_Mt := (⟨"RailPassesModel", "back", "()I"⟩, prog_10_method_82_code, 1, (some .int), 8, (2, 45, 0, 0))
def rp_m227 : rp_Mt := (⟨"RailPassesLaw", "law", "([I)Z"⟩, code, 4, (some .boolean), 9, (13, 478, 600000, 7302250))
def rp_mtg0 : List rp_Mt := [rp_m0, rp_m1, rp_m2, rp_m3, rp_m4, rp_m5, rp_m6, rp_m7, rp_m8, rp_m9, rp_m10, rp_m11, rp_m12, rp_m13, rp_m14, rp_m15]
def rp_mtg1 : List rp_Mt := [rp_m16, rp_m17, rp_m18, rp_m19, rp_m20, rp_m21, rp_m22, rp_m23, rp_m24, rp_m25, rp_m26, rp_m27, rp_m28, rp_m29, rp_m30, rp_m31]
def rp_mtg2 : List rp_Mt := [rp_m32, rp_m33, rp_m34, rp_m35, rp_m36, rp_m37, rp_m38, rp_m39, rp_m40, rp_m41, rp_m42, rp_m43, rp_m44, rp_m45, rp_m46, rp_m47]
def rp_mtg3 : List rp_Mt := [rp_m48, rp_m49, rp_m50, rp_m51, rp_m52, rp_m53, rp_m54, rp_m55, rp_m56, rp_m57, rp_m58, rp_m59, rp_m60, rp_m61, rp_m62, rp_m63]
def rp_mtg4 : List rp_Mt := [rp_m64, rp_m65, rp_m66, rp_m67, rp_m68, rp_m69, rp_m70, rp_m71, rp_m72, rp_m73, rp_m74, rp_m75, rp_m76, rp_m77, rp_m78, rp_m79]
def rp_mtg5 : List rp_Mt := [rp_m80, rp_m81, rp_m82, rp_m83, rp_m84, rp_m85, rp_m86, rp_m87, rp_m88, rp_m89, rp_m90, rp_m91, rp_m92, rp_m93, rp_m94, rp_m95]
def rp_mtg6 : List rp_Mt := [rp_m96, rp_m97, rp_m98, rp_m99, rp_m100, rp_m101, rp_m102, rp_m103, rp_m104, rp_m105, rp_m106, rp_m107, rp_m108, rp_m109, rp_m110, rp_m111]
def rp_mtg7 : List rp_Mt := [rp_m112, rp_m113, rp_m114, rp_m115, rp_m116, rp_m117, rp_m118, rp_m119, rp_m120, rp_m121, rp_m122, rp_m123, rp_m124, rp_m125, rp_m126, rp_m127]
def rp_mtg8 : List rp_Mt := [rp_m128, rp_m129, rp_m130, rp_m131, rp_m132, rp_m133, rp_m134, rp_m135, rp_m136, rp_m137, rp_m138, rp_m139, rp_m140, rp_m141, rp_m142, rp_m143]
def rp_mtg9 : List rp_Mt := [rp_m144, rp_m145, rp_m146, rp_m147, rp_m148, rp_m149, rp_m150, rp_m151, rp_m152, rp_m153, rp_m154, rp_m155, rp_m156, rp_m157, rp_m158, rp_m159]
def rp_mtg10 : List rp_Mt := [rp_m160, rp_m161, rp_m162, rp_m163, rp_m164, rp_m165, rp_m166, rp_m167, rp_m168, rp_m169, rp_m170, rp_m171, rp_m172, rp_m173, rp_m174, rp_m175]
def rp_mtg11 : List rp_Mt := [rp_m176, rp_m177, rp_m178, rp_m179, rp_m180, rp_m181, rp_m182, rp_m183, rp_m184, rp_m185, rp_m186, rp_m187, rp_m188, rp_m189, rp_m190, rp_m191]
def rp_mtg12 : List rp_Mt := [rp_m192, rp_m193, rp_m194, rp_m195, rp_m196, rp_m197, rp_m198, rp_m199, rp_m200, rp_m201, rp_m202, rp_m203, rp_m204, rp_m205, rp_m206, rp_m207]
def rp_mtg13 : List rp_Mt := [rp_m208, rp_m209, rp_m210, rp_m211, rp_m212, rp_m213, rp_m214, rp_m215, rp_m216, rp_m217, rp_m218, rp_m219, rp_m220, rp_m221, rp_m222, rp_m223]
def rp_mtg14 : List rp_Mt := [rp_m224, rp_m225, rp_m226, rp_m227]
def rp_mtg : List (List rp_Mt) := [rp_mtg0, rp_mtg1, rp_mtg2, rp_mtg3, rp_mtg4, rp_mtg5, rp_mtg6, rp_mtg7, rp_mtg8, rp_mtg9, rp_mtg10, rp_mtg11, rp_mtg12, rp_mtg13, rp_mtg14]
def rp_mt (j : Nat) : rp_Mt := (rp_mtg.getD (j / 16) []).getD (j % 16) rp_m0
def rp_cfl : List rp_Cf := [[some .null, some .null, some .null, some .null, some .null, some .null, some .null, none],
  [some .null, none, none, none, some .null, none, none],
  [some .null, none, none, none, none, some .null],
  [some .null, some .null, some .null, none, none, none, none, none, none, none, none],
  [some .null],
  [some .null, some (.int 0), some (.int 0), none],
  [some .null],
  [some .null, some .null, none, some .null, some .null, some .null, some .null, some .null],
  [some .null, some .null, some .null, some .null, some .null, some .null, some .null, some .null, some .null, none, none, none, none, none, none, none, some .null, some .null, some .null, none, none, none, some .null, none, some .null, none, some .null, some .null, some .null, some .null, none, some .null, none]]
def rp_cf (j : Nat) : rp_Cf := rp_cfl.getD j []
def rp_txl : List (List Int32) := [[100, 97, 121, 115], [112, 114, 105, 99, 101], [114, 97, 105, 108], [108, 105, 110, 101], [110, 105, 103, 104, 116], [102, 97, 115, 116], [98, 111, 97, 116], [99, 104, 105, 108, 100], [114, 101, 102, 117, 110, 100], [108, 111, 115, 116], [111, 102], [111, 117, 116]]
def rp_tx (j : Nat) : List Int32 := rp_txl.getD j []
end
section
/-! the small machine with this claim's tables, and a rule for each kind of step -/
abbrev rp_Sc : Type := Option (Nat × (Nat → Int32))
noncomputable abbrev EV (sc : rp_Sc) (s : rp_As) : Option rp_Rs := rp_Ev rp_mt rp_mi rp_cf rp_tx sc s
section
variable {sc : rp_Sc} {m uc us pc n : Nat} {ls st : List Value} {h : rp_Hp} {I : Instr} {i : rp_In}
theorem rp_fr (hl : rp_lk pc (rp_mi m) = some (I, n, i)) : rp_front rp_mt rp_mi rp_cf rp_tx sc (m, uc, us, pc, ls, st, h) = rp_one rp_mt rp_cf rp_tx sc I n i m uc us pc ls st h := by
  show (match rp_lk pc (rp_mi m) with
    | none => none
    | some (I, n, i) => rp_one rp_mt rp_cf rp_tx sc I n i m uc us pc ls st h) = _
  rw [hl]
theorem rp_g {t : rp_As} (hl : rp_lk pc (rp_mi m) = some (I, n, i)) (ho : rp_one rp_mt rp_cf rp_tx sc I n i m uc us pc ls st h = some (.inl t)) : EV sc (m, uc, us, pc, ls, st, h) = EV sc t :=
  rp_Ev_go _ _ _ _ _ ((rp_fr hl).trans ho)
/-- .. and on from there -/
theorem rp_n {t : rp_As} {o : Option rp_Rs} (hl : rp_lk pc (rp_mi m) = some (I, n, i)) (ho : rp_one rp_mt rp_cf rp_tx sc I n i m uc us pc ls st h = some (.inl t)) (k : EV sc t = o) : EV sc (m, uc, us, pc, ls, st, h) = o :=
  (rp_g hl ho).trans k
theorem rp_br {c : Prop} [Decidable c] {a b : Nat} : EV sc (m, uc, us, (if c then a else b), ls, st, h) = if c then EV sc (m, uc, us, a, ls, st, h) else EV sc (m, uc, us, b, ls, st, h) := by
  split <;> rfl
theorem rp_ret1 {r : rp_Rs} (hl : rp_lk pc (rp_mi m) = some (I, n, i)) (ho : rp_one rp_mt rp_cf rp_tx sc I n i m uc us pc ls st h = some (.inr (.inl r))) : EV sc (m, uc, us, pc, ls, st, h) = some r :=
  rp_Ev_ret _ _ _ _ _ ((rp_fr hl).trans ho)
theorem rp_cl {c : rp_As} {k : rp_Rs → rp_As} (hl : rp_lk pc (rp_mi m) = some (I, n, i)) (ho : rp_one rp_mt rp_cf rp_tx sc I n i m uc us pc ls st h = some (.inr (.inr (c, fun r => some (k r))))) : EV sc (m, uc, us, pc, ls, st, h) = rp_then (EV sc c) (fun r => EV sc (k r)) :=
  rp_Ev_call _ _ _ _ _ ((rp_fr hl).trans ho)
/-- a final field -/
theorem rp_gf {o : Option rp_Rs} {x a ci k : Nat} {w : Value} {l : List (Int32 × Nat)} {fs : List (Option Value)} {v : Value} {S : List rp_Sh} {σ : rp_Mm} (hl : rp_lk pc (rp_mi m) = some (.getfield x, n, ci, k, w, l)) (hL : S[a]? = some (.inr (ci, fs))) (hk : fs[k]? = some (some v)) (K : EV sc (m, uc, us, pc + n, ls, v :: st, (S, σ)) = o) : EV sc (m, uc, us, pc, ls, .ref a :: st, (S, σ)) = o := by
  refine rp_n hl ?_ K
  show (rp_heap sc (.getfield x) (ci, k, w, l) (!l.isEmpty) (S, σ) (.ref a :: st)).map _ = _
  simp [rp_heap, rp_field, hL, hk]
/-- a field that changes -/
theorem rp_gm {o : Option rp_Rs} {x a ci k : Nat} {w : Value} {l : List (Int32 × Nat)} {fs : List (Option Value)} {S : List rp_Sh} {σ : rp_Mm} (hl : rp_lk pc (rp_mi m) = some (.getfield x, n, ci, k, w, l)) (hL : S[a]? = some (.inr (ci, fs))) (hk : fs[k]? = some none) (K : EV sc (m, uc, us, pc + n, ls, .int (σ a k) :: st, (S, σ)) = o) : EV sc (m, uc, us, pc, ls, .ref a :: st, (S, σ)) = o := by
  refine rp_n hl ?_ K
  show (rp_heap sc (.getfield x) (ci, k, w, l) (!l.isEmpty) (S, σ) (.ref a :: st)).map _ = _
  simp [rp_heap, rp_field, hL, hk]
theorem rp_pm {o : Option rp_Rs} {x a ci k : Nat} {w : Value} {fs : List (Option Value)} {v : Int32} {S : List rp_Sh} {σ : rp_Mm} (hl : rp_lk pc (rp_mi m) = some (.putfield x, n, ci, k, w, [])) (hL : S[a]? = some (.inr (ci, fs))) (hk : fs[k]? = some none) (hz : rp_zok w v = true) (K : EV sc (m, uc, us, pc + n, ls, st, (S, rp_wr σ a k v)) = o) : EV sc (m, uc, us, pc, ls, .int v :: .ref a :: st, (S, σ)) = o := by
  refine rp_n hl ?_ K
  show (rp_heap sc (.putfield x) (ci, k, w, []) false (S, σ) (.int v :: .ref a :: st)).map _ = _
  simp [rp_heap, hL, hk, hz]
theorem rp_al {o : Option rp_Rs} {a q : Nat} {z : Bool} {S : List rp_Sh} {σ : rp_Mm} (hl : rp_lk pc (rp_mi m) = some (.arraylength, n, i)) (hL : S[a + 1]? = some (.inl (z, q))) (K : EV sc (m, uc, us, pc + n, ls, .int (Int32.ofNat q) :: st, (S, σ)) = o) : EV sc (m, uc, us, pc, ls, .ref (a + 1) :: st, (S, σ)) = o := by
  refine rp_n hl ?_ K
  show (rp_heap sc .arraylength i _ (S, σ) (.ref (a + 1) :: st)).map _ = _
  simp [rp_heap, hL]
/-- an array's element: where the index is none there is no answer -/
theorem rp_ia {a q : Nat} {x : Int32} {S : List rp_Sh} {σ : rp_Mm} (hl : rp_lk pc (rp_mi m) = some (.iaload, n, i)) (hL : S[a + 1]? = some (.inl (false, q))) : EV sc (m, uc, us, pc, ls, .int x :: .ref (a + 1) :: st, (S, σ)) = bif rp_ix x q then EV sc (m, uc, us, pc + n, ls, .int (σ (a + 1) x.toNatClampNeg) :: st, (S, σ)) else none := by
  have hf := rp_fr (sc := sc) (uc := uc) (us := us) (ls := ls) (st := .int x :: .ref (a + 1) :: st) (h := (S, σ)) hl
  have ho : rp_one rp_mt rp_cf rp_tx sc .iaload n i m uc us pc ls (.int x :: .ref (a + 1) :: st) (S, σ) = (bif rp_ix x q then some (.inl (m, uc, us, pc + n, ls, .int (σ (a + 1) x.toNatClampNeg) :: st, (S, σ))) else none) := by
    show (rp_heap sc .iaload i _ (S, σ) (.int x :: .ref (a + 1) :: st)).map _ = _
    cases hx : rp_ix x q <;> simp [rp_heap, hL, hx]
  rw [ho] at hf
  cases hx : rp_ix x q with
  | true => rw [hx] at hf; exact rp_Ev_go _ _ _ _ _ hf
  | false =>
    rw [hx] at hf
    refine rp_Ev_eq _ _ _ _ _ fun y => ⟨fun ⟨k, hk⟩ => ?_, fun hy => by cases hy⟩
    cases k with
    | zero => cases hk
    | succ k =>
      have hk : rp_F rp_mt rp_mi rp_cf rp_tx sc _ _ = some y := hk
      unfold rp_F at hk
      rw [hf] at hk
      cases hk
end
section
variable {sc : rp_Sc} {m uc us pc n : Nat} {ls st : List Value} {h : rp_Hp} {I : Instr} {i : rp_In} {o : Option rp_Rs}
theorem rp_no (hl : rp_lk pc (rp_mi m) = some (I, n, i)) (ho : rp_one rp_mt rp_cf rp_tx sc I n i m uc us pc ls st h = none) : EV sc (m, uc, us, pc, ls, st, h) = none := by
  have hf := (rp_fr (sc := sc) (uc := uc) (us := us) (ls := ls) (st := st) (h := h) hl).trans ho
  refine rp_Ev_eq _ _ _ _ _ fun y => ⟨fun ⟨k, hk⟩ => ?_, fun hy => by cases hy⟩
  cases k with
  | zero => cases hk
  | succ k =>
    have hk : rp_F rp_mt rp_mi rp_cf rp_tx sc _ _ = some y := hk
    unfold rp_F at hk
    rw [hf] at hk
    cases hk
theorem rp_brk {c : Prop} [Decidable c] {a b : Nat} {A B : Option rp_Rs} (ha : EV sc (m, uc, us, a, ls, st, h) = A) (hb : EV sc (m, uc, us, b, ls, st, h) = B) : EV sc (m, uc, us, (if c then a else b), ls, st, h) = if c then A else B := by
  rw [rp_br, ha, hb]
theorem rp_clk {c : rp_As} {k : rp_Rs → rp_As} {X : rp_Rs → Option rp_Rs} (hl : rp_lk pc (rp_mi m) = some (I, n, i)) (ho : rp_one rp_mt rp_cf rp_tx sc I n i m uc us pc ls st h = some (.inr (.inr (c, fun r => some (k r))))) (K : ∀ r, EV sc (k r) = X r) : EV sc (m, uc, us, pc, ls, st, h) = rp_then (EV sc c) X := by
  rw [rp_cl hl ho]
  congr 1
  exact funext K
theorem rp_iak {a q : Nat} {x : Int32} {S : List rp_Sh} {σ : rp_Mm} (hl : rp_lk pc (rp_mi m) = some (.iaload, n, i)) (hL : S[a + 1]? = some (.inl (false, q))) (K : EV sc (m, uc, us, pc + n, ls, .int (σ (a + 1) x.toNatClampNeg) :: st, (S, σ)) = o) : EV sc (m, uc, us, pc, ls, .int x :: .ref (a + 1) :: st, (S, σ)) = bif rp_ix x q then o else none := by
  rw [rp_ia hl hL, K]
theorem rp_bak {a q : Nat} {x : Int32} {S : List rp_Sh} {σ : rp_Mm} (hl : rp_lk pc (rp_mi m) = some (.baload, n, i)) (hL : S[a + 1]? = some (.inl (true, q))) (K : EV sc (m, uc, us, pc + n, ls, .int (σ (a + 1) x.toNatClampNeg) :: st, (S, σ)) = o) : EV sc (m, uc, us, pc, ls, .int x :: .ref (a + 1) :: st, (S, σ)) = bif rp_ix x q then o else none := by
  cases hx : rp_ix x q with
  | true =>
    refine (rp_g hl (t := (m, uc, us, pc + n, ls, .int (σ (a + 1) x.toNatClampNeg) :: st, (S, σ))) ?_).trans K
    show (rp_heap sc .baload i _ (S, σ) (.int x :: .ref (a + 1) :: st)).map _ = _
    simp [rp_heap, hL, hx]
  | false =>
    refine rp_no hl ?_
    show (rp_heap sc .baload i _ (S, σ) (.int x :: .ref (a + 1) :: st)).map _ = _
    simp [rp_heap, hL, hx]
theorem rp_isk {a q : Nat} {x v : Int32} {S : List rp_Sh} {σ : rp_Mm} (hl : rp_lk pc (rp_mi m) = some (.iastore, n, i)) (hL : S[a + 1]? = some (.inl (false, q))) (K : EV sc (m, uc, us, pc + n, ls, st, (S, rp_wr σ (a + 1) x.toNatClampNeg v)) = o) : EV sc (m, uc, us, pc, ls, .int v :: .int x :: .ref (a + 1) :: st, (S, σ)) = bif rp_ix x q then o else none := by
  cases hx : rp_ix x q with
  | true =>
    refine (rp_g hl (t := (m, uc, us, pc + n, ls, st, (S, rp_wr σ (a + 1) x.toNatClampNeg v))) ?_).trans K
    show (rp_heap sc .iastore i _ (S, σ) (.int v :: .int x :: .ref (a + 1) :: st)).map _ = _
    simp [rp_heap, hL, hx]
  | false =>
    refine rp_no hl ?_
    show (rp_heap sc .iastore i _ (S, σ) (.int v :: .int x :: .ref (a + 1) :: st)).map _ = _
    simp [rp_heap, hL, hx]
theorem rp_bsk {a q : Nat} {x v : Int32} {S : List rp_Sh} {σ : rp_Mm} (hl : rp_lk pc (rp_mi m) = some (.bastore, n, i)) (hL : S[a + 1]? = some (.inl (true, q))) (hv : v &&& 1 = v) (K : EV sc (m, uc, us, pc + n, ls, st, (S, rp_wr σ (a + 1) x.toNatClampNeg v)) = o) : EV sc (m, uc, us, pc, ls, .int v :: .int x :: .ref (a + 1) :: st, (S, σ)) = bif rp_ix x q then o else none := by
  cases hx : rp_ix x q with
  | true =>
    refine (rp_g hl (t := (m, uc, us, pc + n, ls, st, (S, rp_wr σ (a + 1) x.toNatClampNeg v))) ?_).trans K
    show (rp_heap sc .bastore i _ (S, σ) (.int v :: .int x :: .ref (a + 1) :: st)).map _ = _
    simp [rp_heap, hL, hx, hv]
  | false =>
    refine rp_no hl ?_
    show (rp_heap sc .bastore i _ (S, σ) (.int v :: .int x :: .ref (a + 1) :: st)).map _ = _
    simp [rp_heap, hL, hx]
/-- the script -/
theorem rp_sck {q : Nat} {xs : Nat → Int32} {x : Int32} (hl : rp_lk pc (rp_mi m) = some (.iaload, n, i)) (K : EV (some (q, xs)) (m, uc, us, pc + n, ls, .int (xs x.toNatClampNeg) :: st, h) = o) : EV (some (q, xs)) (m, uc, us, pc, ls, .int x :: .ref 0 :: st, h) = bif rp_ix x q then o else none := by
  cases hx : rp_ix x q with
  | true =>
    refine (rp_g hl (t := (m, uc, us, pc + n, ls, .int (xs x.toNatClampNeg) :: st, h)) ?_).trans K
    show (rp_heap (some (q, xs)) .iaload i _ h (.int x :: .ref 0 :: st)).map _ = _
    simp [rp_heap, hx]
  | false =>
    refine rp_no hl ?_
    show (rp_heap (some (q, xs)) .iaload i _ h (.int x :: .ref 0 :: st)).map _ = _
    simp [rp_heap, hx]
theorem rp_dvk {x y : Int32} (hl : rp_lk pc (rp_mi m) = some (.idiv, n, i)) (K : EV sc (m, uc, us, pc + n, ls, .int (x / y) :: st, h) = o) : EV sc (m, uc, us, pc, ls, .int y :: .int x :: st, h) = if y = 0 then none else o := by
  split
  next hy => refine rp_no hl ?_; show (rp_pure .idiv n i pc ls (.int y :: .int x :: st)).map _ = _; simp [rp_pure, hy]
  next hy => refine (rp_g hl (t := (m, uc, us, pc + n, ls, .int (x / y) :: st, h)) ?_).trans K; show (rp_pure .idiv n i pc ls (.int y :: .int x :: st)).map _ = _; simp [rp_pure, hy]
theorem rp_rmk {x y : Int32} (hl : rp_lk pc (rp_mi m) = some (.irem, n, i)) (K : EV sc (m, uc, us, pc + n, ls, .int (x - x / y * y) :: st, h) = o) : EV sc (m, uc, us, pc, ls, .int y :: .int x :: st, h) = if y = 0 then none else o := by
  split
  next hy => refine rp_no hl ?_; show (rp_pure .irem n i pc ls (.int y :: .int x :: st)).map _ = _; simp [rp_pure, hy]
  next hy => refine (rp_g hl (t := (m, uc, us, pc + n, ls, .int (x - x / y * y) :: st, h)) ?_).trans K; show (rp_pure .irem n i pc ls (.int y :: .int x :: st)).map _ = _; simp [rp_pure, hy]
end
def rp_L0 : List rp_Sh := [.inr (99, []),
  .inr (7, [some (.ref 2), some (.ref 17), none, some (.ref 32), some (.ref 35), some (.ref 37), some (.ref 41), some (.ref 44)]),
  .inr (0, [some (.ref 3), some (.ref 5), some (.ref 7), some (.ref 9), some (.ref 11), some (.ref 13), some (.ref 15), none]),
  .inr (5, [some (.ref 4), some (.int 14), some (.int 5), none]),
  .inl (false, 70),
  .inr (5, [some (.ref 6), some (.int 16), some (.int 9), none]),
  .inl (false, 144),
  .inr (5, [some (.ref 8), some (.int 3), some (.int 12), none]),
  .inl (false, 36),
  .inr (5, [some (.ref 10), some (.int 8), some (.int 15), none]),
  .inl (false, 120),
  .inr (5, [some (.ref 12), some (.int 40), some (.int 5), none]),
  .inl (false, 200),
  .inr (5, [some (.ref 14), some (.int 10), some (.int 2), none]),
  .inl (false, 20),
  .inr (5, [some (.ref 16), some (.int 40), some (.int 5), none]),
  .inl (false, 200),
  .inr (0, [some (.ref 18), some (.ref 20), some (.ref 22), some (.ref 24), some (.ref 26), some (.ref 28), some (.ref 30), none]),
  .inr (5, [some (.ref 19), some (.int 14), some (.int 5), none]),
  .inl (false, 70),
  .inr (5, [some (.ref 21), some (.int 16), some (.int 9), none]),
  .inl (false, 144),
  .inr (5, [some (.ref 23), some (.int 3), some (.int 12), none]),
  .inl (false, 36),
  .inr (5, [some (.ref 25), some (.int 8), some (.int 15), none]),
  .inl (false, 120),
  .inr (5, [some (.ref 27), some (.int 40), some (.int 5), none]),
  .inl (false, 200),
  .inr (5, [some (.ref 29), some (.int 10), some (.int 2), none]),
  .inl (false, 20),
  .inr (5, [some (.ref 31), some (.int 40), some (.int 5), none]),
  .inl (false, 200),
  .inr (1, [some (.ref 33), none, none, none, some (.ref 34), none, none]),
  .inl (false, 300),
  .inl (false, 11),
  .inr (6, [some (.ref 36)]),
  .inl (false, 100),
  .inr (3, [some (.ref 38), some (.ref 39), some (.ref 40), none, none, none, none, none, none, none, none]),
  .inl (false, 10),
  .inl (false, 10),
  .inl (false, 10),
  .inr (4, [some (.ref 42)]),
  .inr (5, [some (.ref 43), some (.int 200), some (.int 3), none]),
  .inl (false, 600),
  .inr (2, [some (.ref 45), none, none, none, none, some (.ref 46)]),
  .inl (false, 40),
  .inl (false, 5),
  .inr (8, [some (.ref 48), some (.ref 49), some (.ref 50), some (.ref 51), some (.ref 52), some (.ref 53), some (.ref 54), some (.ref 55), some (.ref 56), none, none, none, none, none, none, none, some (.ref 57), some (.ref 58), some (.ref 59), none, none, none, some (.ref 60), none, some (.ref 61), none, some (.ref 62), some (.ref 63), some (.ref 64), some (.ref 65), none, some (.ref 66), none]),
  .inl (false, 7),
  .inl (false, 70),
  .inl (false, 128),
  .inl (false, 48),
  .inl (false, 128),
  .inl (false, 120),
  .inl (false, 20),
  .inl (false, 200),
  .inl (false, 300),
  .inl (false, 122),
  .inl (false, 122),
  .inl (true, 122),
  .inl (false, 1089),
  .inl (false, 600),
  .inl (false, 10),
  .inl (false, 9),
  .inl (false, 5),
  .inl (false, 5),
  .inl (false, 725)]
/-! trees: what a stretch of the small machine comes to -/
def rp_Le (a b : Option rp_Rs) : Prop := ∀ x, a = some x → b = some x
theorem rp_Le_rfl {a : Option rp_Rs} : rp_Le a a := fun _ h => h
theorem rp_Le_eq {a b : Option rp_Rs} (h : b = a) : rp_Le a b := fun _ q => h.trans q
theorem rp_Le_none {b : Option rp_Rs} : rp_Le none b := fun _ h => by cases h
abbrev RI (v : Int32) (σ : rp_Mm) : Option rp_Rs := some (some (.int v), (rp_L0, σ))
abbrev RV (σ : rp_Mm) : Option rp_Rs := some (none, (rp_L0, σ))
abbrev RR (a : Nat) (σ : rp_Mm) : Option rp_Rs := some (some (.ref a), (rp_L0, σ))
/-- a call -/
noncomputable def CL (sc : rp_Sc) (m : Nat) (args : List Value) (σ : rp_Mm) : Option rp_Rs := EV sc (m, 0, 0, 0, rp_en (rp_mt m).2.2.1 args, [], (rp_L0, σ))
noncomputable def thI (o : Option rp_Rs) (k : Int32 → rp_Mm → Option rp_Rs) : Option rp_Rs := match o with
  | some (some (.int v), h) => if h.1 = rp_L0 then k v h.2 else none
  | _ => none
noncomputable def thV (o : Option rp_Rs) (k : rp_Mm → Option rp_Rs) : Option rp_Rs := match o with
  | some (none, h) => if h.1 = rp_L0 then k h.2 else none
  | _ => none
noncomputable def thR (o : Option rp_Rs) (k : Nat → rp_Mm → Option rp_Rs) : Option rp_Rs := match o with
  | some (some (.ref a), h) => if h.1 = rp_L0 then k a h.2 else none
  | _ => none
theorem thI_RI (v : Int32) (σ : rp_Mm) (k : Int32 → rp_Mm → Option rp_Rs) : thI (RI v σ) k = k v σ := by
  show (if rp_L0 = rp_L0 then k v σ else none) = _
  exact if_pos rfl
theorem thV_RV (σ : rp_Mm) (k : rp_Mm → Option rp_Rs) : thV (RV σ) k = k σ := by
  show (if rp_L0 = rp_L0 then k σ else none) = _
  exact if_pos rfl
theorem thR_RR (a : Nat) (σ : rp_Mm) (k : Nat → rp_Mm → Option rp_Rs) : thR (RR a σ) k = k a σ := by
  show (if rp_L0 = rp_L0 then k a σ else none) = _
  exact if_pos rfl
theorem thI_some {o : Option rp_Rs} {k : Int32 → rp_Mm → Option rp_Rs} {x : rp_Rs} (h : thI o k = some x) : ∃ v σ, o = RI v σ ∧ k v σ = some x := by
  unfold thI at h
  split at h
  next v q =>
    split at h
    next e => exact ⟨v, q.2, by show some (some _, q) = some (some _, (rp_L0, q.2)); rw [← e], h⟩
    next => cases h
  next => cases h
theorem thV_some {o : Option rp_Rs} {k : rp_Mm → Option rp_Rs} {x : rp_Rs} (h : thV o k = some x) : ∃ σ, o = RV σ ∧ k σ = some x := by
  unfold thV at h
  split at h
  next q =>
    split at h
    next e => exact ⟨q.2, by show some (none, q) = some (none, (rp_L0, q.2)); rw [← e], h⟩
    next => cases h
  next => cases h
theorem thR_some {o : Option rp_Rs} {k : Nat → rp_Mm → Option rp_Rs} {x : rp_Rs} (h : thR o k = some x) : ∃ v σ, o = RR v σ ∧ k v σ = some x := by
  unfold thR at h
  split at h
  next v q =>
    split at h
    next e => exact ⟨v, q.2, by show some (some _, q) = some (some _, (rp_L0, q.2)); rw [← e], h⟩
    next => cases h
  next => cases h
theorem rp_pos {t : Nat} {k : Nat} {fs : List (Option Value)} (h : rp_L0[t]? = some (.inr (k, fs))) (hk : k ≠ 99) : 0 < t := by
  rcases Nat.eq_zero_or_pos t with rfl | q
  · have e : rp_L0[0]? = some (.inr (99, [])) := rfl
    rw [e] at h
    exact absurd (Prod.mk.inj (Sum.inr.inj (Option.some.inj h))).1.symm hk
  · exact q
theorem rp_rcv {I : Instr} {a k : Nat} {fs : List (Option Value)} {r : List Value} {σ : rp_Mm} (h : rp_L0[a + 1]? = some (.inr (k, fs))) : rp_recv I (rp_L0, σ) k (.ref (a + 1) :: r) = true := by
  unfold rp_recv
  split
  next => rfl
  next => simp [h, Nat.blt]
theorem rp_rct {I : Instr} {t : Nat} {fs : List (Option Value)} {r : List Value} {σ : rp_Mm} (h : rp_L0[t]? = some (.inr (5, fs))) : rp_recv I (rp_L0, σ) 5 (.ref t :: r) = true := by
  obtain ⟨a, rfl⟩ : ∃ a, t = a + 1 := ⟨t - 1, by have := rp_pos h (by decide); omega⟩
  exact rp_rcv h
section
variable {sc : rp_Sc} {m uc us pc n : Nat} {ls st : List Value} {h : rp_Hp} {I : Instr} {i : rp_In} {o A B : Option rp_Rs} {σ : rp_Mm}
theorem rp_ln {t : rp_As} (hl : rp_lk pc (rp_mi m) = some (I, n, i)) (ho : rp_one rp_mt rp_cf rp_tx sc I n i m uc us pc ls st h = some (.inl t)) (K : rp_Le o (EV sc t)) : rp_Le o (EV sc (m, uc, us, pc, ls, st, h)) :=
  fun x hx => (rp_g hl ho).trans (K x hx)
def rp_isP (I : Instr) : Bool := !rp_isHeap I && (!rp_isCall I && (!rp_isRet I && !rp_isMake I))
theorem rp_oneP (hI : rp_isP I = true) {q : Nat × List Value × List Value} (ho : rp_pure I n i pc ls st = some q) : rp_one rp_mt rp_cf rp_tx sc I n i m uc us pc ls st h = some (.inl (m, uc, us, q.1, q.2.1, q.2.2, h)) := by
  unfold rp_isP at hI
  simp only [Bool.and_eq_true, Bool.not_eq_true'] at hI
  unfold rp_one
  rw [hI.1, hI.2.1, hI.2.2.1, hI.2.2.2, ho]
  rfl
/-- a step among numbers and locals -/
theorem rp_lp {q : Nat} {ls' st' : List Value} (hl : rp_lk pc (rp_mi m) = some (I, n, i)) (hI : rp_isP I = true) (ho : rp_pure I n i pc ls st = some (q, ls', st')) (K : rp_Le o (EV sc (m, uc, us, q, ls', st', h))) : rp_Le o (EV sc (m, uc, us, pc, ls, st, h)) := rp_ln hl (rp_oneP hI ho) K
/-- a call of the library -/
theorem rp_lb {q k x : Nat} {w : Value} {l : List (Int32 × Nat)} {st' : List Value} (hl : rp_lk pc (rp_mi m) = some (I, n, x, k, w, l)) (hI : (!rp_isHeap I && (rp_isCall I && Nat.ble 5000 x)) = true) (hr : Nat.ble (rp_cat (st.drop k)) 8 = true) (hq : pc + n = q) (ho : rp_lib rp_tx x st = some st') (K : rp_Le o (EV sc (m, uc, us, q, ls, st', h))) : rp_Le o (EV sc (m, uc, us, pc, ls, st, h)) := by
  subst hq
  simp only [Bool.and_eq_true, Bool.not_eq_true'] at hI
  refine rp_ln hl (t := (m, uc, us, pc + n, ls, st', h)) ?_ K
  unfold rp_one
  rw [hI.1, hI.2.1]
  simp only [cond_true, cond_false]
  rw [hI.2.2, hr, ho]
  rfl
theorem rp_lbr {c : Prop} [Decidable c] {a b : Nat} {ls' st' : List Value} (hl : rp_lk pc (rp_mi m) = some (I, n, i)) (hI : rp_isP I = true) (ho : rp_pure I n i pc ls st = some ((if c then a else b), ls', st')) (ha : rp_Le A (EV sc (m, uc, us, a, ls', st', h))) (hb : rp_Le B (EV sc (m, uc, us, b, ls', st', h))) : rp_Le (if c then A else B) (EV sc (m, uc, us, pc, ls, st, h)) := by
  refine rp_ln hl (rp_oneP hI ho) ?_
  dsimp only
  split
  · exact ha
  · exact hb
theorem rp_lsw {x : Int32} {d : Nat} {q : List (Int32 × Nat)} {ls' st' : List Value} (hl : rp_lk pc (rp_mi m) = some (I, n, i)) (hI : rp_isP I = true) (ho : rp_pure I n i pc ls st = some (rp_sw x d q, ls', st')) (K : rp_Le o (EV sc (m, uc, us, rp_sw x d q, ls', st', h))) : rp_Le o (EV sc (m, uc, us, pc, ls, st, h)) := rp_ln hl (rp_oneP hI ho) K
theorem rp_swc {x k : Int32} {d t : Nat} {r : List (Int32 × Nat)} (ha : rp_Le A (EV sc (m, uc, us, t, ls, st, h))) (hb : rp_Le B (EV sc (m, uc, us, rp_sw x d r, ls, st, h))) : rp_Le (if x = k then A else B) (EV sc (m, uc, us, rp_sw x d ((k, t) :: r), ls, st, h)) := by
  unfold rp_sw
  dsimp only
  split
  · exact ha
  · exact hb
theorem rp_lgf {x a ci k : Nat} {w : Value} {l : List (Int32 × Nat)} {fs : List (Option Value)} {v : Value} {S : List rp_Sh} (hl : rp_lk pc (rp_mi m) = some (.getfield x, n, ci, k, w, l)) (hL : S[a]? = some (.inr (ci, fs))) (hk : fs[k]? = some (some v)) (K : rp_Le o (EV sc (m, uc, us, pc + n, ls, v :: st, (S, σ)))) : rp_Le o (EV sc (m, uc, us, pc, ls, .ref a :: st, (S, σ))) := fun y hy => rp_gf hl hL hk (K y hy)
theorem rp_lgm {x a ci k : Nat} {w : Value} {l : List (Int32 × Nat)} {fs : List (Option Value)} {S : List rp_Sh} (hl : rp_lk pc (rp_mi m) = some (.getfield x, n, ci, k, w, l)) (hL : S[a]? = some (.inr (ci, fs))) (hk : fs[k]? = some none) (K : rp_Le o (EV sc (m, uc, us, pc + n, ls, .int (σ a k) :: st, (S, σ)))) : rp_Le o (EV sc (m, uc, us, pc, ls, .ref a :: st, (S, σ))) := fun y hy => rp_gm hl hL hk (K y hy)
theorem rp_lpm {x a ci k : Nat} {w : Value} {fs : List (Option Value)} {v : Int32} {S : List rp_Sh} (hl : rp_lk pc (rp_mi m) = some (.putfield x, n, ci, k, w, [])) (hL : S[a]? = some (.inr (ci, fs))) (hk : fs[k]? = some none) (hz : rp_zok w v = true) (K : rp_Le o (EV sc (m, uc, us, pc + n, ls, st, (S, rp_wr σ a k v)))) : rp_Le o (EV sc (m, uc, us, pc, ls, .int v :: .ref a :: st, (S, σ))) := fun y hy => rp_pm hl hL hk hz (K y hy)
theorem rp_lal {a q : Nat} {z : Bool} {S : List rp_Sh} (hl : rp_lk pc (rp_mi m) = some (.arraylength, n, i)) (hL : S[a + 1]? = some (.inl (z, q))) (K : rp_Le o (EV sc (m, uc, us, pc + n, ls, .int (Int32.ofNat q) :: st, (S, σ)))) : rp_Le o (EV sc (m, uc, us, pc, ls, .ref (a + 1) :: st, (S, σ))) := fun y hy => rp_al hl hL (K y hy)
theorem rp_Le_bif {c : Bool} {a b : Option rp_Rs} (h : ∀ o, b = o → EV sc (m, uc, us, pc, ls, st, (rp_L0, σ)) = bif c then o else none) (K : rp_Le a b) : rp_Le (bif c then a else none) (EV sc (m, uc, us, pc, ls, st, (rp_L0, σ))) := by
  intro y hy
  cases c with
  | true => exact (h _ rfl).trans (K y hy)
  | false => cases hy
theorem rp_lia {a q : Nat} {x : Int32} (hl : rp_lk pc (rp_mi m) = some (.iaload, n, i)) (hL : rp_L0[a + 1]? = some (.inl (false, q))) (K : rp_Le o (EV sc (m, uc, us, pc + n, ls, .int (σ (a + 1) x.toNatClampNeg) :: st, (rp_L0, σ)))) : rp_Le (bif rp_ix x q then o else none) (EV sc (m, uc, us, pc, ls, .int x :: .ref (a + 1) :: st, (rp_L0, σ))) := rp_Le_bif (fun o ho => rp_iak hl hL ho) K
theorem rp_lba {a q : Nat} {x : Int32} (hl : rp_lk pc (rp_mi m) = some (.baload, n, i)) (hL : rp_L0[a + 1]? = some (.inl (true, q))) (K : rp_Le o (EV sc (m, uc, us, pc + n, ls, .int (σ (a + 1) x.toNatClampNeg) :: st, (rp_L0, σ)))) : rp_Le (bif rp_ix x q then o else none) (EV sc (m, uc, us, pc, ls, .int x :: .ref (a + 1) :: st, (rp_L0, σ))) := rp_Le_bif (fun o ho => rp_bak hl hL ho) K
theorem rp_lis {a q : Nat} {x v : Int32} (hl : rp_lk pc (rp_mi m) = some (.iastore, n, i)) (hL : rp_L0[a + 1]? = some (.inl (false, q))) (K : rp_Le o (EV sc (m, uc, us, pc + n, ls, st, (rp_L0, rp_wr σ (a + 1) x.toNatClampNeg v)))) : rp_Le (bif rp_ix x q then o else none) (EV sc (m, uc, us, pc, ls, .int v :: .int x :: .ref (a + 1) :: st, (rp_L0, σ))) := rp_Le_bif (fun o ho => rp_isk hl hL ho) K
theorem rp_lbs {a q : Nat} {x v : Int32} (hl : rp_lk pc (rp_mi m) = some (.bastore, n, i)) (hL : rp_L0[a + 1]? = some (.inl (true, q))) (hv : v &&& 1 = v) (K : rp_Le o (EV sc (m, uc, us, pc + n, ls, st, (rp_L0, rp_wr σ (a + 1) x.toNatClampNeg v)))) : rp_Le (bif rp_ix x q then o else none) (EV sc (m, uc, us, pc, ls, .int v :: .int x :: .ref (a + 1) :: st, (rp_L0, σ))) := rp_Le_bif (fun o ho => rp_bsk hl hL hv ho) K
theorem rp_lil {a q k : Nat} {x : Int32} (hl : rp_lk pc (rp_mi m) = some (.iaload, n, i)) (hL : rp_L0[a + 1]? = some (.inl (false, q))) (hx : rp_ix x q = true) (hk : x.toNatClampNeg = k) (K : rp_Le o (EV sc (m, uc, us, pc + n, ls, .int (σ (a + 1) k) :: st, (rp_L0, σ)))) : rp_Le o (EV sc (m, uc, us, pc, ls, .int x :: .ref (a + 1) :: st, (rp_L0, σ))) := by
  subst hk
  have := rp_lia (x := x) hl hL K
  rw [hx] at this
  exact this
theorem rp_lsl {a q k : Nat} {x v : Int32} (hl : rp_lk pc (rp_mi m) = some (.iastore, n, i)) (hL : rp_L0[a + 1]? = some (.inl (false, q))) (hx : rp_ix x q = true) (hk : x.toNatClampNeg = k) (K : rp_Le o (EV sc (m, uc, us, pc + n, ls, st, (rp_L0, rp_wr σ (a + 1) k v)))) : rp_Le o (EV sc (m, uc, us, pc, ls, .int v :: .int x :: .ref (a + 1) :: st, (rp_L0, σ))) := by
  subst hk
  have := rp_lis (x := x) hl hL K
  rw [hx] at this
  exact this
theorem rp_lsc {q : Nat} {xs : Nat → Int32} {x : Int32} (hl : rp_lk pc (rp_mi m) = some (.iaload, n, i)) (K : rp_Le o (EV (some (q, xs)) (m, uc, us, pc + n, ls, .int (xs x.toNatClampNeg) :: st, (rp_L0, σ)))) : rp_Le (bif rp_ix x q then o else none) (EV (some (q, xs)) (m, uc, us, pc, ls, .int x :: .ref 0 :: st, (rp_L0, σ))) := rp_Le_bif (fun o ho => rp_sck hl ho) K
theorem rp_ldg {x y : Int32} (hl : rp_lk pc (rp_mi m) = some (.idiv, n, i)) (K : rp_Le o (EV sc (m, uc, us, pc + n, ls, .int (x / y) :: st, h))) : rp_Le (if y = 0 then none else o) (EV sc (m, uc, us, pc, ls, .int y :: .int x :: st, h)) := by
  intro z hz
  rw [rp_dvk hl rfl]
  split
  next hy => rw [if_pos hy] at hz; cases hz
  next hy => rw [if_neg hy] at hz; exact K z hz
theorem rp_lrg {x y : Int32} (hl : rp_lk pc (rp_mi m) = some (.irem, n, i)) (K : rp_Le o (EV sc (m, uc, us, pc + n, ls, .int (x - x / y * y) :: st, h))) : rp_Le (if y = 0 then none else o) (EV sc (m, uc, us, pc, ls, .int y :: .int x :: st, h)) := by
  intro z hz
  rw [rp_rmk hl rfl]
  split
  next hy => rw [if_pos hy] at hz; cases hz
  next hy => rw [if_neg hy] at hz; exact K z hz
theorem rp_ldv {x y : Int32} (hl : rp_lk pc (rp_mi m) = some (.idiv, n, i)) (hy : ¬ y = 0) (K : rp_Le o (EV sc (m, uc, us, pc + n, ls, .int (x / y) :: st, h))) : rp_Le o (EV sc (m, uc, us, pc, ls, .int y :: .int x :: st, h)) := by
  have := rp_ldg (x := x) hl K
  rw [if_neg hy] at this
  exact this
theorem rp_lrm {x y : Int32} (hl : rp_lk pc (rp_mi m) = some (.irem, n, i)) (hy : ¬ y = 0) (K : rp_Le o (EV sc (m, uc, us, pc + n, ls, .int (x - x / y * y) :: st, h))) : rp_Le o (EV sc (m, uc, us, pc, ls, .int y :: .int x :: st, h)) := by
  have := rp_lrg (x := x) hl K
  rw [if_neg hy] at this
  exact this
theorem rp_lle {k : Nat} {w1 : Value} {l1 : List (Int32 × Nat)} (hl : rp_lk pc (rp_mi m) = some (.invokevirtual k, n, 5003, 1, w1, l1)) {w : Nat} (hw : w < 12) (hr : Nat.ble (rp_cat st) 8 = true) (K : rp_Le o (EV sc (m, uc, us, pc + n, ls, .int (Int32.ofNat (rp_tx w).length) :: st, h))) : rp_Le o (EV sc (m, uc, us, pc, ls, .ref (1000 + w) :: st, h)) := by
  refine rp_ln hl (t := (m, uc, us, pc + n, ls, .int (Int32.ofNat (rp_tx w).length) :: st, h)) ?_ K
  show (bif Nat.ble (rp_cat st) 8 then (rp_lib rp_tx 5003 (.ref (1000 + w) :: st)).map _ else none) = _
  rw [hr]
  have h1 : Nat.ble 1000 (1000 + w) = true := Nat.ble_eq_true_of_le (by omega)
  have h2 : Nat.blt (1000 + w) 1012 = true := Nat.ble_eq_true_of_le (by omega)
  simp [rp_lib, h1, h2]
theorem rp_lch {k : Nat} {w1 : Value} {l1 : List (Int32 × Nat)} {x : Int32} (hl : rp_lk pc (rp_mi m) = some (.invokevirtual k, n, 5004, 2, w1, l1)) {w : Nat} (hw : w < 12) (hr : Nat.ble (rp_cat st) 8 = true) (K : rp_Le o (EV sc (m, uc, us, pc + n, ls, .int ((rp_tx w).getD x.toNatClampNeg 0) :: st, h))) : rp_Le (bif rp_ix x (rp_tx w).length then o else none) (EV sc (m, uc, us, pc, ls, .int x :: .ref (1000 + w) :: st, h)) := by
  intro y hy
  cases hx : rp_ix x (rp_tx w).length with
  | false => rw [hx] at hy; cases hy
  | true =>
    rw [hx] at hy
    refine rp_ln hl (t := (m, uc, us, pc + n, ls, .int ((rp_tx w).getD x.toNatClampNeg 0) :: st, h)) ?_ K y hy
    show (bif Nat.ble (rp_cat st) 8 then (rp_lib rp_tx 5004 (.int x :: .ref (1000 + w) :: st)).map _ else none) = _
    rw [hr]
    have h1 : Nat.ble 1000 (1000 + w) = true := Nat.ble_eq_true_of_le (by omega)
    have h2 : Nat.blt (1000 + w) 1012 = true := Nat.ble_eq_true_of_le (by omega)
    simp [rp_lib, h1, h2, hx]
theorem rp_call_ok {c k : Nat} {w : Value} {l : List (Int32 × Nat)} {args st' : List Value} (hl : rp_lk pc (rp_mi m) = some (I, n, c, k, w, l)) (hI : (!rp_isHeap I && (rp_isCall I && !Nat.ble 5000 c)) = true) (hg : rp_cg rp_mt (c, k, w, l) m uc us st = true) (ha : (st.take k).reverse = args) (hd : st.drop k = st') (hr : rp_recv I h (rp_mt c).2.2.2.2.1 args = true) :
    EV sc (m, uc, us, pc, ls, st, h) = rp_then (EV sc (c, 0, 0, 0, rp_en (rp_mt c).2.2.1 args, [], h)) (fun r => EV sc (m, uc + (rp_mt c).2.2.2.2.2.2.2.1, us + (rp_mt c).2.2.2.2.2.2.2.2, pc + 3, ls, r.1.toList ++ st', r.2)) := by
  subst ha
  subst hd
  simp only [Bool.and_eq_true, Bool.not_eq_true'] at hI
  refine rp_cl hl ?_
  unfold rp_one
  rw [hI.1, hI.2.1]
  dsimp only [cond]
  rw [hI.2.2]
  dsimp only [cond]
  unfold rp_call
  rw [hg, hr]
  rfl
theorem rp_lci {c k uc' us' : Nat} {w : Value} {l : List (Int32 × Nat)} {args st' : List Value} {X : Int32 → rp_Mm → Option rp_Rs} (hl : rp_lk pc (rp_mi m) = some (I, n, c, k, w, l)) (hr : rp_recv I (rp_L0, σ) (rp_mt c).2.2.2.2.1 args = true) (hI : (!rp_isHeap I && (rp_isCall I && !Nat.ble 5000 c)) = true) (hg : rp_cg rp_mt (c, k, w, l) m uc us st = true) (ha : (st.take k).reverse = args) (hd : st.drop k = st') (hu : uc + (rp_mt c).2.2.2.2.2.2.2.1 = uc') (hs : us + (rp_mt c).2.2.2.2.2.2.2.2 = us') (K : ∀ v σ', rp_Le (X v σ') (EV sc (m, uc', us', pc + 3, ls, .int v :: st', (rp_L0, σ')))) : rp_Le (thI (CL sc c args σ) X) (EV sc (m, uc, us, pc, ls, st, (rp_L0, σ))) := by
  intro x hx
  obtain ⟨v, σ', h1, h2⟩ := thI_some hx
  rw [rp_call_ok hl hI hg ha hd hr]
  have h1 : EV sc (c, 0, 0, 0, rp_en (rp_mt c).2.2.1 args, [], (rp_L0, σ)) = RI v σ' := h1
  rw [h1, hu, hs]
  exact K v σ' x h2
theorem rp_lcv {c k uc' us' : Nat} {w : Value} {l : List (Int32 × Nat)} {args st' : List Value} {X : rp_Mm → Option rp_Rs} (hl : rp_lk pc (rp_mi m) = some (I, n, c, k, w, l)) (hr : rp_recv I (rp_L0, σ) (rp_mt c).2.2.2.2.1 args = true) (hI : (!rp_isHeap I && (rp_isCall I && !Nat.ble 5000 c)) = true) (hg : rp_cg rp_mt (c, k, w, l) m uc us st = true) (ha : (st.take k).reverse = args) (hd : st.drop k = st') (hu : uc + (rp_mt c).2.2.2.2.2.2.2.1 = uc') (hs : us + (rp_mt c).2.2.2.2.2.2.2.2 = us') (K : ∀ σ', rp_Le (X σ') (EV sc (m, uc', us', pc + 3, ls, st', (rp_L0, σ')))) : rp_Le (thV (CL sc c args σ) X) (EV sc (m, uc, us, pc, ls, st, (rp_L0, σ))) := by
  intro x hx
  obtain ⟨σ', h1, h2⟩ := thV_some hx
  rw [rp_call_ok hl hI hg ha hd hr]
  have h1 : EV sc (c, 0, 0, 0, rp_en (rp_mt c).2.2.1 args, [], (rp_L0, σ)) = RV σ' := h1
  rw [h1, hu, hs]
  exact K σ' x h2
theorem rp_lcr {c k uc' us' : Nat} {w : Value} {l : List (Int32 × Nat)} {args st' : List Value} {X : Nat → rp_Mm → Option rp_Rs} (hl : rp_lk pc (rp_mi m) = some (I, n, c, k, w, l)) (hr : rp_recv I (rp_L0, σ) (rp_mt c).2.2.2.2.1 args = true) (hI : (!rp_isHeap I && (rp_isCall I && !Nat.ble 5000 c)) = true) (hg : rp_cg rp_mt (c, k, w, l) m uc us st = true) (ha : (st.take k).reverse = args) (hd : st.drop k = st') (hu : uc + (rp_mt c).2.2.2.2.2.2.2.1 = uc') (hs : us + (rp_mt c).2.2.2.2.2.2.2.2 = us') (K : ∀ v σ', rp_Le (X v σ') (EV sc (m, uc', us', pc + 3, ls, .ref v :: st', (rp_L0, σ')))) : rp_Le (thR (CL sc c args σ) X) (EV sc (m, uc, us, pc, ls, st, (rp_L0, σ))) := by
  intro x hx
  obtain ⟨v, σ', h1, h2⟩ := thR_some hx
  rw [rp_call_ok hl hI hg ha hd hr]
  have h1 : EV sc (c, 0, 0, 0, rp_en (rp_mt c).2.2.1 args, [], (rp_L0, σ)) = RR v σ' := h1
  rw [h1, hu, hs]
  exact K v σ' x h2
theorem rp_lri {v : Int32} (hl : rp_lk pc (rp_mi m) = some (.ireturn, n, i)) (ht : (rp_mt m).2.2.2.1 = some .int) : rp_Le (RI v σ) (EV sc (m, uc, us, pc, ls, [.int v], (rp_L0, σ))) := by
  refine rp_Le_eq (rp_ret1 hl ?_)
  show (rp_ret (rp_mt m).2.2.2.1 .ireturn [.int v]).map _ = _
  rw [ht]
  rfl
theorem rp_lrz {v : Int32} (hl : rp_lk pc (rp_mi m) = some (.ireturn, n, i)) (ht : (rp_mt m).2.2.2.1 = some .boolean) (hv : v &&& 1 = v) : rp_Le (RI v σ) (EV sc (m, uc, us, pc, ls, [.int v], (rp_L0, σ))) := by
  refine rp_Le_eq (rp_ret1 hl ?_)
  show (rp_ret (rp_mt m).2.2.2.1 .ireturn [.int v]).map _ = _
  rw [ht]
  simp [rp_ret, hv]
theorem rp_lrq {v : Int32} (hl : rp_lk pc (rp_mi m) = some (.ireturn, n, i)) (ht : (rp_mt m).2.2.2.1 = some .boolean) : rp_Le (if v &&& 1 = v then RI v σ else none) (EV sc (m, uc, us, pc, ls, [.int v], (rp_L0, σ))) := by
  split
  next hv => exact rp_lrz hl ht hv
  next => exact rp_Le_none
theorem rp_lra {v : Nat} {c : String} (hl : rp_lk pc (rp_mi m) = some (.areturn, n, i)) (ht : (rp_mt m).2.2.2.1 = some (.object c)) : rp_Le (RR v σ) (EV sc (m, uc, us, pc, ls, [.ref v], (rp_L0, σ))) := by
  refine rp_Le_eq (rp_ret1 hl ?_)
  show (rp_ret (rp_mt m).2.2.2.1 .areturn [.ref v]).map _ = _
  rw [ht]
  rfl
theorem rp_lrv (hl : rp_lk pc (rp_mi m) = some (.return_, n, i)) (ht : (rp_mt m).2.2.2.1 = none) : rp_Le (RV σ) (EV sc (m, uc, us, pc, ls, [], (rp_L0, σ))) := by
  refine rp_Le_eq (rp_ret1 hl ?_)
  show (rp_ret (rp_mt m).2.2.2.1 .return_ []).map _ = _
  rw [ht]
  rfl
end
end
section
def RX0 : String := "RailPasses$Book"
def TX0 : u_T := fun k => match k with
  | 0 => ("RailPasses$Book", "lines", "LRailPasses$Table;", true)
  | 1 => ("RailPasses$Book", "trains", "LRailPasses$Table;", true)
  | 2 => ("RailPasses$Book", "laws", "LRailPasses$Table;", true)
  | 3 => ("RailPasses$Book", "passes", "LRailPasses$Table;", true)
  | 4 => ("RailPasses$Book", "rides", "LRailPasses$Table;", true)
  | 5 => ("RailPasses$Book", "wishes", "LRailPasses$Table;", true)
  | 6 => ("RailPasses$Book", "scans", "LRailPasses$Table;", true)
  | _ => ("RailPasses$Book", "today", "I", false)
def tyX0 : Nat → FieldType := fun k => match k with
  | 0 => .object "RailPasses$Table"
  | 1 => .object "RailPasses$Table"
  | 2 => .object "RailPasses$Table"
  | 3 => .object "RailPasses$Table"
  | 4 => .object "RailPasses$Table"
  | 5 => .object "RailPasses$Table"
  | 6 => .object "RailPasses$Table"
  | _ => .int
abbrev wsX00 : List Cond := u_ws RX0 TX0 8
theorem nmX0 : ∀ a, a < 8 → ∀ b, b < 8 → a ≠ b → (TX0 a).2.1 ≠ (TX0 b).2.1 := by decide +kernel
theorem tyX0_ok : ∀ k, k < 8 → parseFieldDescriptor (TX0 k).2.2.1 = some (tyX0 k) := by decide +kernel
def RX1 : String := "RailPasses$LawText"
def TX1 : u_T := fun k => match k with
  | 0 => ("RailPasses$LawText", "bytes", "[I", true)
  | 1 => ("RailPasses$LawText", "size", "I", false)
  | 2 => ("RailPasses$LawText", "first", "I", false)
  | 3 => ("RailPasses$LawText", "behind", "I", false)
  | 4 => ("RailPasses$LawText", "terms", "[I", true)
  | 5 => ("RailPasses$LawText", "kindsSeen", "I", false)
  | _ => ("RailPasses$LawText", "rules", "I", false)
def tyX1 : Nat → FieldType := fun k => match k with
  | 0 => .array .int
  | 1 => .int
  | 2 => .int
  | 3 => .int
  | 4 => .array .int
  | 5 => .int
  | _ => .int
abbrev wsX10 : List Cond := u_ws RX1 TX1 7
theorem nmX1 : ∀ a, a < 7 → ∀ b, b < 7 → a ≠ b → (TX1 a).2.1 ≠ (TX1 b).2.1 := by decide +kernel
theorem tyX1_ok : ∀ k, k < 7 → parseFieldDescriptor (TX1 k).2.2.1 = some (tyX1 k) := by decide +kernel
def RX2 : String := "RailPasses$Ledger"
def TX2 : u_T := fun k => match k with
  | 0 => ("RailPasses$Ledger", "order", "[I", true)
  | 1 => ("RailPasses$Ledger", "known", "I", false)
  | 2 => ("RailPasses$Ledger", "legs", "I", false)
  | 3 => ("RailPasses$Ledger", "wayless", "I", false)
  | 4 => ("RailPasses$Ledger", "doubted", "I", false)
  | _ => ("RailPasses$Ledger", "miles", "[I", true)
def tyX2 : Nat → FieldType := fun k => match k with
  | 0 => .array .int
  | 1 => .int
  | 2 => .int
  | 3 => .int
  | 4 => .int
  | _ => .array .int
abbrev wsX20 : List Cond := u_ws RX2 TX2 6
theorem nmX2 : ∀ a, a < 6 → ∀ b, b < 6 → a ≠ b → (TX2 a).2.1 ≠ (TX2 b).2.1 := by decide +kernel
theorem tyX2_ok : ∀ k, k < 6 → parseFieldDescriptor (TX2 k).2.2.1 = some (tyX2 k) := by decide +kernel
def RX3 : String := "RailPasses$Plan"
def TX3 : u_T := fun k => match k with
  | 0 => ("RailPasses$Plan", "days", "[I", true)
  | 1 => ("RailPasses$Plan", "spared", "[I", true)
  | 2 => ("RailPasses$Plan", "goers", "[I", true)
  | 3 => ("RailPasses$Plan", "size", "I", false)
  | 4 => ("RailPasses$Plan", "daysToSpend", "I", false)
  | 5 => ("RailPasses$Plan", "within", "I", false)
  | 6 => ("RailPasses$Plan", "price", "I", false)
  | 7 => ("RailPasses$Plan", "fares", "I", false)
  | 8 => ("RailPasses$Plan", "cost", "I", false)
  | 9 => ("RailPasses$Plan", "chosen", "I", false)
  | _ => ("RailPasses$Plan", "start", "I", false)
def tyX3 : Nat → FieldType := fun k => match k with
  | 0 => .array .int
  | 1 => .array .int
  | 2 => .array .int
  | 3 => .int
  | 4 => .int
  | 5 => .int
  | 6 => .int
  | 7 => .int
  | 8 => .int
  | 9 => .int
  | _ => .int
abbrev wsX30 : List Cond := u_ws RX3 TX3 11
theorem nmX3 : ∀ a, a < 11 → ∀ b, b < 11 → a ≠ b → (TX3 a).2.1 ≠ (TX3 b).2.1 := by decide +kernel
theorem tyX3_ok : ∀ k, k < 11 → parseFieldDescriptor (TX3 k).2.2.1 = some (tyX3 k) := by decide +kernel
def RX4 : String := "RailPasses$Proof"
def TX4 : u_T := fun k => match k with
  | _ => ("RailPasses$Proof", "rows", "LRailPasses$Table;", true)
def tyX4 : Nat → FieldType := fun k => match k with
  | _ => .object "RailPasses$Table"
abbrev wsX40 : List Cond := u_ws RX4 TX4 1
theorem nmX4 : ∀ a, a < 1 → ∀ b, b < 1 → a ≠ b → (TX4 a).2.1 ≠ (TX4 b).2.1 := by decide +kernel
theorem tyX4_ok : ∀ k, k < 1 → parseFieldDescriptor (TX4 k).2.2.1 = some (tyX4 k) := by decide +kernel
def RX5 : String := "RailPasses$Table"
def TX5 : u_T := fun k => match k with
  | 0 => ("RailPasses$Table", "cells", "[I", true)
  | 1 => ("RailPasses$Table", "limit", "I", true)
  | 2 => ("RailPasses$Table", "width", "I", true)
  | _ => ("RailPasses$Table", "size", "I", false)
def tyX5 : Nat → FieldType := fun k => match k with
  | 0 => .array .int
  | 1 => .int
  | 2 => .int
  | _ => .int
abbrev wsX50 : List Cond := u_ws RX5 TX5 4
theorem nmX5 : ∀ a, a < 4 → ∀ b, b < 4 → a ≠ b → (TX5 a).2.1 ≠ (TX5 b).2.1 := by decide +kernel
theorem tyX5_ok : ∀ k, k < 4 → parseFieldDescriptor (TX5 k).2.2.1 = some (tyX5 k) := by decide +kernel
def RX6 : String := "RailPasses$Ways"
def TX6 : u_T := fun k => match k with
  | _ => ("RailPasses$Ways", "keys", "[I", true)
def tyX6 : Nat → FieldType := fun k => match k with
  | _ => .array .int
abbrev wsX60 : List Cond := u_ws RX6 TX6 1
theorem nmX6 : ∀ a, a < 1 → ∀ b, b < 1 → a ≠ b → (TX6 a).2.1 ≠ (TX6 b).2.1 := by decide +kernel
theorem tyX6_ok : ∀ k, k < 1 → parseFieldDescriptor (TX6 k).2.2.1 = some (tyX6 k) := by decide +kernel
def RX7 : String := "RailPasses"
def TX7 : u_T := fun k => match k with
  | 0 => ("RailPasses", "now", "LRailPasses$Book;", true)
  | 1 => ("RailPasses", "kept", "LRailPasses$Book;", true)
  | 2 => ("RailPasses", "isKept", "Z", false)
  | 3 => ("RailPasses", "text", "LRailPasses$LawText;", true)
  | 4 => ("RailPasses", "ways", "LRailPasses$Ways;", true)
  | 5 => ("RailPasses", "plan", "LRailPasses$Plan;", true)
  | 6 => ("RailPasses", "proof", "LRailPasses$Proof;", true)
  | _ => ("RailPasses", "ledger", "LRailPasses$Ledger;", true)
def tyX7 : Nat → FieldType := fun k => match k with
  | 0 => .object "RailPasses$Book"
  | 1 => .object "RailPasses$Book"
  | 2 => .boolean
  | 3 => .object "RailPasses$LawText"
  | 4 => .object "RailPasses$Ways"
  | 5 => .object "RailPasses$Plan"
  | 6 => .object "RailPasses$Proof"
  | _ => .object "RailPasses$Ledger"
abbrev wsX70 : List Cond := u_ws RX7 TX7 8
theorem nmX7 : ∀ a, a < 8 → ∀ b, b < 8 → a ≠ b → (TX7 a).2.1 ≠ (TX7 b).2.1 := by decide +kernel
theorem tyX7_ok : ∀ k, k < 8 → parseFieldDescriptor (TX7 k).2.2.1 = some (tyX7 k) := by decide +kernel
def RX8 : String := "RailPassesModel"
def TX8 : u_T := fun k => match k with
  | 0 => ("RailPassesModel", "numbers", "[I", true)
  | 1 => ("RailPassesModel", "lines", "[I", true)
  | 2 => ("RailPassesModel", "trains", "[I", true)
  | 3 => ("RailPassesModel", "laws", "[I", true)
  | 4 => ("RailPassesModel", "passes", "[I", true)
  | 5 => ("RailPassesModel", "rides", "[I", true)
  | 6 => ("RailPassesModel", "wishes", "[I", true)
  | 7 => ("RailPassesModel", "scans", "[I", true)
  | 8 => ("RailPassesModel", "tape", "[I", true)
  | 9 => ("RailPassesModel", "tapeMany", "I", false)
  | 10 => ("RailPassesModel", "tokenKind", "I", false)
  | 11 => ("RailPassesModel", "tokenAt", "I", false)
  | 12 => ("RailPassesModel", "tokenEnd", "I", false)
  | 13 => ("RailPassesModel", "tokenValue", "I", false)
  | 14 => ("RailPassesModel", "fault", "I", false)
  | 15 => ("RailPassesModel", "seen", "I", false)
  | 16 => ("RailPassesModel", "gains", "[I", true)
  | 17 => ("RailPassesModel", "goers", "[I", true)
  | 18 => ("RailPassesModel", "isTaken", "[Z", true)
  | 19 => ("RailPassesModel", "takenMany", "I", false)
  | 20 => ("RailPassesModel", "takenGain", "I", false)
  | 21 => ("RailPassesModel", "takenGoers", "I", false)
  | 22 => ("RailPassesModel", "due", "[I", true)
  | 23 => ("RailPassesModel", "dueMany", "I", false)
  | 24 => ("RailPassesModel", "rows", "[I", true)
  | 25 => ("RailPassesModel", "rowMany", "I", false)
  | 26 => ("RailPassesModel", "far", "[I", true)
  | 27 => ("RailPassesModel", "told", "[I", true)
  | 28 => ("RailPassesModel", "rests", "[I", true)
  | 29 => ("RailPassesModel", "shares", "[I", true)
  | 30 => ("RailPassesModel", "isKept", "Z", false)
  | 31 => ("RailPassesModel", "kept", "[I", true)
  | _ => ("RailPassesModel", "place", "I", false)
def tyX8 : Nat → FieldType := fun k => match k with
  | 0 => .array .int
  | 1 => .array .int
  | 2 => .array .int
  | 3 => .array .int
  | 4 => .array .int
  | 5 => .array .int
  | 6 => .array .int
  | 7 => .array .int
  | 8 => .array .int
  | 9 => .int
  | 10 => .int
  | 11 => .int
  | 12 => .int
  | 13 => .int
  | 14 => .int
  | 15 => .int
  | 16 => .array .int
  | 17 => .array .int
  | 18 => .array .boolean
  | 19 => .int
  | 20 => .int
  | 21 => .int
  | 22 => .array .int
  | 23 => .int
  | 24 => .array .int
  | 25 => .int
  | 26 => .array .int
  | 27 => .array .int
  | 28 => .array .int
  | 29 => .array .int
  | 30 => .boolean
  | 31 => .array .int
  | _ => .int
abbrev wsX80 : List Cond := u_ws RX8 TX8 33
theorem nmX8 : ∀ a, a < 33 → ∀ b, b < 33 → a ≠ b → (TX8 a).2.1 ≠ (TX8 b).2.1 := by decide +kernel
theorem tyX8_ok : ∀ k, k < 33 → parseFieldDescriptor (TX8 k).2.2.1 = some (tyX8 k) := by decide +kernel
def RX9 : String := "RailPassesLaw"
abbrev rp_cls : List vw_C := [(RX0, TX0, 8), (RX1, TX1, 7), (RX2, TX2, 6), (RX3, TX3, 11), (RX4, TX4, 1), (RX5, TX5, 4), (RX6, TX6, 1), (RX7, TX7, 8), (RX8, TX8, 33)]
def rp_gt : List Cond := lw_tbl.filter goodWord
theorem rp_gt_of {w : Cond} (i : Nat) (h : lw_tbl[i]? = some w) (hg : goodWord w = true) : w ∈ rp_gt := List.mem_filter.mpr ⟨List.mem_of_getElem? h, hg⟩
theorem rp_gt_in {w : Cond} (h : w ∈ rp_gt) : w ∈ lw_tbl := (List.mem_filter.mp h).1
theorem rp_gt_good : GoodIn rp_gt rp_gt := fun w h => ⟨h, good_of_word (List.mem_filter.mp h).2⟩
def rp_cn (o : Nat) : String := [RX0, RX1, RX2, RX3, RX4, RX5, RX6, RX7, RX8, RX9].getD o ""
def rp_TT (o : Nat) : u_T := [TX0, TX1, TX2, TX3, TX4, TX5, TX6, TX7, TX8].getD o TX0
def rp_NN (o : Nat) : Nat := [8, 7, 6, 11, 1, 4, 1, 8, 33].getD o 0
def rp_ty (o : Nat) : Nat → FieldType := [tyX0, tyX1, tyX2, tyX3, tyX4, tyX5, tyX6, tyX7, tyX8].getD o tyX0
theorem rp_lay0 : ∀ k, k < 8 → lw_tbl[[167, 169, 171, 173, 175, 177, 179, 181].getD k 0]? = some (u_lay RX0 TX0 k) := by decide +kernel
theorem rp_in0 : ∀ w ∈ u_ws RX0 TX0 8, w ∈ rp_gt := by
  intro w hw
  obtain ⟨k, hk, rfl⟩ := List.mem_map.mp hw
  refine rp_gt_of _ (rp_lay0 k (List.mem_range.mp hk)) ?_
  unfold u_lay
  split <;> rfl
theorem rp_ins0 : Cond.instantiable RX0 8 ∈ rp_gt := rp_gt_of 102 (by decide +kernel) rfl
theorem rp_ini0 : Cond.initialized RX0 ∈ rp_gt := rp_gt_of 80 (by decide +kernel) rfl
theorem rp_lay1 : ∀ k, k < 7 → lw_tbl[[197, 199, 201, 203, 205, 207, 209].getD k 0]? = some (u_lay RX1 TX1 k) := by decide +kernel
theorem rp_in1 : ∀ w ∈ u_ws RX1 TX1 7, w ∈ rp_gt := by
  intro w hw
  obtain ⟨k, hk, rfl⟩ := List.mem_map.mp hw
  refine rp_gt_of _ (rp_lay1 k (List.mem_range.mp hk)) ?_
  unfold u_lay
  split <;> rfl
theorem rp_ins1 : Cond.instantiable RX1 7 ∈ rp_gt := rp_gt_of 185 (by decide +kernel) rfl
theorem rp_ini1 : Cond.initialized RX1 ∈ rp_gt := rp_gt_of 83 (by decide +kernel) rfl
theorem rp_lay2 : ∀ k, k < 6 → lw_tbl[[292, 294, 296, 298, 300, 302].getD k 0]? = some (u_lay RX2 TX2 k) := by decide +kernel
theorem rp_in2 : ∀ w ∈ u_ws RX2 TX2 6, w ∈ rp_gt := by
  intro w hw
  obtain ⟨k, hk, rfl⟩ := List.mem_map.mp hw
  refine rp_gt_of _ (rp_lay2 k (List.mem_range.mp hk)) ?_
  unfold u_lay
  split <;> rfl
theorem rp_ins2 : Cond.instantiable RX2 6 ∈ rp_gt := rp_gt_of 281 (by decide +kernel) rfl
theorem rp_ini2 : Cond.initialized RX2 ∈ rp_gt := rp_gt_of 87 (by decide +kernel) rfl
theorem rp_lay3 : ∀ k, k < 11 → lw_tbl[[244, 246, 248, 250, 252, 254, 256, 258, 260, 262, 264].getD k 0]? = some (u_lay RX3 TX3 k) := by decide +kernel
theorem rp_in3 : ∀ w ∈ u_ws RX3 TX3 11, w ∈ rp_gt := by
  intro w hw
  obtain ⟨k, hk, rfl⟩ := List.mem_map.mp hw
  refine rp_gt_of _ (rp_lay3 k (List.mem_range.mp hk)) ?_
  unfold u_lay
  split <;> rfl
theorem rp_ins3 : Cond.instantiable RX3 11 ∈ rp_gt := rp_gt_of 228 (by decide +kernel) rfl
theorem rp_ini3 : Cond.initialized RX3 ∈ rp_gt := rp_gt_of 85 (by decide +kernel) rfl
theorem rp_lay4 : ∀ k, k < 1 → lw_tbl[[277].getD k 0]? = some (u_lay RX4 TX4 k) := by decide +kernel
theorem rp_in4 : ∀ w ∈ u_ws RX4 TX4 1, w ∈ rp_gt := by
  intro w hw
  obtain ⟨k, hk, rfl⟩ := List.mem_map.mp hw
  refine rp_gt_of _ (rp_lay4 k (List.mem_range.mp hk)) ?_
  unfold u_lay
  split <;> rfl
theorem rp_ins4 : Cond.instantiable RX4 1 ∈ rp_gt := rp_gt_of 268 (by decide +kernel) rfl
theorem rp_ini4 : Cond.initialized RX4 ∈ rp_gt := rp_gt_of 86 (by decide +kernel) rfl
theorem rp_lay5 : ∀ k, k < 4 → lw_tbl[[120, 122, 124, 126].getD k 0]? = some (u_lay RX5 TX5 k) := by decide +kernel
theorem rp_in5 : ∀ w ∈ u_ws RX5 TX5 4, w ∈ rp_gt := by
  intro w hw
  obtain ⟨k, hk, rfl⟩ := List.mem_map.mp hw
  refine rp_gt_of _ (rp_lay5 k (List.mem_range.mp hk)) ?_
  unfold u_lay
  split <;> rfl
theorem rp_ins5 : Cond.instantiable RX5 4 ∈ rp_gt := rp_gt_of 108 (by decide +kernel) rfl
theorem rp_ini5 : Cond.initialized RX5 ∈ rp_gt := rp_gt_of 81 (by decide +kernel) rfl
theorem rp_lay6 : ∀ k, k < 1 → lw_tbl[[224].getD k 0]? = some (u_lay RX6 TX6 k) := by decide +kernel
theorem rp_in6 : ∀ w ∈ u_ws RX6 TX6 1, w ∈ rp_gt := by
  intro w hw
  obtain ⟨k, hk, rfl⟩ := List.mem_map.mp hw
  refine rp_gt_of _ (rp_lay6 k (List.mem_range.mp hk)) ?_
  unfold u_lay
  split <;> rfl
theorem rp_ins6 : Cond.instantiable RX6 1 ∈ rp_gt := rp_gt_of 213 (by decide +kernel) rfl
theorem rp_ini6 : Cond.initialized RX6 ∈ rp_gt := rp_gt_of 84 (by decide +kernel) rfl
theorem rp_lay7 : ∀ k, k < 8 → lw_tbl[[313, 315, 317, 319, 321, 323, 325, 327].getD k 0]? = some (u_lay RX7 TX7 k) := by decide +kernel
theorem rp_in7 : ∀ w ∈ u_ws RX7 TX7 8, w ∈ rp_gt := by
  intro w hw
  obtain ⟨k, hk, rfl⟩ := List.mem_map.mp hw
  refine rp_gt_of _ (rp_lay7 k (List.mem_range.mp hk)) ?_
  unfold u_lay
  split <;> rfl
theorem rp_ins7 : Cond.instantiable RX7 8 ∈ rp_gt := rp_gt_of 94 (by decide +kernel) rfl
theorem rp_ini7 : Cond.initialized RX7 ∈ rp_gt := rp_gt_of 79 (by decide +kernel) rfl
theorem rp_lay8 : ∀ k, k < 33 → lw_tbl[[989, 991, 993, 995, 997, 999, 1001, 1003, 1005, 1007, 1009, 1011, 1013, 1015, 1017, 1019, 1021, 1023, 1025, 1027, 1029, 1031, 1033, 1035, 1037, 1039, 1041, 1043, 1045, 1047, 1049, 1051, 1053].getD k 0]? = some (u_lay RX8 TX8 k) := by decide +kernel
theorem rp_in8 : ∀ w ∈ u_ws RX8 TX8 33, w ∈ rp_gt := by
  intro w hw
  obtain ⟨k, hk, rfl⟩ := List.mem_map.mp hw
  refine rp_gt_of _ (rp_lay8 k (List.mem_range.mp hk)) ?_
  unfold u_lay
  split <;> rfl
theorem rp_ins8 : Cond.instantiable RX8 33 ∈ rp_gt := rp_gt_of 951 (by decide +kernel) rfl
theorem rp_ini8 : Cond.initialized RX8 ∈ rp_gt := rp_gt_of 88 (by decide +kernel) rfl
theorem rp_ini9 : Cond.initialized RX9 ∈ rp_gt := rp_gt_of 78 (by decide +kernel) rfl
/-- what is known of a class -/
def rp_CF (ci : Nat) : Prop := rp_cls[ci]? = some (rp_cn ci, rp_TT ci, rp_NN ci) ∧ (∀ w ∈ u_ws (rp_cn ci) (rp_TT ci) (rp_NN ci), w ∈ rp_gt) ∧ (∀ k, k < rp_NN ci → parseFieldDescriptor (rp_TT ci k).2.2.1 = some (rp_ty ci k)) ∧ (∀ a, a < rp_NN ci → ∀ b, b < rp_NN ci → a ≠ b → (rp_TT ci a).2.1 ≠ (rp_TT ci b).2.1) ∧ (rp_cf ci).length = rp_NN ci ∧ Cond.instantiable (rp_cn ci) (rp_NN ci) ∈ rp_gt ∧ Cond.initialized (rp_cn ci) ∈ rp_gt ∧ (∀ k, k < rp_NN ci → (rp_TT ci k).1 = rp_cn ci) ∧ (∀ k, k < rp_NN ci → defaultValue (rp_ty ci k) = (match (rp_cf ci)[k]? with
  | some (some v) => v
  | _ => .int 0)) ∧ ∀ k, k < rp_NN ci → ∀ a, (rp_cf ci)[k]? ≠ some (some (.ref a))
theorem rp_CF0 : rp_CF 0 := ⟨rfl, rp_in0, tyX0_ok, nmX0, rfl, rp_ins0, rp_ini0, by decide +kernel, by decide +kernel, fun k hk a => by
  have h : ∀ k, k < 8 → (match (rp_cf 0)[k]? with
    | some (some (.ref _)) => false
    | _ => true) = true := by decide +kernel
  intro e
  have := h k hk
  rw [e] at this
  cases this⟩
theorem rp_CF1 : rp_CF 1 := ⟨rfl, rp_in1, tyX1_ok, nmX1, rfl, rp_ins1, rp_ini1, by decide +kernel, by decide +kernel, fun k hk a => by
  have h : ∀ k, k < 7 → (match (rp_cf 1)[k]? with
    | some (some (.ref _)) => false
    | _ => true) = true := by decide +kernel
  intro e
  have := h k hk
  rw [e] at this
  cases this⟩
theorem rp_CF2 : rp_CF 2 := ⟨rfl, rp_in2, tyX2_ok, nmX2, rfl, rp_ins2, rp_ini2, by decide +kernel, by decide +kernel, fun k hk a => by
  have h : ∀ k, k < 6 → (match (rp_cf 2)[k]? with
    | some (some (.ref _)) => false
    | _ => true) = true := by decide +kernel
  intro e
  have := h k hk
  rw [e] at this
  cases this⟩
theorem rp_CF3 : rp_CF 3 := ⟨rfl, rp_in3, tyX3_ok, nmX3, rfl, rp_ins3, rp_ini3, by decide +kernel, by decide +kernel, fun k hk a => by
  have h : ∀ k, k < 11 → (match (rp_cf 3)[k]? with
    | some (some (.ref _)) => false
    | _ => true) = true := by decide +kernel
  intro e
  have := h k hk
  rw [e] at this
  cases this⟩
theorem rp_CF4 : rp_CF 4 := ⟨rfl, rp_in4, tyX4_ok, nmX4, rfl, rp_ins4, rp_ini4, by decide +kernel, by decide +kernel, fun k hk a => by
  have h : ∀ k, k < 1 → (match (rp_cf 4)[k]? with
    | some (some (.ref _)) => false
    | _ => true) = true := by decide +kernel
  intro e
  have := h k hk
  rw [e] at this
  cases this⟩
theorem rp_CF5 : rp_CF 5 := ⟨rfl, rp_in5, tyX5_ok, nmX5, rfl, rp_ins5, rp_ini5, by decide +kernel, by decide +kernel, fun k hk a => by
  have h : ∀ k, k < 4 → (match (rp_cf 5)[k]? with
    | some (some (.ref _)) => false
    | _ => true) = true := by decide +kernel
  intro e
  have := h k hk
  rw [e] at this
  cases this⟩
theorem rp_CF6 : rp_CF 6 := ⟨rfl, rp_in6, tyX6_ok, nmX6, rfl, rp_ins6, rp_ini6, by decide +kernel, by decide +kernel, fun k hk a => by
  have h : ∀ k, k < 1 → (match (rp_cf 6)[k]? with
    | some (some (.ref _)) => false
    | _ => true) = true := by decide +kernel
  intro e
  have := h k hk
  rw [e] at this
  cases this⟩
theorem rp_CF7 : rp_CF 7 := ⟨rfl, rp_in7, tyX7_ok, nmX7, rfl, rp_ins7, rp_ini7, by decide +kernel, by decide +kernel, fun k hk a => by
  have h : ∀ k, k < 8 → (match (rp_cf 7)[k]? with
    | some (some (.ref _)) => false
    | _ => true) = true := by decide +kernel
  intro e
  have := h k hk
  rw [e] at this
  cases this⟩
theorem rp_CF8 : rp_CF 8 := ⟨rfl, rp_in8, tyX8_ok, nmX8, rfl, rp_ins8, rp_ini8, by decide +kernel, by decide +kernel, fun k hk a => by
  have h : ∀ k, k < 33 → (match (rp_cf 8)[k]? with
    | some (some (.ref _)) => false
    | _ => true) = true := by decide +kernel
  intro e
  have := h k hk
  rw [e] at this
  cases this⟩
theorem rp_CFs : ∀ ci, ci < 9 → rp_CF ci := fun ci h => match ci, h with
  | 0, _ => rp_CF0
  | 1, _ => rp_CF1
  | 2, _ => rp_CF2
  | 3, _ => rp_CF3
  | 4, _ => rp_CF4
  | 5, _ => rp_CF5
  | 6, _ => rp_CF6
  | 7, _ => rp_CF7
  | 8, _ => rp_CF8
  | n + 9, h => absurd h (by omega)
end
section
def rp_ft : List (Nat × Nat × Nat × Nat × Nat) := [(5, 22, 5, 0, 116), (5, 13, 5, 1, 117), (5, 19, 5, 2, 118), (5, 26, 5, 3, 119), (0, 14, 0, 0, 146), (7, 65, 0, 0, 147), (2, 80, 0, 0, 148), (0, 20, 0, 1, 149), (3, 59, 0, 1, 150), (7, 100, 0, 1, 151), (0, 23, 0, 2, 152), (3, 28, 0, 2, 153), (7, 127, 0, 2, 154), (0, 26, 0, 3, 155), (7, 143, 0, 3, 156), (0, 29, 0, 4, 157), (7, 169, 0, 4, 158), (0, 32, 0, 5, 159), (3, 49, 0, 5, 160), (7, 186, 0, 5, 161), (0, 35, 0, 6, 162), (2, 18, 0, 6, 163), (7, 235, 0, 6, 164), (0, 46, 0, 7, 165), (7, 107, 0, 7, 166), (1, 9, 1, 0, 190), (1, 18, 1, 1, 191), (1, 33, 1, 2, 192), (1, 48, 1, 3, 193), (1, 15, 1, 4, 194), (1, 51, 1, 5, 195), (1, 22, 1, 6, 196), (6, 9, 6, 0, 223), (3, 9, 3, 0, 233), (3, 15, 3, 1, 234), (3, 18, 3, 2, 235), (3, 21, 3, 3, 236), (3, 40, 3, 4, 237), (3, 43, 3, 5, 238), (3, 46, 3, 6, 239), (3, 25, 3, 7, 240), (3, 105, 3, 8, 241), (3, 108, 3, 9, 242), (3, 111, 3, 10, 243), (4, 14, 4, 0, 275), (7, 226, 4, 0, 276), (2, 9, 2, 0, 286), (2, 38, 2, 1, 287), (2, 28, 2, 2, 288), (2, 32, 2, 3, 289), (2, 35, 2, 4, 290), (2, 15, 2, 5, 291), (7, 12, 7, 0, 305), (7, 16, 7, 1, 306), (7, 275, 7, 2, 307), (7, 22, 7, 3, 308), (7, 29, 7, 4, 309), (7, 36, 7, 5, 310), (7, 43, 7, 6, 311), (7, 50, 7, 7, 312), (8, 7, 8, 0, 956), (8, 13, 8, 1, 957), (8, 16, 8, 2, 958), (8, 19, 8, 3, 959), (8, 22, 8, 4, 960), (8, 25, 8, 5, 961), (8, 28, 8, 6, 962), (8, 31, 8, 7, 963), (8, 34, 8, 8, 964), (8, 82, 8, 9, 965), (8, 97, 8, 10, 966), (8, 91, 8, 11, 967), (8, 88, 8, 12, 968), (8, 94, 8, 13, 969), (8, 106, 8, 14, 970), (8, 127, 8, 15, 971), (8, 37, 8, 16, 972), (8, 40, 8, 17, 973), (8, 43, 8, 18, 974), (8, 199, 8, 19, 975), (8, 202, 8, 20, 976), (8, 205, 8, 21, 977), (8, 47, 8, 22, 978), (8, 221, 8, 23, 979), (8, 50, 8, 24, 980), (8, 231, 8, 25, 981), (8, 53, 8, 26, 982), (8, 56, 8, 27, 983), (8, 59, 8, 28, 984), (8, 62, 8, 29, 985), (8, 275, 8, 30, 986), (8, 65, 8, 31, 987), (8, 264, 8, 32, 988)]
theorem rp_ft_ok : ∀ q ∈ rp_ft, lw_tbl[q.2.2.2.2]? = some (.fieldLink (rp_cn q.1) q.2.1 (rp_cn q.2.2.1) (rp_TT q.2.2.1 q.2.2.2.1).2.1 (rp_TT q.2.2.1 q.2.2.2.1).2.2.1) ∧ q.2.2.1 < 9 ∧ q.2.2.2.1 < rp_NN q.2.2.1 := by decide +kernel
def rp_nt : List (Nat × Nat × Nat × Nat) := [(9, 7, 7, 93), (7, 9, 0, 101), (0, 9, 5, 107), (7, 19, 1, 184), (7, 26, 6, 212), (7, 33, 3, 227), (7, 40, 4, 267), (4, 9, 5, 273), (7, 47, 2, 280), (9, 10, 8, 950)]
theorem rp_nt_ok : ∀ q ∈ rp_nt, lw_tbl[q.2.2.2]? = some (.classLink (rp_cn q.1) q.2.1 (rp_cn q.2.2.1)) ∧ q.2.2.1 < 9 := by decide +kernel
def rp_kti : List (Nat × Nat × Int32 × Nat) := [(6, 39, 536870912, 222), (8, 234, 100000000, 1307)]
theorem rp_kti_ok : ∀ q ∈ rp_kti, lw_tbl[q.2.2.2]? = some (.constant (rp_cn q.1) q.2.1 q.2.2.1) := by decide +kernel
def rp_ktl : List (Nat × Nat × Int64 × Nat) := [(1, 25, 255, 409), (8, 86, 255, 1091), (9, 33, 4294967295, 1376)]
theorem rp_ktl_ok : ∀ q ∈ rp_ktl, lw_tbl[q.2.2.2]? = some (.constantLong (rp_cn q.1) q.2.1 q.2.2.1) := by decide +kernel
def rp_si : List Nat := [102, 104, 106, 108, 110, 112, 114, 116, 118, 120, 87, 70]
def rp_sn : List String := ["days", "price", "rail", "line", "night", "fast", "boat", "child", "refund", "lost", "of", "out"]
def rp_mq : List (Nat × Nat × Nat × Nat) := [(97, 96, 0, 0), (105, 104, 0, 0), (111, 110, 0, 2), (133, 131, 132, 0), (137, 135, 136, 0), (141, 139, 140, 3), (145, 144, 0, 2), (188, 187, 0, 0), (216, 215, 0, 0), (221, 220, 1, 0), (231, 230, 0, 0), (271, 270, 0, 0), (284, 283, 0, 0), (333, 331, 332, 5), (336, 335, 0, 1), (339, 338, 0, 3), (342, 341, 0, 1), (348, 347, 0, 1), (352, 350, 351, 1), (356, 354, 355, 0), (360, 358, 359, 2), (364, 363, 2, 3), (369, 367, 368, 2), (373, 372, 3, 2), (377, 375, 376, 6), (381, 379, 380, 1), (384, 383, 0, 1), (387, 386, 0, 1), (392, 390, 391, 2), (396, 394, 395, 1), (400, 398, 399, 2), (404, 402, 403, 0), (408, 406, 407, 2), (413, 411, 412, 1), (417, 415, 416, 0), (421, 420, 4, 0), (425, 424, 5, 2), (429, 428, 6, 0), (433, 432, 7, 1), (439, 438, 0, 1), (443, 442, 8, 0), (447, 446, 9, 0), (450, 449, 0, 1), (464, 463, 10, 1), (516, 515, 11, 1), (519, 518, 0, 1), (523, 522, 12, 0), (527, 526, 13, 2), (533, 532, 14, 1), (537, 536, 15, 1), (540, 539, 0, 1), (544, 542, 543, 1), (548, 547, 16, 1), (553, 552, 17, 0), (557, 555, 556, 0), (560, 559, 0, 1), (565, 563, 564, 0), (570, 568, 569, 2), (574, 572, 573, 1), (579, 577, 578, 3), (582, 581, 0, 1), (586, 584, 585, 3), (590, 589, 0, 2), (594, 592, 593, 2), (598, 596, 597, 1), (603, 602, 18, 3), (607, 605, 606, 1), (611, 609, 610, 1), (615, 613, 614, 1), (619, 617, 618, 1), (624, 622, 623, 1), (628, 626, 627, 3), (632, 630, 631, 3), (636, 634, 635, 4), (640, 638, 639, 3), (645, 643, 644, 2), (649, 647, 648, 3), (653, 651, 652, 3), (657, 655, 656, 3), (661, 659, 660, 2), (665, 663, 664, 1), (669, 667, 668, 1), (676, 674, 675, 2), (681, 679, 680, 1), (686, 684, 685, 2), (690, 688, 689, 0), (694, 692, 693, 1), (698, 696, 697, 1), (702, 700, 701, 2), (708, 707, 19, 4), (714, 713, 20, 1), (718, 717, 21, 1), (722, 721, 22, 1), (726, 725, 23, 1), (730, 729, 24, 4), (735, 733, 734, 1), (739, 738, 25, 2), (743, 741, 742, 1), (747, 746, 26, 2), (751, 750, 27, 2), (755, 753, 754, 0), (759, 757, 758, 0), (763, 761, 762, 0), (767, 765, 766, 0), (771, 769, 770, 0), (775, 773, 774, 1), (779, 777, 778, 2), (785, 783, 784, 0), (789, 787, 788, 2), (795, 793, 794, 2), (799, 797, 798, 0), (806, 804, 805, 2), (810, 808, 809, 3), (814, 812, 813, 0), (818, 816, 817, 2), (822, 821, 28, 4), (829, 827, 828, 4), (833, 832, 29, 1), (837, 835, 836, 2), (842, 840, 841, 2), (846, 844, 845, 2), (850, 848, 849, 2), (854, 852, 853, 3), (858, 856, 857, 4), (862, 861, 30, 3), (868, 867, 31, 2), (872, 871, 32, 1), (875, 874, 0, 2), (879, 878, 33, 2), (883, 882, 34, 4), (890, 889, 35, 2), (894, 892, 893, 0), (898, 896, 897, 0), (902, 900, 901, 0), (906, 904, 905, 0), (910, 908, 909, 1), (915, 913, 914, 3), (919, 917, 918, 2), (924, 922, 923, 2), (928, 926, 927, 1), (932, 930, 931, 0), (936, 934, 935, 0), (940, 938, 939, 1), (944, 942, 943, 1), (949, 947, 948, 0), (954, 953, 0, 0), (1060, 1058, 1059, 5), (1063, 1062, 0, 1), (1066, 1065, 0, 3), (1070, 1068, 1069, 6), (1074, 1072, 1073, 2), (1078, 1077, 36, 1), (1082, 1081, 37, 1), (1086, 1084, 1085, 1), (1090, 1088, 1089, 2), (1095, 1093, 1094, 1), (1098, 1097, 0, 1), (1102, 1101, 38, 0), (1105, 1104, 0, 1), (1108, 1107, 0, 1), (1112, 1111, 39, 0), (1116, 1115, 40, 0), (1120, 1119, 41, 1), (1124, 1123, 42, 0), (1128, 1127, 43, 2), (1132, 1131, 44, 1), (1136, 1135, 45, 2), (1140, 1138, 1139, 2), (1144, 1143, 46, 1), (1148, 1146, 1147, 3), (1151, 1150, 0, 1), (1155, 1153, 1154, 3), (1159, 1158, 47, 3), (1163, 1162, 48, 1), (1167, 1166, 49, 3), (1171, 1170, 50, 3), (1174, 1173, 0, 4), (1178, 1177, 51, 3), (1182, 1181, 52, 3), (1186, 1185, 53, 1), (1190, 1189, 54, 1), (1194, 1193, 55, 2), (1198, 1196, 1197, 3), (1202, 1201, 56, 3), (1206, 1204, 1205, 2), (1210, 1209, 57, 1), (1214, 1212, 1213, 1), (1218, 1216, 1217, 2), (1222, 1220, 1221, 2), (1226, 1225, 58, 1), (1230, 1228, 1229, 1), (1234, 1232, 1233, 2), (1238, 1236, 1237, 0), (1242, 1240, 1241, 2), (1246, 1245, 59, 2), (1250, 1249, 60, 2), (1254, 1253, 61, 2), (1258, 1257, 62, 2), (1262, 1261, 63, 0), (1266, 1264, 1265, 1), (1270, 1269, 64, 1), (1274, 1272, 1273, 0), (1278, 1277, 65, 0), (1282, 1281, 66, 2), (1286, 1284, 1285, 2), (1290, 1288, 1289, 3), (1294, 1292, 1293, 0), (1298, 1296, 1297, 2), (1302, 1301, 67, 3), (1306, 1305, 68, 1), (1311, 1309, 1310, 2), (1315, 1313, 1314, 4), (1319, 1317, 1318, 3), (1323, 1322, 69, 1), (1327, 1326, 70, 2), (1331, 1330, 71, 3), (1335, 1334, 72, 1), (1339, 1338, 73, 2), (1343, 1341, 1342, 3), (1347, 1346, 74, 4), (1351, 1350, 75, 1), (1355, 1353, 1354, 2), (1359, 1357, 1358, 1), (1363, 1361, 1362, 0), (1367, 1366, 76, 1), (1371, 1370, 77, 3), (1375, 1373, 1374, 0)]
/-- what is known of a method -/
def rp_MF (c : Nat) : Prop := Cond.code (rp_mt c).1 (rp_mt c).2.1 (rp_mt c).2.2.1 (rp_mt c).2.2.2.1 ∈ rp_gt ∧ Cond.initialized (rp_mt c).1.cls ∈ rp_gt ∧ (rp_mt c).1.cls = rp_cn (rp_mt c).2.2.2.2.1 ∧ plainName (rp_mt c).1.cls = true ∧ ((rp_mt c).1.cls ≠ "java/lang/invoke/MethodHandle" ∧ (rp_mt c).1.cls ≠ "java/lang/invoke/VarHandle" ∧ (parseMethodDescriptor (rp_mt c).1.desc).map (fun d => d.parameters.length) = some (rp_mq.getD c (0, 0, 0, 0)).2.2.2) ∧ (rp_mt c).2.2.2.2.1 < 9
set_option maxRecDepth 20000 in
theorem rp_MF0 : rp_MF 0 := ⟨rp_gt_of 97 rfl rfl, rp_ini7, rfl, by decide +kernel, ⟨by decide +kernel, by decide +kernel, by decide +kernel⟩, by decide +kernel⟩
set_option maxRecDepth 20000 in
theorem rp_MF1 : rp_MF 1 := ⟨rp_gt_of 105 rfl rfl, rp_ini0, rfl, by decide +kernel, ⟨by decide +kernel, by decide +kernel, by decide +kernel⟩, by decide +kernel⟩
set_option maxRecDepth 20000 in
theorem rp_MF2 : rp_MF 2 := ⟨rp_gt_of 111 rfl rfl, rp_ini5, rfl, by decide +kernel, ⟨by decide +kernel, by decide +kernel, by decide +kernel⟩, by decide +kernel⟩
set_option maxRecDepth 20000 in
theorem rp_MF3 : rp_MF 3 := ⟨rp_gt_of 133 rfl rfl, rp_ini5, rfl, by decide +kernel, ⟨by decide +kernel, by decide +kernel, by decide +kernel⟩, by decide +kernel⟩
set_option maxRecDepth 20000 in
theorem rp_MF4 : rp_MF 4 := ⟨rp_gt_of 137 rfl rfl, rp_ini5, rfl, by decide +kernel, ⟨by decide +kernel, by decide +kernel, by decide +kernel⟩, by decide +kernel⟩
set_option maxRecDepth 20000 in
theorem rp_MF5 : rp_MF 5 := ⟨rp_gt_of 141 rfl rfl, rp_ini5, rfl, by decide +kernel, ⟨by decide +kernel, by decide +kernel, by decide +kernel⟩, by decide +kernel⟩
set_option maxRecDepth 20000 in
theorem rp_MF6 : rp_MF 6 := ⟨rp_gt_of 145 rfl rfl, rp_ini5, rfl, by decide +kernel, ⟨by decide +kernel, by decide +kernel, by decide +kernel⟩, by decide +kernel⟩
set_option maxRecDepth 20000 in
theorem rp_MF7 : rp_MF 7 := ⟨rp_gt_of 188 rfl rfl, rp_ini1, rfl, by decide +kernel, ⟨by decide +kernel, by decide +kernel, by decide +kernel⟩, by decide +kernel⟩
set_option maxRecDepth 20000 in
theorem rp_MF8 : rp_MF 8 := ⟨rp_gt_of 216 rfl rfl, rp_ini6, rfl, by decide +kernel, ⟨by decide +kernel, by decide +kernel, by decide +kernel⟩, by decide +kernel⟩
set_option maxRecDepth 20000 in
theorem rp_MF9 : rp_MF 9 := ⟨rp_gt_of 221 rfl rfl, rp_ini6, rfl, by decide +kernel, ⟨by decide +kernel, by decide +kernel, by decide +kernel⟩, by decide +kernel⟩
set_option maxRecDepth 20000 in
theorem rp_MF10 : rp_MF 10 := ⟨rp_gt_of 231 rfl rfl, rp_ini3, rfl, by decide +kernel, ⟨by decide +kernel, by decide +kernel, by decide +kernel⟩, by decide +kernel⟩
set_option maxRecDepth 20000 in
theorem rp_MF11 : rp_MF 11 := ⟨rp_gt_of 271 rfl rfl, rp_ini4, rfl, by decide +kernel, ⟨by decide +kernel, by decide +kernel, by decide +kernel⟩, by decide +kernel⟩
set_option maxRecDepth 20000 in
theorem rp_MF12 : rp_MF 12 := ⟨rp_gt_of 284 rfl rfl, rp_ini2, rfl, by decide +kernel, ⟨by decide +kernel, by decide +kernel, by decide +kernel⟩, by decide +kernel⟩
set_option maxRecDepth 20000 in
theorem rp_MF13 : rp_MF 13 := ⟨rp_gt_of 333 rfl rfl, rp_ini7, rfl, by decide +kernel, ⟨by decide +kernel, by decide +kernel, by decide +kernel⟩, by decide +kernel⟩
set_option maxRecDepth 20000 in
theorem rp_MF14 : rp_MF 14 := ⟨rp_gt_of 336 rfl rfl, rp_ini7, rfl, by decide +kernel, ⟨by decide +kernel, by decide +kernel, by decide +kernel⟩, by decide +kernel⟩
set_option maxRecDepth 20000 in
theorem rp_MF15 : rp_MF 15 := ⟨rp_gt_of 339 rfl rfl, rp_ini7, rfl, by decide +kernel, ⟨by decide +kernel, by decide +kernel, by decide +kernel⟩, by decide +kernel⟩
set_option maxRecDepth 20000 in
theorem rp_MF16 : rp_MF 16 := ⟨rp_gt_of 342 rfl rfl, rp_ini7, rfl, by decide +kernel, ⟨by decide +kernel, by decide +kernel, by decide +kernel⟩, by decide +kernel⟩
set_option maxRecDepth 20000 in
theorem rp_MF17 : rp_MF 17 := ⟨rp_gt_of 348 rfl rfl, rp_ini7, rfl, by decide +kernel, ⟨by decide +kernel, by decide +kernel, by decide +kernel⟩, by decide +kernel⟩
set_option maxRecDepth 20000 in
theorem rp_MF18 : rp_MF 18 := ⟨rp_gt_of 352 rfl rfl, rp_ini6, rfl, by decide +kernel, ⟨by decide +kernel, by decide +kernel, by decide +kernel⟩, by decide +kernel⟩
set_option maxRecDepth 20000 in
theorem rp_MF19 : rp_MF 19 := ⟨rp_gt_of 356 rfl rfl, rp_ini5, rfl, by decide +kernel, ⟨by decide +kernel, by decide +kernel, by decide +kernel⟩, by decide +kernel⟩
set_option maxRecDepth 20000 in
theorem rp_MF20 : rp_MF 20 := ⟨rp_gt_of 360 rfl rfl, rp_ini5, rfl, by decide +kernel, ⟨by decide +kernel, by decide +kernel, by decide +kernel⟩, by decide +kernel⟩
set_option maxRecDepth 20000 in
theorem rp_MF21 : rp_MF 21 := ⟨rp_gt_of 364 rfl rfl, rp_ini6, rfl, by decide +kernel, ⟨by decide +kernel, by decide +kernel, by decide +kernel⟩, by decide +kernel⟩
set_option maxRecDepth 20000 in
theorem rp_MF22 : rp_MF 22 := ⟨rp_gt_of 369 rfl rfl, rp_ini6, rfl, by decide +kernel, ⟨by decide +kernel, by decide +kernel, by decide +kernel⟩, by decide +kernel⟩
set_option maxRecDepth 20000 in
theorem rp_MF23 : rp_MF 23 := ⟨rp_gt_of 373 rfl rfl, rp_ini6, rfl, by decide +kernel, ⟨by decide +kernel, by decide +kernel, by decide +kernel⟩, by decide +kernel⟩
set_option maxRecDepth 20000 in
theorem rp_MF24 : rp_MF 24 := ⟨rp_gt_of 377 rfl rfl, rp_ini7, rfl, by decide +kernel, ⟨by decide +kernel, by decide +kernel, by decide +kernel⟩, by decide +kernel⟩
set_option maxRecDepth 20000 in
theorem rp_MF25 : rp_MF 25 := ⟨rp_gt_of 381 rfl rfl, rp_ini5, rfl, by decide +kernel, ⟨by decide +kernel, by decide +kernel, by decide +kernel⟩, by decide +kernel⟩
set_option maxRecDepth 20000 in
theorem rp_MF26 : rp_MF 26 := ⟨rp_gt_of 384 rfl rfl, rp_ini7, rfl, by decide +kernel, ⟨by decide +kernel, by decide +kernel, by decide +kernel⟩, by decide +kernel⟩
set_option maxRecDepth 20000 in
theorem rp_MF27 : rp_MF 27 := ⟨rp_gt_of 387 rfl rfl, rp_ini7, rfl, by decide +kernel, ⟨by decide +kernel, by decide +kernel, by decide +kernel⟩, by decide +kernel⟩
set_option maxRecDepth 20000 in
theorem rp_MF28 : rp_MF 28 := ⟨rp_gt_of 392 rfl rfl, rp_ini7, rfl, by decide +kernel, ⟨by decide +kernel, by decide +kernel, by decide +kernel⟩, by decide +kernel⟩
set_option maxRecDepth 20000 in
theorem rp_MF29 : rp_MF 29 := ⟨rp_gt_of 396 rfl rfl, rp_ini7, rfl, by decide +kernel, ⟨by decide +kernel, by decide +kernel, by decide +kernel⟩, by decide +kernel⟩
set_option maxRecDepth 20000 in
theorem rp_MF30 : rp_MF 30 := ⟨rp_gt_of 400 rfl rfl, rp_ini7, rfl, by decide +kernel, ⟨by decide +kernel, by decide +kernel, by decide +kernel⟩, by decide +kernel⟩
set_option maxRecDepth 20000 in
theorem rp_MF31 : rp_MF 31 := ⟨rp_gt_of 404 rfl rfl, rp_ini1, rfl, by decide +kernel, ⟨by decide +kernel, by decide +kernel, by decide +kernel⟩, by decide +kernel⟩
set_option maxRecDepth 20000 in
theorem rp_MF32 : rp_MF 32 := ⟨rp_gt_of 408 rfl rfl, rp_ini1, rfl, by decide +kernel, ⟨by decide +kernel, by decide +kernel, by decide +kernel⟩, by decide +kernel⟩
set_option maxRecDepth 20000 in
theorem rp_MF33 : rp_MF 33 := ⟨rp_gt_of 413 rfl rfl, rp_ini7, rfl, by decide +kernel, ⟨by decide +kernel, by decide +kernel, by decide +kernel⟩, by decide +kernel⟩
set_option maxRecDepth 20000 in
theorem rp_MF34 : rp_MF 34 := ⟨rp_gt_of 417 rfl rfl, rp_ini1, rfl, by decide +kernel, ⟨by decide +kernel, by decide +kernel, by decide +kernel⟩, by decide +kernel⟩
set_option maxRecDepth 20000 in
theorem rp_MF35 : rp_MF 35 := ⟨rp_gt_of 421 rfl rfl, rp_ini1, rfl, by decide +kernel, ⟨by decide +kernel, by decide +kernel, by decide +kernel⟩, by decide +kernel⟩
set_option maxRecDepth 20000 in
theorem rp_MF36 : rp_MF 36 := ⟨rp_gt_of 425 rfl rfl, rp_ini1, rfl, by decide +kernel, ⟨by decide +kernel, by decide +kernel, by decide +kernel⟩, by decide +kernel⟩
set_option maxRecDepth 20000 in
theorem rp_MF37 : rp_MF 37 := ⟨rp_gt_of 429 rfl rfl, rp_ini1, rfl, by decide +kernel, ⟨by decide +kernel, by decide +kernel, by decide +kernel⟩, by decide +kernel⟩
set_option maxRecDepth 20000 in
theorem rp_MF38 : rp_MF 38 := ⟨rp_gt_of 433 rfl rfl, rp_ini1, rfl, by decide +kernel, ⟨by decide +kernel, by decide +kernel, by decide +kernel⟩, by decide +kernel⟩
set_option maxRecDepth 20000 in
theorem rp_MF39 : rp_MF 39 := ⟨rp_gt_of 439 rfl rfl, rp_ini1, rfl, by decide +kernel, ⟨by decide +kernel, by decide +kernel, by decide +kernel⟩, by decide +kernel⟩
set_option maxRecDepth 20000 in
theorem rp_MF40 : rp_MF 40 := ⟨rp_gt_of 443 rfl rfl, rp_ini1, rfl, by decide +kernel, ⟨by decide +kernel, by decide +kernel, by decide +kernel⟩, by decide +kernel⟩
set_option maxRecDepth 20000 in
theorem rp_MF41 : rp_MF 41 := ⟨rp_gt_of 447 rfl rfl, rp_ini1, rfl, by decide +kernel, ⟨by decide +kernel, by decide +kernel, by decide +kernel⟩, by decide +kernel⟩
set_option maxRecDepth 20000 in
theorem rp_MF42 : rp_MF 42 := ⟨rp_gt_of 450 rfl rfl, rp_ini1, rfl, by decide +kernel, ⟨by decide +kernel, by decide +kernel, by decide +kernel⟩, by decide +kernel⟩
set_option maxRecDepth 20000 in
theorem rp_MF43 : rp_MF 43 := ⟨rp_gt_of 464 rfl rfl, rp_ini1, rfl, by decide +kernel, ⟨by decide +kernel, by decide +kernel, by decide +kernel⟩, by decide +kernel⟩
set_option maxRecDepth 20000 in
theorem rp_MF44 : rp_MF 44 := ⟨rp_gt_of 516 rfl rfl, rp_ini1, rfl, by decide +kernel, ⟨by decide +kernel, by decide +kernel, by decide +kernel⟩, by decide +kernel⟩
set_option maxRecDepth 20000 in
theorem rp_MF45 : rp_MF 45 := ⟨rp_gt_of 519 rfl rfl, rp_ini1, rfl, by decide +kernel, ⟨by decide +kernel, by decide +kernel, by decide +kernel⟩, by decide +kernel⟩
set_option maxRecDepth 20000 in
theorem rp_MF46 : rp_MF 46 := ⟨rp_gt_of 523 rfl rfl, rp_ini1, rfl, by decide +kernel, ⟨by decide +kernel, by decide +kernel, by decide +kernel⟩, by decide +kernel⟩
set_option maxRecDepth 20000 in
theorem rp_MF47 : rp_MF 47 := ⟨rp_gt_of 527 rfl rfl, rp_ini1, rfl, by decide +kernel, ⟨by decide +kernel, by decide +kernel, by decide +kernel⟩, by decide +kernel⟩
set_option maxRecDepth 20000 in
theorem rp_MF48 : rp_MF 48 := ⟨rp_gt_of 533 rfl rfl, rp_ini1, rfl, by decide +kernel, ⟨by decide +kernel, by decide +kernel, by decide +kernel⟩, by decide +kernel⟩
set_option maxRecDepth 20000 in
theorem rp_MF49 : rp_MF 49 := ⟨rp_gt_of 537 rfl rfl, rp_ini1, rfl, by decide +kernel, ⟨by decide +kernel, by decide +kernel, by decide +kernel⟩, by decide +kernel⟩
set_option maxRecDepth 20000 in
theorem rp_MF50 : rp_MF 50 := ⟨rp_gt_of 540 rfl rfl, rp_ini1, rfl, by decide +kernel, ⟨by decide +kernel, by decide +kernel, by decide +kernel⟩, by decide +kernel⟩
set_option maxRecDepth 20000 in
theorem rp_MF51 : rp_MF 51 := ⟨rp_gt_of 544 rfl rfl, rp_ini1, rfl, by decide +kernel, ⟨by decide +kernel, by decide +kernel, by decide +kernel⟩, by decide +kernel⟩
set_option maxRecDepth 20000 in
theorem rp_MF52 : rp_MF 52 := ⟨rp_gt_of 548 rfl rfl, rp_ini1, rfl, by decide +kernel, ⟨by decide +kernel, by decide +kernel, by decide +kernel⟩, by decide +kernel⟩
set_option maxRecDepth 20000 in
theorem rp_MF53 : rp_MF 53 := ⟨rp_gt_of 553 rfl rfl, rp_ini1, rfl, by decide +kernel, ⟨by decide +kernel, by decide +kernel, by decide +kernel⟩, by decide +kernel⟩
set_option maxRecDepth 20000 in
theorem rp_MF54 : rp_MF 54 := ⟨rp_gt_of 557 rfl rfl, rp_ini1, rfl, by decide +kernel, ⟨by decide +kernel, by decide +kernel, by decide +kernel⟩, by decide +kernel⟩
set_option maxRecDepth 20000 in
theorem rp_MF55 : rp_MF 55 := ⟨rp_gt_of 560 rfl rfl, rp_ini7, rfl, by decide +kernel, ⟨by decide +kernel, by decide +kernel, by decide +kernel⟩, by decide +kernel⟩
set_option maxRecDepth 20000 in
theorem rp_MF56 : rp_MF 56 := ⟨rp_gt_of 565 rfl rfl, rp_ini1, rfl, by decide +kernel, ⟨by decide +kernel, by decide +kernel, by decide +kernel⟩, by decide +kernel⟩
set_option maxRecDepth 20000 in
theorem rp_MF57 : rp_MF 57 := ⟨rp_gt_of 570 rfl rfl, rp_ini7, rfl, by decide +kernel, ⟨by decide +kernel, by decide +kernel, by decide +kernel⟩, by decide +kernel⟩
set_option maxRecDepth 20000 in
theorem rp_MF58 : rp_MF 58 := ⟨rp_gt_of 574 rfl rfl, rp_ini0, rfl, by decide +kernel, ⟨by decide +kernel, by decide +kernel, by decide +kernel⟩, by decide +kernel⟩
set_option maxRecDepth 20000 in
theorem rp_MF59 : rp_MF 59 := ⟨rp_gt_of 579 rfl rfl, rp_ini7, rfl, by decide +kernel, ⟨by decide +kernel, by decide +kernel, by decide +kernel⟩, by decide +kernel⟩
set_option maxRecDepth 20000 in
theorem rp_MF60 : rp_MF 60 := ⟨rp_gt_of 582 rfl rfl, rp_ini7, rfl, by decide +kernel, ⟨by decide +kernel, by decide +kernel, by decide +kernel⟩, by decide +kernel⟩
set_option maxRecDepth 20000 in
theorem rp_MF61 : rp_MF 61 := ⟨rp_gt_of 586 rfl rfl, rp_ini0, rfl, by decide +kernel, ⟨by decide +kernel, by decide +kernel, by decide +kernel⟩, by decide +kernel⟩
set_option maxRecDepth 20000 in
theorem rp_MF62 : rp_MF 62 := ⟨rp_gt_of 590 rfl rfl, rp_ini7, rfl, by decide +kernel, ⟨by decide +kernel, by decide +kernel, by decide +kernel⟩, by decide +kernel⟩
set_option maxRecDepth 20000 in
theorem rp_MF63 : rp_MF 63 := ⟨rp_gt_of 594 rfl rfl, rp_ini7, rfl, by decide +kernel, ⟨by decide +kernel, by decide +kernel, by decide +kernel⟩, by decide +kernel⟩
set_option maxRecDepth 20000 in
theorem rp_MF64 : rp_MF 64 := ⟨rp_gt_of 598 rfl rfl, rp_ini0, rfl, by decide +kernel, ⟨by decide +kernel, by decide +kernel, by decide +kernel⟩, by decide +kernel⟩
set_option maxRecDepth 20000 in
theorem rp_MF65 : rp_MF 65 := ⟨rp_gt_of 603 rfl rfl, rp_ini0, rfl, by decide +kernel, ⟨by decide +kernel, by decide +kernel, by decide +kernel⟩, by decide +kernel⟩
set_option maxRecDepth 20000 in
theorem rp_MF66 : rp_MF 66 := ⟨rp_gt_of 607 rfl rfl, rp_ini0, rfl, by decide +kernel, ⟨by decide +kernel, by decide +kernel, by decide +kernel⟩, by decide +kernel⟩
set_option maxRecDepth 20000 in
theorem rp_MF67 : rp_MF 67 := ⟨rp_gt_of 611 rfl rfl, rp_ini0, rfl, by decide +kernel, ⟨by decide +kernel, by decide +kernel, by decide +kernel⟩, by decide +kernel⟩
set_option maxRecDepth 20000 in
theorem rp_MF68 : rp_MF 68 := ⟨rp_gt_of 615 rfl rfl, rp_ini0, rfl, by decide +kernel, ⟨by decide +kernel, by decide +kernel, by decide +kernel⟩, by decide +kernel⟩
set_option maxRecDepth 20000 in
theorem rp_MF69 : rp_MF 69 := ⟨rp_gt_of 619 rfl rfl, rp_ini0, rfl, by decide +kernel, ⟨by decide +kernel, by decide +kernel, by decide +kernel⟩, by decide +kernel⟩
set_option maxRecDepth 20000 in
theorem rp_MF70 : rp_MF 70 := ⟨rp_gt_of 624 rfl rfl, rp_ini0, rfl, by decide +kernel, ⟨by decide +kernel, by decide +kernel, by decide +kernel⟩, by decide +kernel⟩
set_option maxRecDepth 20000 in
theorem rp_MF71 : rp_MF 71 := ⟨rp_gt_of 628 rfl rfl, rp_ini7, rfl, by decide +kernel, ⟨by decide +kernel, by decide +kernel, by decide +kernel⟩, by decide +kernel⟩
set_option maxRecDepth 20000 in
theorem rp_MF72 : rp_MF 72 := ⟨rp_gt_of 632 rfl rfl, rp_ini0, rfl, by decide +kernel, ⟨by decide +kernel, by decide +kernel, by decide +kernel⟩, by decide +kernel⟩
set_option maxRecDepth 20000 in
theorem rp_MF73 : rp_MF 73 := ⟨rp_gt_of 636 rfl rfl, rp_ini0, rfl, by decide +kernel, ⟨by decide +kernel, by decide +kernel, by decide +kernel⟩, by decide +kernel⟩
set_option maxRecDepth 20000 in
theorem rp_MF74 : rp_MF 74 := ⟨rp_gt_of 640 rfl rfl, rp_ini0, rfl, by decide +kernel, ⟨by decide +kernel, by decide +kernel, by decide +kernel⟩, by decide +kernel⟩
set_option maxRecDepth 20000 in
theorem rp_MF75 : rp_MF 75 := ⟨rp_gt_of 645 rfl rfl, rp_ini0, rfl, by decide +kernel, ⟨by decide +kernel, by decide +kernel, by decide +kernel⟩, by decide +kernel⟩
set_option maxRecDepth 20000 in
theorem rp_MF76 : rp_MF 76 := ⟨rp_gt_of 649 rfl rfl, rp_ini7, rfl, by decide +kernel, ⟨by decide +kernel, by decide +kernel, by decide +kernel⟩, by decide +kernel⟩
set_option maxRecDepth 20000 in
theorem rp_MF77 : rp_MF 77 := ⟨rp_gt_of 653 rfl rfl, rp_ini0, rfl, by decide +kernel, ⟨by decide +kernel, by decide +kernel, by decide +kernel⟩, by decide +kernel⟩
set_option maxRecDepth 20000 in
theorem rp_MF78 : rp_MF 78 := ⟨rp_gt_of 657 rfl rfl, rp_ini0, rfl, by decide +kernel, ⟨by decide +kernel, by decide +kernel, by decide +kernel⟩, by decide +kernel⟩
set_option maxRecDepth 20000 in
theorem rp_MF79 : rp_MF 79 := ⟨rp_gt_of 661 rfl rfl, rp_ini7, rfl, by decide +kernel, ⟨by decide +kernel, by decide +kernel, by decide +kernel⟩, by decide +kernel⟩
set_option maxRecDepth 20000 in
theorem rp_MF80 : rp_MF 80 := ⟨rp_gt_of 665 rfl rfl, rp_ini7, rfl, by decide +kernel, ⟨by decide +kernel, by decide +kernel, by decide +kernel⟩, by decide +kernel⟩
set_option maxRecDepth 20000 in
theorem rp_MF81 : rp_MF 81 := ⟨rp_gt_of 669 rfl rfl, rp_ini5, rfl, by decide +kernel, ⟨by decide +kernel, by decide +kernel, by decide +kernel⟩, by decide +kernel⟩
set_option maxRecDepth 20000 in
theorem rp_MF82 : rp_MF 82 := ⟨rp_gt_of 676 rfl rfl, rp_ini7, rfl, by decide +kernel, ⟨by decide +kernel, by decide +kernel, by decide +kernel⟩, by decide +kernel⟩
set_option maxRecDepth 20000 in
theorem rp_MF83 : rp_MF 83 := ⟨rp_gt_of 681 rfl rfl, rp_ini7, rfl, by decide +kernel, ⟨by decide +kernel, by decide +kernel, by decide +kernel⟩, by decide +kernel⟩
set_option maxRecDepth 20000 in
theorem rp_MF84 : rp_MF 84 := ⟨rp_gt_of 686 rfl rfl, rp_ini7, rfl, by decide +kernel, ⟨by decide +kernel, by decide +kernel, by decide +kernel⟩, by decide +kernel⟩
set_option maxRecDepth 20000 in
theorem rp_MF85 : rp_MF 85 := ⟨rp_gt_of 690 rfl rfl, rp_ini7, rfl, by decide +kernel, ⟨by decide +kernel, by decide +kernel, by decide +kernel⟩, by decide +kernel⟩
set_option maxRecDepth 20000 in
theorem rp_MF86 : rp_MF 86 := ⟨rp_gt_of 694 rfl rfl, rp_ini7, rfl, by decide +kernel, ⟨by decide +kernel, by decide +kernel, by decide +kernel⟩, by decide +kernel⟩
set_option maxRecDepth 20000 in
theorem rp_MF87 : rp_MF 87 := ⟨rp_gt_of 698 rfl rfl, rp_ini3, rfl, by decide +kernel, ⟨by decide +kernel, by decide +kernel, by decide +kernel⟩, by decide +kernel⟩
set_option maxRecDepth 20000 in
theorem rp_MF88 : rp_MF 88 := ⟨rp_gt_of 702 rfl rfl, rp_ini3, rfl, by decide +kernel, ⟨by decide +kernel, by decide +kernel, by decide +kernel⟩, by decide +kernel⟩
set_option maxRecDepth 20000 in
theorem rp_MF89 : rp_MF 89 := ⟨rp_gt_of 708 rfl rfl, rp_ini3, rfl, by decide +kernel, ⟨by decide +kernel, by decide +kernel, by decide +kernel⟩, by decide +kernel⟩
set_option maxRecDepth 20000 in
theorem rp_MF90 : rp_MF 90 := ⟨rp_gt_of 714 rfl rfl, rp_ini3, rfl, by decide +kernel, ⟨by decide +kernel, by decide +kernel, by decide +kernel⟩, by decide +kernel⟩
set_option maxRecDepth 20000 in
theorem rp_MF91 : rp_MF 91 := ⟨rp_gt_of 718 rfl rfl, rp_ini3, rfl, by decide +kernel, ⟨by decide +kernel, by decide +kernel, by decide +kernel⟩, by decide +kernel⟩
set_option maxRecDepth 20000 in
theorem rp_MF92 : rp_MF 92 := ⟨rp_gt_of 722 rfl rfl, rp_ini3, rfl, by decide +kernel, ⟨by decide +kernel, by decide +kernel, by decide +kernel⟩, by decide +kernel⟩
set_option maxRecDepth 20000 in
theorem rp_MF93 : rp_MF 93 := ⟨rp_gt_of 726 rfl rfl, rp_ini3, rfl, by decide +kernel, ⟨by decide +kernel, by decide +kernel, by decide +kernel⟩, by decide +kernel⟩
set_option maxRecDepth 20000 in
theorem rp_MF94 : rp_MF 94 := ⟨rp_gt_of 730 rfl rfl, rp_ini3, rfl, by decide +kernel, ⟨by decide +kernel, by decide +kernel, by decide +kernel⟩, by decide +kernel⟩
set_option maxRecDepth 20000 in
theorem rp_MF95 : rp_MF 95 := ⟨rp_gt_of 735 rfl rfl, rp_ini3, rfl, by decide +kernel, ⟨by decide +kernel, by decide +kernel, by decide +kernel⟩, by decide +kernel⟩
set_option maxRecDepth 20000 in
theorem rp_MF96 : rp_MF 96 := ⟨rp_gt_of 739 rfl rfl, rp_ini3, rfl, by decide +kernel, ⟨by decide +kernel, by decide +kernel, by decide +kernel⟩, by decide +kernel⟩
set_option maxRecDepth 20000 in
theorem rp_MF97 : rp_MF 97 := ⟨rp_gt_of 743 rfl rfl, rp_ini3, rfl, by decide +kernel, ⟨by decide +kernel, by decide +kernel, by decide +kernel⟩, by decide +kernel⟩
set_option maxRecDepth 20000 in
theorem rp_MF98 : rp_MF 98 := ⟨rp_gt_of 747 rfl rfl, rp_ini3, rfl, by decide +kernel, ⟨by decide +kernel, by decide +kernel, by decide +kernel⟩, by decide +kernel⟩
set_option maxRecDepth 20000 in
theorem rp_MF99 : rp_MF 99 := ⟨rp_gt_of 751 rfl rfl, rp_ini3, rfl, by decide +kernel, ⟨by decide +kernel, by decide +kernel, by decide +kernel⟩, by decide +kernel⟩
set_option maxRecDepth 20000 in
theorem rp_MF100 : rp_MF 100 := ⟨rp_gt_of 755 rfl rfl, rp_ini3, rfl, by decide +kernel, ⟨by decide +kernel, by decide +kernel, by decide +kernel⟩, by decide +kernel⟩
set_option maxRecDepth 20000 in
theorem rp_MF101 : rp_MF 101 := ⟨rp_gt_of 759 rfl rfl, rp_ini3, rfl, by decide +kernel, ⟨by decide +kernel, by decide +kernel, by decide +kernel⟩, by decide +kernel⟩
set_option maxRecDepth 20000 in
theorem rp_MF102 : rp_MF 102 := ⟨rp_gt_of 763 rfl rfl, rp_ini3, rfl, by decide +kernel, ⟨by decide +kernel, by decide +kernel, by decide +kernel⟩, by decide +kernel⟩
set_option maxRecDepth 20000 in
theorem rp_MF103 : rp_MF 103 := ⟨rp_gt_of 767 rfl rfl, rp_ini3, rfl, by decide +kernel, ⟨by decide +kernel, by decide +kernel, by decide +kernel⟩, by decide +kernel⟩
set_option maxRecDepth 20000 in
theorem rp_MF104 : rp_MF 104 := ⟨rp_gt_of 771 rfl rfl, rp_ini3, rfl, by decide +kernel, ⟨by decide +kernel, by decide +kernel, by decide +kernel⟩, by decide +kernel⟩
set_option maxRecDepth 20000 in
theorem rp_MF105 : rp_MF 105 := ⟨rp_gt_of 775 rfl rfl, rp_ini3, rfl, by decide +kernel, ⟨by decide +kernel, by decide +kernel, by decide +kernel⟩, by decide +kernel⟩
set_option maxRecDepth 20000 in
theorem rp_MF106 : rp_MF 106 := ⟨rp_gt_of 779 rfl rfl, rp_ini7, rfl, by decide +kernel, ⟨by decide +kernel, by decide +kernel, by decide +kernel⟩, by decide +kernel⟩
set_option maxRecDepth 20000 in
theorem rp_MF107 : rp_MF 107 := ⟨rp_gt_of 785 rfl rfl, rp_ini7, rfl, by decide +kernel, ⟨by decide +kernel, by decide +kernel, by decide +kernel⟩, by decide +kernel⟩
set_option maxRecDepth 20000 in
theorem rp_MF108 : rp_MF 108 := ⟨rp_gt_of 789 rfl rfl, rp_ini4, rfl, by decide +kernel, ⟨by decide +kernel, by decide +kernel, by decide +kernel⟩, by decide +kernel⟩
set_option maxRecDepth 20000 in
theorem rp_MF109 : rp_MF 109 := ⟨rp_gt_of 795 rfl rfl, rp_ini4, rfl, by decide +kernel, ⟨by decide +kernel, by decide +kernel, by decide +kernel⟩, by decide +kernel⟩
set_option maxRecDepth 20000 in
theorem rp_MF110 : rp_MF 110 := ⟨rp_gt_of 799 rfl rfl, rp_ini5, rfl, by decide +kernel, ⟨by decide +kernel, by decide +kernel, by decide +kernel⟩, by decide +kernel⟩
set_option maxRecDepth 20000 in
theorem rp_MF111 : rp_MF 111 := ⟨rp_gt_of 806 rfl rfl, rp_ini7, rfl, by decide +kernel, ⟨by decide +kernel, by decide +kernel, by decide +kernel⟩, by decide +kernel⟩
set_option maxRecDepth 20000 in
theorem rp_MF112 : rp_MF 112 := ⟨rp_gt_of 810 rfl rfl, rp_ini7, rfl, by decide +kernel, ⟨by decide +kernel, by decide +kernel, by decide +kernel⟩, by decide +kernel⟩
set_option maxRecDepth 20000 in
theorem rp_MF113 : rp_MF 113 := ⟨rp_gt_of 814 rfl rfl, rp_ini7, rfl, by decide +kernel, ⟨by decide +kernel, by decide +kernel, by decide +kernel⟩, by decide +kernel⟩
set_option maxRecDepth 20000 in
theorem rp_MF114 : rp_MF 114 := ⟨rp_gt_of 818 rfl rfl, rp_ini4, rfl, by decide +kernel, ⟨by decide +kernel, by decide +kernel, by decide +kernel⟩, by decide +kernel⟩
set_option maxRecDepth 20000 in
theorem rp_MF115 : rp_MF 115 := ⟨rp_gt_of 822 rfl rfl, rp_ini4, rfl, by decide +kernel, ⟨by decide +kernel, by decide +kernel, by decide +kernel⟩, by decide +kernel⟩
set_option maxRecDepth 20000 in
theorem rp_MF116 : rp_MF 116 := ⟨rp_gt_of 829 rfl rfl, rp_ini7, rfl, by decide +kernel, ⟨by decide +kernel, by decide +kernel, by decide +kernel⟩, by decide +kernel⟩
set_option maxRecDepth 20000 in
theorem rp_MF117 : rp_MF 117 := ⟨rp_gt_of 833 rfl rfl, rp_ini7, rfl, by decide +kernel, ⟨by decide +kernel, by decide +kernel, by decide +kernel⟩, by decide +kernel⟩
set_option maxRecDepth 20000 in
theorem rp_MF118 : rp_MF 118 := ⟨rp_gt_of 837 rfl rfl, rp_ini7, rfl, by decide +kernel, ⟨by decide +kernel, by decide +kernel, by decide +kernel⟩, by decide +kernel⟩
set_option maxRecDepth 20000 in
theorem rp_MF119 : rp_MF 119 := ⟨rp_gt_of 842 rfl rfl, rp_ini6, rfl, by decide +kernel, ⟨by decide +kernel, by decide +kernel, by decide +kernel⟩, by decide +kernel⟩
set_option maxRecDepth 20000 in
theorem rp_MF120 : rp_MF 120 := ⟨rp_gt_of 846 rfl rfl, rp_ini7, rfl, by decide +kernel, ⟨by decide +kernel, by decide +kernel, by decide +kernel⟩, by decide +kernel⟩
set_option maxRecDepth 20000 in
theorem rp_MF121 : rp_MF 121 := ⟨rp_gt_of 850 rfl rfl, rp_ini6, rfl, by decide +kernel, ⟨by decide +kernel, by decide +kernel, by decide +kernel⟩, by decide +kernel⟩
set_option maxRecDepth 20000 in
theorem rp_MF122 : rp_MF 122 := ⟨rp_gt_of 854 rfl rfl, rp_ini7, rfl, by decide +kernel, ⟨by decide +kernel, by decide +kernel, by decide +kernel⟩, by decide +kernel⟩
set_option maxRecDepth 20000 in
theorem rp_MF123 : rp_MF 123 := ⟨rp_gt_of 858 rfl rfl, rp_ini2, rfl, by decide +kernel, ⟨by decide +kernel, by decide +kernel, by decide +kernel⟩, by decide +kernel⟩
set_option maxRecDepth 20000 in
theorem rp_MF124 : rp_MF 124 := ⟨rp_gt_of 862 rfl rfl, rp_ini2, rfl, by decide +kernel, ⟨by decide +kernel, by decide +kernel, by decide +kernel⟩, by decide +kernel⟩
set_option maxRecDepth 20000 in
theorem rp_MF125 : rp_MF 125 := ⟨rp_gt_of 868 rfl rfl, rp_ini2, rfl, by decide +kernel, ⟨by decide +kernel, by decide +kernel, by decide +kernel⟩, by decide +kernel⟩
set_option maxRecDepth 20000 in
theorem rp_MF126 : rp_MF 126 := ⟨rp_gt_of 872 rfl rfl, rp_ini2, rfl, by decide +kernel, ⟨by decide +kernel, by decide +kernel, by decide +kernel⟩, by decide +kernel⟩
set_option maxRecDepth 20000 in
theorem rp_MF127 : rp_MF 127 := ⟨rp_gt_of 875 rfl rfl, rp_ini2, rfl, by decide +kernel, ⟨by decide +kernel, by decide +kernel, by decide +kernel⟩, by decide +kernel⟩
set_option maxRecDepth 20000 in
theorem rp_MF128 : rp_MF 128 := ⟨rp_gt_of 879 rfl rfl, rp_ini2, rfl, by decide +kernel, ⟨by decide +kernel, by decide +kernel, by decide +kernel⟩, by decide +kernel⟩
set_option maxRecDepth 20000 in
theorem rp_MF129 : rp_MF 129 := ⟨rp_gt_of 883 rfl rfl, rp_ini2, rfl, by decide +kernel, ⟨by decide +kernel, by decide +kernel, by decide +kernel⟩, by decide +kernel⟩
set_option maxRecDepth 20000 in
theorem rp_MF130 : rp_MF 130 := ⟨rp_gt_of 890 rfl rfl, rp_ini2, rfl, by decide +kernel, ⟨by decide +kernel, by decide +kernel, by decide +kernel⟩, by decide +kernel⟩
set_option maxRecDepth 20000 in
theorem rp_MF131 : rp_MF 131 := ⟨rp_gt_of 894 rfl rfl, rp_ini2, rfl, by decide +kernel, ⟨by decide +kernel, by decide +kernel, by decide +kernel⟩, by decide +kernel⟩
set_option maxRecDepth 20000 in
theorem rp_MF132 : rp_MF 132 := ⟨rp_gt_of 898 rfl rfl, rp_ini2, rfl, by decide +kernel, ⟨by decide +kernel, by decide +kernel, by decide +kernel⟩, by decide +kernel⟩
set_option maxRecDepth 20000 in
theorem rp_MF133 : rp_MF 133 := ⟨rp_gt_of 902 rfl rfl, rp_ini2, rfl, by decide +kernel, ⟨by decide +kernel, by decide +kernel, by decide +kernel⟩, by decide +kernel⟩
set_option maxRecDepth 20000 in
theorem rp_MF134 : rp_MF 134 := ⟨rp_gt_of 906 rfl rfl, rp_ini2, rfl, by decide +kernel, ⟨by decide +kernel, by decide +kernel, by decide +kernel⟩, by decide +kernel⟩
set_option maxRecDepth 20000 in
theorem rp_MF135 : rp_MF 135 := ⟨rp_gt_of 910 rfl rfl, rp_ini2, rfl, by decide +kernel, ⟨by decide +kernel, by decide +kernel, by decide +kernel⟩, by decide +kernel⟩
set_option maxRecDepth 20000 in
theorem rp_MF136 : rp_MF 136 := ⟨rp_gt_of 915 rfl rfl, rp_ini7, rfl, by decide +kernel, ⟨by decide +kernel, by decide +kernel, by decide +kernel⟩, by decide +kernel⟩
set_option maxRecDepth 20000 in
theorem rp_MF137 : rp_MF 137 := ⟨rp_gt_of 919 rfl rfl, rp_ini2, rfl, by decide +kernel, ⟨by decide +kernel, by decide +kernel, by decide +kernel⟩, by decide +kernel⟩
set_option maxRecDepth 20000 in
theorem rp_MF138 : rp_MF 138 := ⟨rp_gt_of 924 rfl rfl, rp_ini7, rfl, by decide +kernel, ⟨by decide +kernel, by decide +kernel, by decide +kernel⟩, by decide +kernel⟩
set_option maxRecDepth 20000 in
theorem rp_MF139 : rp_MF 139 := ⟨rp_gt_of 928 rfl rfl, rp_ini7, rfl, by decide +kernel, ⟨by decide +kernel, by decide +kernel, by decide +kernel⟩, by decide +kernel⟩
set_option maxRecDepth 20000 in
theorem rp_MF140 : rp_MF 140 := ⟨rp_gt_of 932 rfl rfl, rp_ini0, rfl, by decide +kernel, ⟨by decide +kernel, by decide +kernel, by decide +kernel⟩, by decide +kernel⟩
set_option maxRecDepth 20000 in
theorem rp_MF141 : rp_MF 141 := ⟨rp_gt_of 936 rfl rfl, rp_ini7, rfl, by decide +kernel, ⟨by decide +kernel, by decide +kernel, by decide +kernel⟩, by decide +kernel⟩
set_option maxRecDepth 20000 in
theorem rp_MF142 : rp_MF 142 := ⟨rp_gt_of 940 rfl rfl, rp_ini0, rfl, by decide +kernel, ⟨by decide +kernel, by decide +kernel, by decide +kernel⟩, by decide +kernel⟩
set_option maxRecDepth 20000 in
theorem rp_MF143 : rp_MF 143 := ⟨rp_gt_of 944 rfl rfl, rp_ini5, rfl, by decide +kernel, ⟨by decide +kernel, by decide +kernel, by decide +kernel⟩, by decide +kernel⟩
set_option maxRecDepth 20000 in
theorem rp_MF144 : rp_MF 144 := ⟨rp_gt_of 949 rfl rfl, rp_ini7, rfl, by decide +kernel, ⟨by decide +kernel, by decide +kernel, by decide +kernel⟩, by decide +kernel⟩
set_option maxRecDepth 20000 in
theorem rp_MF145 : rp_MF 145 := ⟨rp_gt_of 954 rfl rfl, rp_ini8, rfl, by decide +kernel, ⟨by decide +kernel, by decide +kernel, by decide +kernel⟩, by decide +kernel⟩
set_option maxRecDepth 20000 in
theorem rp_MF146 : rp_MF 146 := ⟨rp_gt_of 1060 rfl rfl, rp_ini8, rfl, by decide +kernel, ⟨by decide +kernel, by decide +kernel, by decide +kernel⟩, by decide +kernel⟩
set_option maxRecDepth 20000 in
theorem rp_MF147 : rp_MF 147 := ⟨rp_gt_of 1063 rfl rfl, rp_ini8, rfl, by decide +kernel, ⟨by decide +kernel, by decide +kernel, by decide +kernel⟩, by decide +kernel⟩
set_option maxRecDepth 20000 in
theorem rp_MF148 : rp_MF 148 := ⟨rp_gt_of 1066 rfl rfl, rp_ini8, rfl, by decide +kernel, ⟨by decide +kernel, by decide +kernel, by decide +kernel⟩, by decide +kernel⟩
set_option maxRecDepth 20000 in
theorem rp_MF149 : rp_MF 149 := ⟨rp_gt_of 1070 rfl rfl, rp_ini8, rfl, by decide +kernel, ⟨by decide +kernel, by decide +kernel, by decide +kernel⟩, by decide +kernel⟩
set_option maxRecDepth 20000 in
theorem rp_MF150 : rp_MF 150 := ⟨rp_gt_of 1074 rfl rfl, rp_ini8, rfl, by decide +kernel, ⟨by decide +kernel, by decide +kernel, by decide +kernel⟩, by decide +kernel⟩
set_option maxRecDepth 20000 in
theorem rp_MF151 : rp_MF 151 := ⟨rp_gt_of 1078 rfl rfl, rp_ini8, rfl, by decide +kernel, ⟨by decide +kernel, by decide +kernel, by decide +kernel⟩, by decide +kernel⟩
set_option maxRecDepth 20000 in
theorem rp_MF152 : rp_MF 152 := ⟨rp_gt_of 1082 rfl rfl, rp_ini8, rfl, by decide +kernel, ⟨by decide +kernel, by decide +kernel, by decide +kernel⟩, by decide +kernel⟩
set_option maxRecDepth 20000 in
theorem rp_MF153 : rp_MF 153 := ⟨rp_gt_of 1086 rfl rfl, rp_ini8, rfl, by decide +kernel, ⟨by decide +kernel, by decide +kernel, by decide +kernel⟩, by decide +kernel⟩
set_option maxRecDepth 20000 in
theorem rp_MF154 : rp_MF 154 := ⟨rp_gt_of 1090 rfl rfl, rp_ini8, rfl, by decide +kernel, ⟨by decide +kernel, by decide +kernel, by decide +kernel⟩, by decide +kernel⟩
set_option maxRecDepth 20000 in
theorem rp_MF155 : rp_MF 155 := ⟨rp_gt_of 1095 rfl rfl, rp_ini8, rfl, by decide +kernel, ⟨by decide +kernel, by decide +kernel, by decide +kernel⟩, by decide +kernel⟩
set_option maxRecDepth 20000 in
theorem rp_MF156 : rp_MF 156 := ⟨rp_gt_of 1098 rfl rfl, rp_ini8, rfl, by decide +kernel, ⟨by decide +kernel, by decide +kernel, by decide +kernel⟩, by decide +kernel⟩
set_option maxRecDepth 20000 in
theorem rp_MF157 : rp_MF 157 := ⟨rp_gt_of 1102 rfl rfl, rp_ini8, rfl, by decide +kernel, ⟨by decide +kernel, by decide +kernel, by decide +kernel⟩, by decide +kernel⟩
set_option maxRecDepth 20000 in
theorem rp_MF158 : rp_MF 158 := ⟨rp_gt_of 1105 rfl rfl, rp_ini8, rfl, by decide +kernel, ⟨by decide +kernel, by decide +kernel, by decide +kernel⟩, by decide +kernel⟩
set_option maxRecDepth 20000 in
theorem rp_MF159 : rp_MF 159 := ⟨rp_gt_of 1108 rfl rfl, rp_ini8, rfl, by decide +kernel, ⟨by decide +kernel, by decide +kernel, by decide +kernel⟩, by decide +kernel⟩
set_option maxRecDepth 20000 in
theorem rp_MF160 : rp_MF 160 := ⟨rp_gt_of 1112 rfl rfl, rp_ini8, rfl, by decide +kernel, ⟨by decide +kernel, by decide +kernel, by decide +kernel⟩, by decide +kernel⟩
set_option maxRecDepth 20000 in
theorem rp_MF161 : rp_MF 161 := ⟨rp_gt_of 1116 rfl rfl, rp_ini8, rfl, by decide +kernel, ⟨by decide +kernel, by decide +kernel, by decide +kernel⟩, by decide +kernel⟩
set_option maxRecDepth 20000 in
theorem rp_MF162 : rp_MF 162 := ⟨rp_gt_of 1120 rfl rfl, rp_ini8, rfl, by decide +kernel, ⟨by decide +kernel, by decide +kernel, by decide +kernel⟩, by decide +kernel⟩
set_option maxRecDepth 20000 in
theorem rp_MF163 : rp_MF 163 := ⟨rp_gt_of 1124 rfl rfl, rp_ini8, rfl, by decide +kernel, ⟨by decide +kernel, by decide +kernel, by decide +kernel⟩, by decide +kernel⟩
set_option maxRecDepth 20000 in
theorem rp_MF164 : rp_MF 164 := ⟨rp_gt_of 1128 rfl rfl, rp_ini8, rfl, by decide +kernel, ⟨by decide +kernel, by decide +kernel, by decide +kernel⟩, by decide +kernel⟩
set_option maxRecDepth 20000 in
theorem rp_MF165 : rp_MF 165 := ⟨rp_gt_of 1132 rfl rfl, rp_ini8, rfl, by decide +kernel, ⟨by decide +kernel, by decide +kernel, by decide +kernel⟩, by decide +kernel⟩
set_option maxRecDepth 20000 in
theorem rp_MF166 : rp_MF 166 := ⟨rp_gt_of 1136 rfl rfl, rp_ini8, rfl, by decide +kernel, ⟨by decide +kernel, by decide +kernel, by decide +kernel⟩, by decide +kernel⟩
set_option maxRecDepth 20000 in
theorem rp_MF167 : rp_MF 167 := ⟨rp_gt_of 1140 rfl rfl, rp_ini8, rfl, by decide +kernel, ⟨by decide +kernel, by decide +kernel, by decide +kernel⟩, by decide +kernel⟩
set_option maxRecDepth 20000 in
theorem rp_MF168 : rp_MF 168 := ⟨rp_gt_of 1144 rfl rfl, rp_ini8, rfl, by decide +kernel, ⟨by decide +kernel, by decide +kernel, by decide +kernel⟩, by decide +kernel⟩
set_option maxRecDepth 20000 in
theorem rp_MF169 : rp_MF 169 := ⟨rp_gt_of 1148 rfl rfl, rp_ini8, rfl, by decide +kernel, ⟨by decide +kernel, by decide +kernel, by decide +kernel⟩, by decide +kernel⟩
set_option maxRecDepth 20000 in
theorem rp_MF170 : rp_MF 170 := ⟨rp_gt_of 1151 rfl rfl, rp_ini8, rfl, by decide +kernel, ⟨by decide +kernel, by decide +kernel, by decide +kernel⟩, by decide +kernel⟩
set_option maxRecDepth 20000 in
theorem rp_MF171 : rp_MF 171 := ⟨rp_gt_of 1155 rfl rfl, rp_ini8, rfl, by decide +kernel, ⟨by decide +kernel, by decide +kernel, by decide +kernel⟩, by decide +kernel⟩
set_option maxRecDepth 20000 in
theorem rp_MF172 : rp_MF 172 := ⟨rp_gt_of 1159 rfl rfl, rp_ini8, rfl, by decide +kernel, ⟨by decide +kernel, by decide +kernel, by decide +kernel⟩, by decide +kernel⟩
set_option maxRecDepth 20000 in
theorem rp_MF173 : rp_MF 173 := ⟨rp_gt_of 1163 rfl rfl, rp_ini8, rfl, by decide +kernel, ⟨by decide +kernel, by decide +kernel, by decide +kernel⟩, by decide +kernel⟩
set_option maxRecDepth 20000 in
theorem rp_MF174 : rp_MF 174 := ⟨rp_gt_of 1167 rfl rfl, rp_ini8, rfl, by decide +kernel, ⟨by decide +kernel, by decide +kernel, by decide +kernel⟩, by decide +kernel⟩
set_option maxRecDepth 20000 in
theorem rp_MF175 : rp_MF 175 := ⟨rp_gt_of 1171 rfl rfl, rp_ini8, rfl, by decide +kernel, ⟨by decide +kernel, by decide +kernel, by decide +kernel⟩, by decide +kernel⟩
set_option maxRecDepth 20000 in
theorem rp_MF176 : rp_MF 176 := ⟨rp_gt_of 1174 rfl rfl, rp_ini8, rfl, by decide +kernel, ⟨by decide +kernel, by decide +kernel, by decide +kernel⟩, by decide +kernel⟩
set_option maxRecDepth 20000 in
theorem rp_MF177 : rp_MF 177 := ⟨rp_gt_of 1178 rfl rfl, rp_ini8, rfl, by decide +kernel, ⟨by decide +kernel, by decide +kernel, by decide +kernel⟩, by decide +kernel⟩
set_option maxRecDepth 20000 in
theorem rp_MF178 : rp_MF 178 := ⟨rp_gt_of 1182 rfl rfl, rp_ini8, rfl, by decide +kernel, ⟨by decide +kernel, by decide +kernel, by decide +kernel⟩, by decide +kernel⟩
set_option maxRecDepth 20000 in
theorem rp_MF179 : rp_MF 179 := ⟨rp_gt_of 1186 rfl rfl, rp_ini8, rfl, by decide +kernel, ⟨by decide +kernel, by decide +kernel, by decide +kernel⟩, by decide +kernel⟩
set_option maxRecDepth 20000 in
theorem rp_MF180 : rp_MF 180 := ⟨rp_gt_of 1190 rfl rfl, rp_ini8, rfl, by decide +kernel, ⟨by decide +kernel, by decide +kernel, by decide +kernel⟩, by decide +kernel⟩
set_option maxRecDepth 20000 in
theorem rp_MF181 : rp_MF 181 := ⟨rp_gt_of 1194 rfl rfl, rp_ini8, rfl, by decide +kernel, ⟨by decide +kernel, by decide +kernel, by decide +kernel⟩, by decide +kernel⟩
set_option maxRecDepth 20000 in
theorem rp_MF182 : rp_MF 182 := ⟨rp_gt_of 1198 rfl rfl, rp_ini8, rfl, by decide +kernel, ⟨by decide +kernel, by decide +kernel, by decide +kernel⟩, by decide +kernel⟩
set_option maxRecDepth 20000 in
theorem rp_MF183 : rp_MF 183 := ⟨rp_gt_of 1202 rfl rfl, rp_ini8, rfl, by decide +kernel, ⟨by decide +kernel, by decide +kernel, by decide +kernel⟩, by decide +kernel⟩
set_option maxRecDepth 20000 in
theorem rp_MF184 : rp_MF 184 := ⟨rp_gt_of 1206 rfl rfl, rp_ini8, rfl, by decide +kernel, ⟨by decide +kernel, by decide +kernel, by decide +kernel⟩, by decide +kernel⟩
set_option maxRecDepth 20000 in
theorem rp_MF185 : rp_MF 185 := ⟨rp_gt_of 1210 rfl rfl, rp_ini8, rfl, by decide +kernel, ⟨by decide +kernel, by decide +kernel, by decide +kernel⟩, by decide +kernel⟩
set_option maxRecDepth 20000 in
theorem rp_MF186 : rp_MF 186 := ⟨rp_gt_of 1214 rfl rfl, rp_ini8, rfl, by decide +kernel, ⟨by decide +kernel, by decide +kernel, by decide +kernel⟩, by decide +kernel⟩
set_option maxRecDepth 20000 in
theorem rp_MF187 : rp_MF 187 := ⟨rp_gt_of 1218 rfl rfl, rp_ini8, rfl, by decide +kernel, ⟨by decide +kernel, by decide +kernel, by decide +kernel⟩, by decide +kernel⟩
set_option maxRecDepth 20000 in
theorem rp_MF188 : rp_MF 188 := ⟨rp_gt_of 1222 rfl rfl, rp_ini8, rfl, by decide +kernel, ⟨by decide +kernel, by decide +kernel, by decide +kernel⟩, by decide +kernel⟩
set_option maxRecDepth 20000 in
theorem rp_MF189 : rp_MF 189 := ⟨rp_gt_of 1226 rfl rfl, rp_ini8, rfl, by decide +kernel, ⟨by decide +kernel, by decide +kernel, by decide +kernel⟩, by decide +kernel⟩
set_option maxRecDepth 20000 in
theorem rp_MF190 : rp_MF 190 := ⟨rp_gt_of 1230 rfl rfl, rp_ini8, rfl, by decide +kernel, ⟨by decide +kernel, by decide +kernel, by decide +kernel⟩, by decide +kernel⟩
set_option maxRecDepth 20000 in
theorem rp_MF191 : rp_MF 191 := ⟨rp_gt_of 1234 rfl rfl, rp_ini8, rfl, by decide +kernel, ⟨by decide +kernel, by decide +kernel, by decide +kernel⟩, by decide +kernel⟩
set_option maxRecDepth 20000 in
theorem rp_MF192 : rp_MF 192 := ⟨rp_gt_of 1238 rfl rfl, rp_ini8, rfl, by decide +kernel, ⟨by decide +kernel, by decide +kernel, by decide +kernel⟩, by decide +kernel⟩
set_option maxRecDepth 20000 in
theorem rp_MF193 : rp_MF 193 := ⟨rp_gt_of 1242 rfl rfl, rp_ini8, rfl, by decide +kernel, ⟨by decide +kernel, by decide +kernel, by decide +kernel⟩, by decide +kernel⟩
set_option maxRecDepth 20000 in
theorem rp_MF194 : rp_MF 194 := ⟨rp_gt_of 1246 rfl rfl, rp_ini8, rfl, by decide +kernel, ⟨by decide +kernel, by decide +kernel, by decide +kernel⟩, by decide +kernel⟩
set_option maxRecDepth 20000 in
theorem rp_MF195 : rp_MF 195 := ⟨rp_gt_of 1250 rfl rfl, rp_ini8, rfl, by decide +kernel, ⟨by decide +kernel, by decide +kernel, by decide +kernel⟩, by decide +kernel⟩
set_option maxRecDepth 20000 in
theorem rp_MF196 : rp_MF 196 := ⟨rp_gt_of 1254 rfl rfl, rp_ini8, rfl, by decide +kernel, ⟨by decide +kernel, by decide +kernel, by decide +kernel⟩, by decide +kernel⟩
set_option maxRecDepth 20000 in
theorem rp_MF197 : rp_MF 197 := ⟨rp_gt_of 1258 rfl rfl, rp_ini8, rfl, by decide +kernel, ⟨by decide +kernel, by decide +kernel, by decide +kernel⟩, by decide +kernel⟩
set_option maxRecDepth 20000 in
theorem rp_MF198 : rp_MF 198 := ⟨rp_gt_of 1262 rfl rfl, rp_ini8, rfl, by decide +kernel, ⟨by decide +kernel, by decide +kernel, by decide +kernel⟩, by decide +kernel⟩
set_option maxRecDepth 20000 in
theorem rp_MF199 : rp_MF 199 := ⟨rp_gt_of 1266 rfl rfl, rp_ini8, rfl, by decide +kernel, ⟨by decide +kernel, by decide +kernel, by decide +kernel⟩, by decide +kernel⟩
set_option maxRecDepth 20000 in
theorem rp_MF200 : rp_MF 200 := ⟨rp_gt_of 1270 rfl rfl, rp_ini8, rfl, by decide +kernel, ⟨by decide +kernel, by decide +kernel, by decide +kernel⟩, by decide +kernel⟩
set_option maxRecDepth 20000 in
theorem rp_MF201 : rp_MF 201 := ⟨rp_gt_of 1274 rfl rfl, rp_ini8, rfl, by decide +kernel, ⟨by decide +kernel, by decide +kernel, by decide +kernel⟩, by decide +kernel⟩
set_option maxRecDepth 20000 in
theorem rp_MF202 : rp_MF 202 := ⟨rp_gt_of 1278 rfl rfl, rp_ini8, rfl, by decide +kernel, ⟨by decide +kernel, by decide +kernel, by decide +kernel⟩, by decide +kernel⟩
set_option maxRecDepth 20000 in
theorem rp_MF203 : rp_MF 203 := ⟨rp_gt_of 1282 rfl rfl, rp_ini8, rfl, by decide +kernel, ⟨by decide +kernel, by decide +kernel, by decide +kernel⟩, by decide +kernel⟩
set_option maxRecDepth 20000 in
theorem rp_MF204 : rp_MF 204 := ⟨rp_gt_of 1286 rfl rfl, rp_ini8, rfl, by decide +kernel, ⟨by decide +kernel, by decide +kernel, by decide +kernel⟩, by decide +kernel⟩
set_option maxRecDepth 20000 in
theorem rp_MF205 : rp_MF 205 := ⟨rp_gt_of 1290 rfl rfl, rp_ini8, rfl, by decide +kernel, ⟨by decide +kernel, by decide +kernel, by decide +kernel⟩, by decide +kernel⟩
set_option maxRecDepth 20000 in
theorem rp_MF206 : rp_MF 206 := ⟨rp_gt_of 1294 rfl rfl, rp_ini8, rfl, by decide +kernel, ⟨by decide +kernel, by decide +kernel, by decide +kernel⟩, by decide +kernel⟩
set_option maxRecDepth 20000 in
theorem rp_MF207 : rp_MF 207 := ⟨rp_gt_of 1298 rfl rfl, rp_ini8, rfl, by decide +kernel, ⟨by decide +kernel, by decide +kernel, by decide +kernel⟩, by decide +kernel⟩
set_option maxRecDepth 20000 in
theorem rp_MF208 : rp_MF 208 := ⟨rp_gt_of 1302 rfl rfl, rp_ini8, rfl, by decide +kernel, ⟨by decide +kernel, by decide +kernel, by decide +kernel⟩, by decide +kernel⟩
set_option maxRecDepth 20000 in
theorem rp_MF209 : rp_MF 209 := ⟨rp_gt_of 1306 rfl rfl, rp_ini8, rfl, by decide +kernel, ⟨by decide +kernel, by decide +kernel, by decide +kernel⟩, by decide +kernel⟩
set_option maxRecDepth 20000 in
theorem rp_MF210 : rp_MF 210 := ⟨rp_gt_of 1311 rfl rfl, rp_ini8, rfl, by decide +kernel, ⟨by decide +kernel, by decide +kernel, by decide +kernel⟩, by decide +kernel⟩
set_option maxRecDepth 20000 in
theorem rp_MF211 : rp_MF 211 := ⟨rp_gt_of 1315 rfl rfl, rp_ini8, rfl, by decide +kernel, ⟨by decide +kernel, by decide +kernel, by decide +kernel⟩, by decide +kernel⟩
set_option maxRecDepth 20000 in
theorem rp_MF212 : rp_MF 212 := ⟨rp_gt_of 1319 rfl rfl, rp_ini8, rfl, by decide +kernel, ⟨by decide +kernel, by decide +kernel, by decide +kernel⟩, by decide +kernel⟩
set_option maxRecDepth 20000 in
theorem rp_MF213 : rp_MF 213 := ⟨rp_gt_of 1323 rfl rfl, rp_ini8, rfl, by decide +kernel, ⟨by decide +kernel, by decide +kernel, by decide +kernel⟩, by decide +kernel⟩
set_option maxRecDepth 20000 in
theorem rp_MF214 : rp_MF 214 := ⟨rp_gt_of 1327 rfl rfl, rp_ini8, rfl, by decide +kernel, ⟨by decide +kernel, by decide +kernel, by decide +kernel⟩, by decide +kernel⟩
set_option maxRecDepth 20000 in
theorem rp_MF215 : rp_MF 215 := ⟨rp_gt_of 1331 rfl rfl, rp_ini8, rfl, by decide +kernel, ⟨by decide +kernel, by decide +kernel, by decide +kernel⟩, by decide +kernel⟩
set_option maxRecDepth 20000 in
theorem rp_MF216 : rp_MF 216 := ⟨rp_gt_of 1335 rfl rfl, rp_ini8, rfl, by decide +kernel, ⟨by decide +kernel, by decide +kernel, by decide +kernel⟩, by decide +kernel⟩
set_option maxRecDepth 20000 in
theorem rp_MF217 : rp_MF 217 := ⟨rp_gt_of 1339 rfl rfl, rp_ini8, rfl, by decide +kernel, ⟨by decide +kernel, by decide +kernel, by decide +kernel⟩, by decide +kernel⟩
set_option maxRecDepth 20000 in
theorem rp_MF218 : rp_MF 218 := ⟨rp_gt_of 1343 rfl rfl, rp_ini8, rfl, by decide +kernel, ⟨by decide +kernel, by decide +kernel, by decide +kernel⟩, by decide +kernel⟩
set_option maxRecDepth 20000 in
theorem rp_MF219 : rp_MF 219 := ⟨rp_gt_of 1347 rfl rfl, rp_ini8, rfl, by decide +kernel, ⟨by decide +kernel, by decide +kernel, by decide +kernel⟩, by decide +kernel⟩
set_option maxRecDepth 20000 in
theorem rp_MF220 : rp_MF 220 := ⟨rp_gt_of 1351 rfl rfl, rp_ini8, rfl, by decide +kernel, ⟨by decide +kernel, by decide +kernel, by decide +kernel⟩, by decide +kernel⟩
set_option maxRecDepth 20000 in
theorem rp_MF221 : rp_MF 221 := ⟨rp_gt_of 1355 rfl rfl, rp_ini8, rfl, by decide +kernel, ⟨by decide +kernel, by decide +kernel, by decide +kernel⟩, by decide +kernel⟩
set_option maxRecDepth 20000 in
theorem rp_MF222 : rp_MF 222 := ⟨rp_gt_of 1359 rfl rfl, rp_ini8, rfl, by decide +kernel, ⟨by decide +kernel, by decide +kernel, by decide +kernel⟩, by decide +kernel⟩
set_option maxRecDepth 20000 in
theorem rp_MF223 : rp_MF 223 := ⟨rp_gt_of 1363 rfl rfl, rp_ini8, rfl, by decide +kernel, ⟨by decide +kernel, by decide +kernel, by decide +kernel⟩, by decide +kernel⟩
set_option maxRecDepth 20000 in
theorem rp_MF224 : rp_MF 224 := ⟨rp_gt_of 1367 rfl rfl, rp_ini8, rfl, by decide +kernel, ⟨by decide +kernel, by decide +kernel, by decide +kernel⟩, by decide +kernel⟩
set_option maxRecDepth 20000 in
theorem rp_MF225 : rp_MF 225 := ⟨rp_gt_of 1371 rfl rfl, rp_ini8, rfl, by decide +kernel, ⟨by decide +kernel, by decide +kernel, by decide +kernel⟩, by decide +kernel⟩
set_option maxRecDepth 20000 in
theorem rp_MF226 : rp_MF 226 := ⟨rp_gt_of 1375 rfl rfl, rp_ini8, rfl, by decide +kernel, ⟨by decide +kernel, by decide +kernel, by decide +kernel⟩, by decide +kernel⟩
set_option maxRecDepth 100000 in
theorem rp_MFs : ∀ c, c < 227 → rp_MF c := by
  intro c hc
  have e : List.range 227 = [0, 1, 2, 3, 4, 5, 6, 7, 8, 9, 10, 11, 12, 13, 14, 15, 16, 17, 18, 19, 20, 21, 22, 23, 24, 25, 26, 27, 28, 29, 30, 31, 32, 33, 34, 35, 36, 37, 38, 39, 40, 41, 42, 43, 44, 45, 46, 47, 48, 49, 50, 51, 52, 53, 54, 55, 56, 57, 58, 59, 60, 61, 62, 63, 64, 65, 66, 67, 68, 69, 70, 71, 72, 73, 74, 75, 76, 77, 78, 79, 80, 81, 82, 83, 84, 85, 86, 87, 88, 89, 90, 91, 92, 93, 94, 95, 96, 97, 98, 99, 100, 101, 102, 103, 104, 105, 106, 107, 108, 109, 110, 111, 112, 113, 114, 115, 116, 117, 118, 119, 120, 121, 122, 123, 124, 125, 126, 127, 128, 129, 130, 131, 132, 133, 134, 135, 136, 137, 138, 139, 140, 141, 142, 143, 144, 145, 146, 147, 148, 149, 150, 151, 152, 153, 154, 155, 156, 157, 158, 159, 160, 161, 162, 163, 164, 165, 166, 167, 168, 169, 170, 171, 172, 173, 174, 175, 176, 177, 178, 179, 180, 181, 182, 183, 184, 185, 186, 187, 188, 189, 190, 191, 192, 193, 194, 195, 196, 197, 198, 199, 200, 201, 202, 203, 204, 205, 206, 207, 208, 209, 210, 211, 212, 213, 214, 215, 216, 217, 218, 219, 220, 221, 222, 223, 224, 225, 226] := by decide +kernel
  have h : ∀ c ∈ [0, 1, 2, 3, 4, 5, 6, 7, 8, 9, 10, 11, 12, 13, 14, 15, 16, 17, 18, 19, 20, 21, 22, 23, 24, 25, 26, 27, 28, 29, 30, 31, 32, 33, 34, 35, 36, 37, 38, 39, 40, 41, 42, 43, 44, 45, 46, 47, 48, 49, 50, 51, 52, 53, 54, 55, 56, 57, 58, 59, 60, 61, 62, 63, 64, 65, 66, 67, 68, 69, 70, 71, 72, 73, 74, 75, 76, 77, 78, 79, 80, 81, 82, 83, 84, 85, 86, 87, 88, 89, 90, 91, 92, 93, 94, 95, 96, 97, 98, 99, 100, 101, 102, 103, 104, 105, 106, 107, 108, 109, 110, 111, 112, 113, 114, 115, 116, 117, 118, 119, 120, 121, 122, 123, 124, 125, 126, 127, 128, 129, 130, 131, 132, 133, 134, 135, 136, 137, 138, 139, 140, 141, 142, 143, 144, 145, 146, 147, 148, 149, 150, 151, 152, 153, 154, 155, 156, 157, 158, 159, 160, 161, 162, 163, 164, 165, 166, 167, 168, 169, 170, 171, 172, 173, 174, 175, 176, 177, 178, 179, 180, 181, 182, 183, 184, 185, 186, 187, 188, 189, 190, 191, 192, 193, 194, 195, 196, 197, 198, 199, 200, 201, 202, 203, 204, 205, 206, 207, 208, 209, 210, 211, 212, 213, 214, 215, 216, 217, 218, 219, 220, 221, 222, 223, 224, 225, 226], rp_MF c := List.forall_mem_cons.mpr ⟨rp_MF0, List.forall_mem_cons.mpr ⟨rp_MF1, List.forall_mem_cons.mpr ⟨rp_MF2, List.forall_mem_cons.mpr ⟨rp_MF3, List.forall_mem_cons.mpr ⟨rp_MF4, List.forall_mem_cons.mpr ⟨rp_MF5, List.forall_mem_cons.mpr ⟨rp_MF6, List.forall_mem_cons.mpr ⟨rp_MF7, List.forall_mem_cons.mpr ⟨rp_MF8, List.forall_mem_cons.mpr ⟨rp_MF9, List.forall_mem_cons.mpr ⟨rp_MF10, List.forall_mem_cons.mpr ⟨rp_MF11, List.forall_mem_cons.mpr ⟨rp_MF12, List.forall_mem_cons.mpr ⟨rp_MF13, List.forall_mem_cons.mpr ⟨rp_MF14, List.forall_mem_cons.mpr ⟨rp_MF15, List.forall_mem_cons.mpr ⟨rp_MF16, List.forall_mem_cons.mpr ⟨rp_MF17, List.forall_mem_cons.mpr ⟨rp_MF18, List.forall_mem_cons.mpr ⟨rp_MF19, List.forall_mem_cons.mpr ⟨rp_MF20, List.forall_mem_cons.mpr ⟨rp_MF21, List.forall_mem_cons.mpr ⟨rp_MF22, List.forall_mem_cons.mpr ⟨rp_MF23, List.forall_mem_cons.mpr ⟨rp_MF24, List.forall_mem_cons.mpr ⟨rp_MF25, List.forall_mem_cons.mpr ⟨rp_MF26, List.forall_mem_cons.mpr ⟨rp_MF27, List.forall_mem_cons.mpr ⟨rp_MF28, List.forall_mem_cons.mpr ⟨rp_MF29, List.forall_mem_cons.mpr ⟨rp_MF30, List.forall_mem_cons.mpr ⟨rp_MF31, List.forall_mem_cons.mpr ⟨rp_MF32, List.forall_mem_cons.mpr ⟨rp_MF33, List.forall_mem_cons.mpr ⟨rp_MF34, List.forall_mem_cons.mpr ⟨rp_MF35, List.forall_mem_cons.mpr ⟨rp_MF36, List.forall_mem_cons.mpr ⟨rp_MF37, List.forall_mem_cons.mpr ⟨rp_MF38, List.forall_mem_cons.mpr ⟨rp_MF39, List.forall_mem_cons.mpr ⟨rp_MF40, List.forall_mem_cons.mpr ⟨rp_MF41, List.forall_mem_cons.mpr ⟨rp_MF42, List.forall_mem_cons.mpr ⟨rp_MF43, List.forall_mem_cons.mpr ⟨rp_MF44, List.forall_mem_cons.mpr ⟨rp_MF45, List.forall_mem_cons.mpr ⟨rp_MF46, List.forall_mem_cons.mpr ⟨rp_MF47, List.forall_mem_cons.mpr ⟨rp_MF48, List.forall_mem_cons.mpr ⟨rp_MF49, List.forall_mem_cons.mpr ⟨rp_MF50, List.forall_mem_cons.mpr ⟨rp_MF51, List.forall_mem_cons.mpr ⟨rp_MF52, List.forall_mem_cons.mpr ⟨rp_MF53, List.forall_mem_cons.mpr ⟨rp_MF54, List.forall_mem_cons.mpr ⟨rp_MF55, List.forall_mem_cons.mpr ⟨rp_MF56, List.forall_mem_cons.mpr ⟨rp_MF57, List.forall_mem_cons.mpr ⟨rp_MF58, List.forall_mem_cons.mpr ⟨rp_MF59, List.forall_mem_cons.mpr ⟨rp_MF60, List.forall_mem_cons.mpr ⟨rp_MF61, List.forall_mem_cons.mpr ⟨rp_MF62, List.forall_mem_cons.mpr ⟨rp_MF63, List.forall_mem_cons.mpr ⟨rp_MF64, List.forall_mem_cons.mpr ⟨rp_MF65, List.forall_mem_cons.mpr ⟨rp_MF66, List.forall_mem_cons.mpr ⟨rp_MF67, List.forall_mem_cons.mpr ⟨rp_MF68, List.forall_mem_cons.mpr ⟨rp_MF69, List.forall_mem_cons.mpr ⟨rp_MF70, List.forall_mem_cons.mpr ⟨rp_MF71, List.forall_mem_cons.mpr ⟨rp_MF72, List.forall_mem_cons.mpr ⟨rp_MF73, List.forall_mem_cons.mpr ⟨rp_MF74, List.forall_mem_cons.mpr ⟨rp_MF75, List.forall_mem_cons.mpr ⟨rp_MF76, List.forall_mem_cons.mpr ⟨rp_MF77, List.forall_mem_cons.mpr ⟨rp_MF78, List.forall_mem_cons.mpr ⟨rp_MF79, List.forall_mem_cons.mpr ⟨rp_MF80, List.forall_mem_cons.mpr ⟨rp_MF81, List.forall_mem_cons.mpr ⟨rp_MF82, List.forall_mem_cons.mpr ⟨rp_MF83, List.forall_mem_cons.mpr ⟨rp_MF84, List.forall_mem_cons.mpr ⟨rp_MF85, List.forall_mem_cons.mpr ⟨rp_MF86, List.forall_mem_cons.mpr ⟨rp_MF87, List.forall_mem_cons.mpr ⟨rp_MF88, List.forall_mem_cons.mpr ⟨rp_MF89, List.forall_mem_cons.mpr ⟨rp_MF90, List.forall_mem_cons.mpr ⟨rp_MF91, List.forall_mem_cons.mpr ⟨rp_MF92, List.forall_mem_cons.mpr ⟨rp_MF93, List.forall_mem_cons.mpr ⟨rp_MF94, List.forall_mem_cons.mpr ⟨rp_MF95, List.forall_mem_cons.mpr ⟨rp_MF96, List.forall_mem_cons.mpr ⟨rp_MF97, List.forall_mem_cons.mpr ⟨rp_MF98, List.forall_mem_cons.mpr ⟨rp_MF99, List.forall_mem_cons.mpr ⟨rp_MF100, List.forall_mem_cons.mpr ⟨rp_MF101, List.forall_mem_cons.mpr ⟨rp_MF102, List.forall_mem_cons.mpr ⟨rp_MF103, List.forall_mem_cons.mpr ⟨rp_MF104, List.forall_mem_cons.mpr ⟨rp_MF105, List.forall_mem_cons.mpr ⟨rp_MF106, List.forall_mem_cons.mpr ⟨rp_MF107, List.forall_mem_cons.mpr ⟨rp_MF108, List.forall_mem_cons.mpr ⟨rp_MF109, List.forall_mem_cons.mpr ⟨rp_MF110, List.forall_mem_cons.mpr ⟨rp_MF111, List.forall_mem_cons.mpr ⟨rp_MF112, List.forall_mem_cons.mpr ⟨rp_MF113, List.forall_mem_cons.mpr ⟨rp_MF114, List.forall_mem_cons.mpr ⟨rp_MF115, List.forall_mem_cons.mpr ⟨rp_MF116, List.forall_mem_cons.mpr ⟨rp_MF117, List.forall_mem_cons.mpr ⟨rp_MF118, List.forall_mem_cons.mpr ⟨rp_MF119, List.forall_mem_cons.mpr ⟨rp_MF120, List.forall_mem_cons.mpr ⟨rp_MF121, List.forall_mem_cons.mpr ⟨rp_MF122, List.forall_mem_cons.mpr ⟨rp_MF123, List.forall_mem_cons.mpr ⟨rp_MF124, List.forall_mem_cons.mpr ⟨rp_MF125, List.forall_mem_cons.mpr ⟨rp_MF126, List.forall_mem_cons.mpr ⟨rp_MF127, List.forall_mem_cons.mpr ⟨rp_MF128, List.forall_mem_cons.mpr ⟨rp_MF129, List.forall_mem_cons.mpr ⟨rp_MF130, List.forall_mem_cons.mpr ⟨rp_MF131, List.forall_mem_cons.mpr ⟨rp_MF132, List.forall_mem_cons.mpr ⟨rp_MF133, List.forall_mem_cons.mpr ⟨rp_MF134, List.forall_mem_cons.mpr ⟨rp_MF135, List.forall_mem_cons.mpr ⟨rp_MF136, List.forall_mem_cons.mpr ⟨rp_MF137, List.forall_mem_cons.mpr ⟨rp_MF138, List.forall_mem_cons.mpr ⟨rp_MF139, List.forall_mem_cons.mpr ⟨rp_MF140, List.forall_mem_cons.mpr ⟨rp_MF141, List.forall_mem_cons.mpr ⟨rp_MF142, List.forall_mem_cons.mpr ⟨rp_MF143, List.forall_mem_cons.mpr ⟨rp_MF144, List.forall_mem_cons.mpr ⟨rp_MF145, List.forall_mem_cons.mpr ⟨rp_MF146, List.forall_mem_cons.mpr ⟨rp_MF147, List.forall_mem_cons.mpr ⟨rp_MF148, List.forall_mem_cons.mpr ⟨rp_MF149, List.forall_mem_cons.mpr ⟨rp_MF150, List.forall_mem_cons.mpr ⟨rp_MF151, List.forall_mem_cons.mpr ⟨rp_MF152, List.forall_mem_cons.mpr ⟨rp_MF153, List.forall_mem_cons.mpr ⟨rp_MF154, List.forall_mem_cons.mpr ⟨rp_MF155, List.forall_mem_cons.mpr ⟨rp_MF156, List.forall_mem_cons.mpr ⟨rp_MF157, List.forall_mem_cons.mpr ⟨rp_MF158, List.forall_mem_cons.mpr ⟨rp_MF159, List.forall_mem_cons.mpr ⟨rp_MF160, List.forall_mem_cons.mpr ⟨rp_MF161, List.forall_mem_cons.mpr ⟨rp_MF162, List.forall_mem_cons.mpr ⟨rp_MF163, List.forall_mem_cons.mpr ⟨rp_MF164, List.forall_mem_cons.mpr ⟨rp_MF165, List.forall_mem_cons.mpr ⟨rp_MF166, List.forall_mem_cons.mpr ⟨rp_MF167, List.forall_mem_cons.mpr ⟨rp_MF168, List.forall_mem_cons.mpr ⟨rp_MF169, List.forall_mem_cons.mpr ⟨rp_MF170, List.forall_mem_cons.mpr ⟨rp_MF171, List.forall_mem_cons.mpr ⟨rp_MF172, List.forall_mem_cons.mpr ⟨rp_MF173, List.forall_mem_cons.mpr ⟨rp_MF174, List.forall_mem_cons.mpr ⟨rp_MF175, List.forall_mem_cons.mpr ⟨rp_MF176, List.forall_mem_cons.mpr ⟨rp_MF177, List.forall_mem_cons.mpr ⟨rp_MF178, List.forall_mem_cons.mpr ⟨rp_MF179, List.forall_mem_cons.mpr ⟨rp_MF180, List.forall_mem_cons.mpr ⟨rp_MF181, List.forall_mem_cons.mpr ⟨rp_MF182, List.forall_mem_cons.mpr ⟨rp_MF183, List.forall_mem_cons.mpr ⟨rp_MF184, List.forall_mem_cons.mpr ⟨rp_MF185, List.forall_mem_cons.mpr ⟨rp_MF186, List.forall_mem_cons.mpr ⟨rp_MF187, List.forall_mem_cons.mpr ⟨rp_MF188, List.forall_mem_cons.mpr ⟨rp_MF189, List.forall_mem_cons.mpr ⟨rp_MF190, List.forall_mem_cons.mpr ⟨rp_MF191, List.forall_mem_cons.mpr ⟨rp_MF192, List.forall_mem_cons.mpr ⟨rp_MF193, List.forall_mem_cons.mpr ⟨rp_MF194, List.forall_mem_cons.mpr ⟨rp_MF195, List.forall_mem_cons.mpr ⟨rp_MF196, List.forall_mem_cons.mpr ⟨rp_MF197, List.forall_mem_cons.mpr ⟨rp_MF198, List.forall_mem_cons.mpr ⟨rp_MF199, List.forall_mem_cons.mpr ⟨rp_MF200, List.forall_mem_cons.mpr ⟨rp_MF201, List.forall_mem_cons.mpr ⟨rp_MF202, List.forall_mem_cons.mpr ⟨rp_MF203, List.forall_mem_cons.mpr ⟨rp_MF204, List.forall_mem_cons.mpr ⟨rp_MF205, List.forall_mem_cons.mpr ⟨rp_MF206, List.forall_mem_cons.mpr ⟨rp_MF207, List.forall_mem_cons.mpr ⟨rp_MF208, List.forall_mem_cons.mpr ⟨rp_MF209, List.forall_mem_cons.mpr ⟨rp_MF210, List.forall_mem_cons.mpr ⟨rp_MF211, List.forall_mem_cons.mpr ⟨rp_MF212, List.forall_mem_cons.mpr ⟨rp_MF213, List.forall_mem_cons.mpr ⟨rp_MF214, List.forall_mem_cons.mpr ⟨rp_MF215, List.forall_mem_cons.mpr ⟨rp_MF216, List.forall_mem_cons.mpr ⟨rp_MF217, List.forall_mem_cons.mpr ⟨rp_MF218, List.forall_mem_cons.mpr ⟨rp_MF219, List.forall_mem_cons.mpr ⟨rp_MF220, List.forall_mem_cons.mpr ⟨rp_MF221, List.forall_mem_cons.mpr ⟨rp_MF222, List.forall_mem_cons.mpr ⟨rp_MF223, List.forall_mem_cons.mpr ⟨rp_MF224, List.forall_mem_cons.mpr ⟨rp_MF225, List.forall_mem_cons.mpr ⟨rp_MF226, fun _ h => absurd h List.not_mem_nil⟩⟩⟩⟩⟩⟩⟩⟩⟩⟩⟩⟩⟩⟩⟩⟩⟩⟩⟩⟩⟩⟩⟩⟩⟩⟩⟩⟩⟩⟩⟩⟩⟩⟩⟩⟩⟩⟩⟩⟩⟩⟩⟩⟩⟩⟩⟩⟩⟩⟩⟩⟩⟩⟩⟩⟩⟩⟩⟩⟩⟩⟩⟩⟩⟩⟩⟩⟩⟩⟩⟩⟩⟩⟩⟩⟩⟩⟩⟩⟩⟩⟩⟩⟩⟩⟩⟩⟩⟩⟩⟩⟩⟩⟩⟩⟩⟩⟩⟩⟩⟩⟩⟩⟩⟩⟩⟩⟩⟩⟩⟩⟩⟩⟩⟩⟩⟩⟩⟩⟩⟩⟩⟩⟩⟩⟩⟩⟩⟩⟩⟩⟩⟩⟩⟩⟩⟩⟩⟩⟩⟩⟩⟩⟩⟩⟩⟩⟩⟩⟩⟩⟩⟩⟩⟩⟩⟩⟩⟩⟩⟩⟩⟩⟩⟩⟩⟩⟩⟩⟩⟩⟩⟩⟩⟩⟩⟩⟩⟩⟩⟩⟩⟩⟩⟩⟩⟩⟩⟩⟩⟩⟩⟩⟩⟩⟩⟩⟩⟩⟩⟩⟩⟩⟩⟩⟩⟩⟩⟩⟩⟩⟩⟩⟩⟩⟩⟩⟩⟩⟩⟩⟩⟩⟩⟩⟩⟩
  exact h c (e ▸ List.mem_range.mpr hc)
def rp_ct : List (Nat × Nat × Nat × Nat × Nat × Nat) := [(7, 3, 5000, 5, 98, 0), (7, 11, 1, 3, 103, 104), (7, 21, 7, 4, 0, 187), (7, 28, 8, 3, 214, 215), (7, 35, 10, 4, 1, 230), (7, 42, 11, 4, 2, 270), (7, 49, 12, 4, 3, 283), (7, 54, 14, 1, 334, 335), (7, 58, 16, 1, 340, 341), (7, 61, 15, 1, 337, 338), (7, 69, 4, 0, 343, 135), (7, 75, 3, 0, 344, 131), (7, 79, 5, 0, 345, 139), (7, 83, 17, 1, 346, 347), (7, 87, 18, 0, 349, 350), (7, 91, 25, 0, 378, 379), (7, 94, 26, 1, 382, 383), (7, 97, 27, 1, 385, 386), (7, 103, 20, 0, 388, 358), (7, 111, 31, 0, 401, 402), (7, 114, 32, 0, 405, 406), (7, 118, 34, 0, 414, 415), (7, 121, 54, 0, 554, 555), (7, 124, 55, 1, 558, 559), (7, 130, 51, 0, 561, 542), (7, 134, 56, 0, 562, 563), (7, 137, 58, 0, 571, 572), (7, 140, 60, 1, 580, 581), (7, 146, 61, 0, 583, 584), (7, 150, 64, 0, 595, 596), (7, 153, 66, 0, 604, 605), (7, 156, 67, 0, 608, 609), (7, 159, 68, 0, 612, 613), (7, 162, 70, 0, 621, 622), (7, 165, 72, 0, 629, 630), (7, 172, 77, 0, 650, 651), (7, 175, 81, 0, 666, 667), (7, 179, 19, 0, 672, 354), (7, 180, 75, 0, 677, 643), (7, 183, 69, 0, 682, 617), (7, 189, 87, 0, 695, 696), (7, 193, 100, 0, 752, 753), (7, 196, 101, 0, 756, 757), (7, 199, 102, 0, 760, 761), (7, 202, 103, 0, 764, 765), (7, 205, 104, 0, 768, 769), (7, 208, 105, 0, 772, 773), (7, 211, 88, 0, 780, 700), (7, 215, 97, 0, 781, 741), (7, 218, 108, 0, 786, 787), (7, 222, 109, 0, 792, 793), (7, 229, 114, 0, 815, 816), (7, 232, 117, 0, 830, 832), (7, 238, 22, 0, 838, 367), (7, 242, 119, 0, 839, 840), (7, 245, 121, 0, 847, 848), (7, 248, 123, 0, 855, 856), (7, 251, 131, 0, 891, 892), (7, 254, 132, 0, 895, 896), (7, 257, 133, 0, 899, 900), (7, 260, 134, 0, 903, 904), (7, 263, 135, 0, 911, 908), (7, 266, 137, 0, 916, 917), (7, 269, 140, 0, 929, 930), (7, 272, 142, 0, 937, 938), (0, 3, 5000, 5, 106, 0), (0, 11, 2, 3, 109, 110), (0, 38, 3, 0, 130, 131), (0, 42, 143, 0, 941, 942), (0, 50, 20, 0, 575, 358), (0, 54, 62, 2, 4, 589), (0, 57, 5, 0, 587, 139), (0, 61, 69, 0, 616, 617), (0, 65, 64, 0, 620, 596), (0, 69, 73, 0, 633, 634), (0, 73, 74, 0, 637, 638), (0, 77, 70, 0, 641, 622), (0, 80, 19, 0, 599, 354), (0, 83, 65, 0, 600, 602), (0, 87, 75, 0, 642, 643), (0, 90, 78, 0, 654, 655), (1, 3, 5000, 5, 189, 0), (1, 27, 35, 0, 418, 420), (1, 30, 37, 0, 426, 428), (1, 36, 40, 0, 440, 442), (1, 40, 44, 0, 513, 515), (1, 44, 36, 0, 422, 424), (1, 54, 41, 0, 444, 446), (1, 58, 45, 1, 517, 518), (1, 61, 46, 0, 520, 522), (1, 64, 49, 0, 534, 536), (1, 67, 52, 0, 545, 547), (1, 72, 48, 0, 530, 532), (1, 76, 53, 0, 550, 552), (1, 79, 50, 1, 538, 539), (1, 83, 47, 0, 524, 526), (1, 89, 51, 0, 541, 542), (1, 92, 43, 0, 461, 463), (1, 95, 38, 0, 430, 432), (1, 98, 42, 1, 448, 449), (1, 122, 39, 1, 437, 438), (1, 125, 15, 2, 5, 338), (1, 129, 5003, 5, 465, 0), (1, 134, 5004, 5, 475, 0), (1, 138, 5002, 5, 434, 0), (2, 3, 5000, 5, 285, 0), (2, 24, 124, 0, 859, 861), (2, 41, 126, 0, 869, 871), (2, 45, 129, 0, 880, 882), (2, 49, 19, 0, 863, 354), (2, 55, 20, 0, 864, 358), (2, 59, 125, 0, 865, 867), (2, 63, 127, 1, 873, 874), (2, 67, 128, 0, 876, 878), (2, 71, 22, 0, 884, 367), (2, 77, 119, 0, 885, 840), (2, 83, 121, 0, 886, 848), (2, 86, 130, 0, 887, 889), (2, 89, 135, 0, 907, 908), (2, 92, 134, 0, 920, 904), (3, 3, 5000, 5, 232, 0), (3, 34, 20, 0, 703, 358), (3, 52, 19, 0, 704, 354), (3, 55, 89, 0, 705, 707), (3, 62, 78, 0, 709, 655), (3, 66, 73, 0, 710, 634), (3, 70, 90, 0, 711, 713), (3, 74, 74, 0, 731, 638), (3, 78, 91, 0, 715, 717), (3, 81, 92, 0, 719, 721), (3, 84, 93, 0, 723, 725), (3, 87, 94, 0, 727, 729), (3, 91, 96, 0, 736, 738), (3, 95, 98, 0, 744, 746), (3, 98, 99, 0, 748, 750), (3, 101, 88, 0, 699, 700), (3, 114, 95, 0, 732, 733), (3, 118, 97, 0, 740, 741), (4, 3, 5000, 5, 272, 0), (4, 11, 2, 3, 274, 110), (4, 20, 88, 0, 790, 700), (4, 26, 95, 0, 791, 733), (4, 30, 110, 0, 796, 797), (4, 33, 3, 0, 800, 131), (4, 37, 5, 0, 801, 139), (4, 41, 97, 0, 802, 741), (4, 45, 115, 0, 819, 821), (4, 49, 19, 0, 825, 354), (4, 52, 25, 0, 823, 379), (4, 55, 20, 0, 824, 358), (5, 1, 5000, 5, 112, 0), (5, 7, 5001, 5, 113, 0), (5, 29, 6, 0, 142, 144), (5, 32, 4, 0, 134, 135), (5, 36, 5, 0, 138, 139), (5, 40, 25, 0, 670, 379), (5, 44, 20, 0, 671, 358), (5, 47, 5002, 5, 945, 0), (6, 3, 5000, 5, 217, 0), (6, 15, 9, 0, 218, 220), (6, 18, 19, 0, 353, 354), (6, 24, 20, 0, 357, 358), (6, 28, 21, 0, 361, 363), (6, 32, 22, 0, 366, 367), (6, 36, 23, 0, 370, 372), (6, 40, 14, 2, 6, 335), (9, 9, 0, 3, 95, 96), (9, 12, 145, 3, 952, 953), (9, 13, 13, 0, 330, 331), (9, 17, 146, 0, 1057, 1058), (9, 18, 24, 0, 374, 375), (9, 22, 149, 0, 1067, 1068), (9, 23, 28, 0, 389, 390), (9, 27, 150, 0, 1071, 1072), (9, 28, 29, 0, 393, 394), (9, 32, 153, 0, 1083, 1084), (9, 35, 30, 0, 397, 398), (9, 39, 154, 0, 1087, 1088), (9, 40, 33, 0, 410, 411), (9, 43, 155, 0, 1092, 1093), (9, 44, 57, 0, 567, 568), (9, 47, 167, 0, 1137, 1138), (9, 48, 59, 0, 576, 577), (9, 52, 169, 0, 1145, 1146), (9, 53, 63, 0, 591, 592), (9, 56, 188, 0, 1219, 1220), (9, 57, 71, 0, 625, 626), (9, 61, 171, 0, 1152, 1153), (9, 62, 76, 0, 646, 647), (9, 65, 182, 0, 1195, 1196), (9, 66, 79, 0, 658, 659), (9, 69, 184, 0, 1203, 1204), (9, 70, 80, 0, 662, 663), (9, 73, 186, 0, 1211, 1212), (9, 74, 82, 0, 673, 674), (9, 77, 187, 0, 1215, 1216), (9, 78, 83, 0, 678, 679), (9, 81, 190, 0, 1227, 1228), (9, 82, 84, 0, 683, 684), (9, 85, 191, 0, 1231, 1232), (9, 86, 85, 0, 687, 688), (9, 90, 192, 0, 1235, 1236), (9, 91, 86, 0, 691, 692), (9, 94, 199, 0, 1263, 1264), (9, 95, 106, 0, 776, 777), (9, 98, 193, 0, 1239, 1240), (9, 99, 107, 0, 782, 783), (9, 102, 201, 0, 1271, 1272), (9, 103, 111, 0, 803, 804), (9, 106, 204, 0, 1283, 1284), (9, 107, 112, 0, 807, 808), (9, 110, 205, 0, 1287, 1288), (9, 111, 113, 0, 811, 812), (9, 114, 206, 0, 1291, 1292), (9, 115, 116, 0, 826, 827), (9, 119, 211, 0, 1312, 1313), (9, 120, 118, 0, 834, 835), (9, 123, 207, 0, 1295, 1296), (9, 124, 120, 0, 843, 844), (9, 127, 210, 0, 1308, 1309), (9, 128, 122, 0, 851, 852), (9, 131, 212, 0, 1316, 1317), (9, 132, 136, 0, 912, 913), (9, 135, 218, 0, 1340, 1341), (9, 136, 138, 0, 921, 922), (9, 139, 221, 0, 1352, 1353), (9, 140, 139, 0, 925, 926), (9, 143, 222, 0, 1356, 1357), (9, 144, 141, 0, 933, 934), (9, 147, 223, 0, 1360, 1361), (9, 148, 144, 0, 946, 947), (9, 151, 226, 0, 1372, 1373), (8, 1, 5000, 5, 955, 0), (8, 68, 148, 1, 1064, 1065), (8, 72, 147, 1, 1061, 1062), (8, 76, 151, 0, 1075, 1077), (8, 79, 152, 0, 1079, 1081), (8, 100, 158, 1, 1103, 1104), (8, 103, 159, 1, 1106, 1107), (8, 109, 160, 0, 1109, 1111), (8, 113, 157, 0, 1099, 1101), (8, 116, 163, 0, 1121, 1123), (8, 119, 164, 0, 1125, 1127), (8, 123, 162, 0, 1117, 1119), (8, 130, 165, 0, 1129, 1131), (8, 134, 166, 0, 1133, 1135), (8, 138, 156, 1, 1096, 1097), (8, 141, 161, 0, 1113, 1115), (8, 144, 168, 0, 1141, 1143), (8, 147, 170, 1, 1149, 1150), (8, 150, 176, 1, 1172, 1173), (8, 154, 177, 0, 1175, 1177), (8, 158, 179, 0, 1183, 1185), (8, 161, 178, 0, 1179, 1181), (8, 164, 175, 0, 1168, 1170), (8, 168, 180, 0, 1187, 1189), (8, 171, 181, 0, 1191, 1193), (8, 174, 173, 0, 1160, 1162), (8, 177, 172, 0, 1156, 1158), (8, 180, 174, 0, 1164, 1166), (8, 183, 183, 0, 1199, 1201), (8, 187, 185, 0, 1207, 1209), (8, 190, 189, 0, 1223, 1225), (8, 193, 196, 0, 1251, 1253), (8, 196, 197, 0, 1255, 1257), (8, 208, 195, 0, 1247, 1249), (8, 211, 198, 0, 1259, 1261), (8, 215, 194, 0, 1243, 1245), (8, 218, 200, 0, 1267, 1269), (8, 224, 203, 0, 1279, 1281), (8, 228, 202, 0, 1275, 1277), (8, 235, 209, 0, 1303, 1305), (8, 238, 208, 0, 1299, 1301), (8, 242, 216, 0, 1332, 1334), (8, 245, 215, 0, 1328, 1330), (8, 248, 217, 0, 1336, 1338), (8, 251, 213, 0, 1320, 1322), (8, 254, 214, 0, 1324, 1326), (8, 257, 220, 0, 1348, 1350), (8, 260, 219, 0, 1344, 1346), (8, 267, 225, 0, 1368, 1370), (8, 271, 224, 0, 1364, 1366)]
def rp_libs : List MethodName := [objectInit, Lib.Math.max.name, Lib.Math.min.name, ⟨"java/lang/String", "length", "()I"⟩, ⟨"java/lang/String", "charAt", "(I)C"⟩]
def rp_ctb (q : Nat × Nat × Nat × Nat × Nat × Nat) : Bool := match q.2.2.2.1 with
  | 0 => decide (lw_tbl[q.2.2.2.2.1]? = some (.methodLink (rp_cn q.1) q.2.1 (rp_mt q.2.2.1).1)) && (decide (lw_tbl[q.2.2.2.2.2]? = some (.instanceMethod (rp_mt q.2.2.1).1)) && (decide (lw_tbl[(rp_mq.getD q.2.2.1 (0, 0, 0, 0)).2.2.1]? = some (.selects (rp_mt q.2.2.1).1.cls (rp_mt q.2.2.1).1 (rp_mt q.2.2.1).1)) && decide (q.2.2.1 < 227)))
  | 1 => decide (lw_tbl[q.2.2.2.2.1]? = some (.methodLink (rp_cn q.1) q.2.1 (rp_mt q.2.2.1).1)) && (decide (lw_tbl[q.2.2.2.2.2]? = some (.static (rp_mt q.2.2.1).1)) && decide (q.2.2.1 < 227))
  | 2 => decide (lw_tbl[q.2.2.2.2.2]? = some (.static (rp_mt q.2.2.1).1)) && decide (q.2.2.1 < 227)
  | 3 => decide (lw_tbl[q.2.2.2.2.1]? = some (.methodLink (rp_cn q.1) q.2.1 (rp_mt q.2.2.1).1)) && (decide (lw_tbl[q.2.2.2.2.2]? = some (.instanceMethod (rp_mt q.2.2.1).1)) && (decide ((rp_mt q.2.2.1).1.name = "<init>") && (decide ((rp_mt q.2.2.1).2.2.2.1 = none) && decide (q.2.2.1 < 227))))
  | 4 => decide (lw_tbl[q.2.2.2.2.2]? = some (.instanceMethod (rp_mt q.2.2.1).1)) && (decide ((rp_mt q.2.2.1).1.name = "<init>") && (decide ((rp_mt q.2.2.1).2.2.2.1 = none) && decide (q.2.2.1 < 227)))
  | 5 => decide (lw_tbl[q.2.2.2.2.1]? = some (.methodLink (rp_cn q.1) q.2.1 (rp_libs.getD (q.2.2.1 - 5000) objectInit))) && (decide (5000 ≤ q.2.2.1) && decide (q.2.2.1 < 5005))
  | _ => false
theorem rp_ct_ok : rp_ct.all rp_ctb = true := by decide +kernel
/-- links within the nest: (class, index, method, host) -/
def rp_ns : List (Nat × Nat × Nat × String) := [(7, 21, 7, "RailPasses"), (7, 35, 10, "RailPasses"), (7, 42, 11, "RailPasses"), (7, 49, 12, "RailPasses"), (0, 54, 62, "RailPasses"), (1, 125, 15, "RailPasses"), (6, 40, 14, "RailPasses")]
theorem rp_ns_ok : ∀ q ∈ rp_ns, Cond.methodLinkNest (rp_cn q.1) q.2.1 (rp_mt q.2.2.1).1 q.2.2.2 ∈ lw_tbl := List.forall_mem_cons.mpr ⟨List.mem_of_getElem? (i := 186) (by decide +kernel), List.forall_mem_cons.mpr ⟨List.mem_of_getElem? (i := 229) (by decide +kernel), List.forall_mem_cons.mpr ⟨List.mem_of_getElem? (i := 269) (by decide +kernel), List.forall_mem_cons.mpr ⟨List.mem_of_getElem? (i := 282) (by decide +kernel), List.forall_mem_cons.mpr ⟨List.mem_of_getElem? (i := 588) (by decide +kernel), List.forall_mem_cons.mpr ⟨List.mem_of_getElem? (i := 528) (by decide +kernel), List.forall_mem_cons.mpr ⟨List.mem_of_getElem? (i := 365) (by decide +kernel), fun _ h => absurd h List.not_mem_nil⟩⟩⟩⟩⟩⟩⟩
theorem rp_nsct : ∀ q ∈ rp_ct, (q.2.2.2.1 = 2 ∨ q.2.2.2.1 = 4) → ∃ host, rp_ns[q.2.2.2.2.1]? = some (q.1, q.2.1, q.2.2.1, host) := by
  have h : ∀ q ∈ rp_ct, ((rp_ns[q.2.2.2.2.1]?).map (fun z => (z.1, z.2.1, z.2.2.1)) = some (q.1, q.2.1, q.2.2.1)) ∨ ¬ (q.2.2.2.1 = 2 ∨ q.2.2.2.1 = 4) := by decide +kernel
  intro q hq hk
  rcases h q hq with h | h
  · obtain ⟨z, h1, h2⟩ := Option.map_eq_some_iff.mp h
    obtain ⟨a, b, c, d⟩ := z
    cases h2
    exact ⟨d, h1⟩
  · exact absurd hk h
/-- an instruction's row is as the class files have it -/
def rp_tso (pc : Nat) (lo : Int) (offs : List Int) (l : List (Int32 × Nat)) : Bool := match offs, l with
  | [], [] => true
  | o :: offs, q :: l => decide (q.1.toInt = lo) && (decide ((pc : Int) + o = (q.2 : Int)) && rp_tso pc (lo + 1) offs l)
  | _, _ => false
def rp_lso (pc : Nat) (ps : List (Int × Int)) (l : List (Int32 × Nat)) : Bool := match ps, l with
  | [], [] => true
  | o :: ps, q :: l => decide (q.1.toInt = o.1) && (decide ((pc : Int) + o.2 = (q.2 : Int)) && rp_lso pc ps l)
  | _, _ => false
def rp_has4 (a b c d : Nat) : Bool := rp_ft.any fun q => Nat.beq q.1 a && (Nat.beq q.2.1 b && (Nat.beq q.2.2.1 c && Nat.beq q.2.2.2.1 d))
def rp_hasN (a b c : Nat) : Bool := rp_nt.any fun q => Nat.beq q.1 a && (Nat.beq q.2.1 b && Nat.beq q.2.2.1 c)
def rp_hasC (a b c : Nat) (ks : Nat → Bool) : Bool := rp_ct.any fun q => Nat.beq q.1 a && (Nat.beq q.2.1 b && (Nat.beq q.2.2.1 c && ks q.2.2.2.1))
/-- the room of a call, by the tables -/
def rp_rok (j c : Nat) : Bool := Nat.ble ((rp_mt c).2.2.2.2.2.1 + 1) (rp_mt j).2.2.2.2.2.1 && Nat.ble (8 + ((rp_mt c).2.2.1 + 11) + (rp_mt c).2.2.2.2.2.2.1) (rp_mt j).2.2.2.2.2.2.1
def rp_lok (j f w : Nat) : Bool := Nat.ble f (rp_mt j).2.2.2.2.2.1 && Nat.ble w (rp_mt j).2.2.2.2.2.2.1
def rp_putok (j : Nat) (i : rp_In) : Bool := bif i.2.2.2.isEmpty then (!(rp_TT i.1 i.2.1).2.2.2 && (match rp_ty i.1 i.2.1, i.2.2.1 with
    | .int, .null => true
    | .boolean, .int _ => true
    | _, _ => false))
  else ((rp_TT i.1 i.2.1).2.2.2 && (decide ((rp_mt j).1.name = "<init>") && (Nat.beq i.1 (rp_mt j).2.2.2.2.1 && (match rp_ty i.1 i.2.1, i.2.2.1 with
    | .int, .long _ => true
    | .object _, .ref _ => true
    | .array _, .ref _ => true
    | _, _ => false))))
def rp_okE (j : Nat) (e : rp_En) : Bool := match e with
  | (pc, I, n, i) => match I with
    | .iconst k => Nat.beq n 1 && decide (i.2.2.1 = .int (Int32.ofInt k))
    | .bipush k => Nat.beq n 2 && decide (i.2.2.1 = .int (Int8.ofInt k).toInt32)
    | .sipush k => Nat.beq n 3 && decide (i.2.2.1 = .int (Int16.ofInt k).toInt32)
    | .ldc x => Nat.beq n 2 && (match i.2.2.1 with
      | .int v => rp_kti.any fun q => Nat.beq q.1 (rp_mt j).2.2.2.2.1 && (Nat.beq q.2.1 x && decide (q.2.2.1 = v))
      | .ref a => Nat.beq (rp_mt j).2.2.2.2.1 1 && (Nat.ble 1000 a && (Nat.blt a 1012 && decide (rp_si[a - 1000]? = some x)))
      | _ => false)
    | .ldc2_w x => Nat.beq n 3 && (match i.2.2.1 with
      | .long v => rp_ktl.any fun q => Nat.beq q.1 (rp_mt j).2.2.2.2.1 && (Nat.beq q.2.1 x && decide (q.2.2.1 = v))
      | _ => false)
    | .iload_n k => Nat.beq n 1 && Nat.beq i.1 k.val
    | .lload_n k => Nat.beq n 1 && Nat.beq i.1 k.val
    | .aload_n k => Nat.beq n 1 && Nat.beq i.1 k.val
    | .istore_n k => Nat.beq n 1 && Nat.beq i.1 k.val
    | .astore_n k => Nat.beq n 1 && Nat.beq i.1 k.val
    | .iload k => Nat.beq n 2 && Nat.beq i.1 k
    | .aload k => Nat.beq n 2 && Nat.beq i.1 k
    | .istore k => Nat.beq n 2 && Nat.beq i.1 k
    | .iinc k c => Nat.beq n 3 && (Nat.beq i.1 k && decide (i.2.2.1 = .int (Int32.ofInt c)))
    | .iadd => Nat.beq n 1
    | .isub => Nat.beq n 1
    | .imul => Nat.beq n 1
    | .iand => Nat.beq n 1
    | .ior => Nat.beq n 1
    | .ishl => Nat.beq n 1
    | .ishr => Nat.beq n 1
    | .idiv => Nat.beq n 1
    | .irem => Nat.beq n 1
    | .i2l => Nat.beq n 1
    | .l2i => Nat.beq n 1
    | .land => Nat.beq n 1
    | .lor => Nat.beq n 1
    | .lshl => Nat.beq n 1
    | .lushr => Nat.beq n 1
    | .dup => Nat.beq n 1
    | .dup2 => Nat.beq n 1
    | .pop => Nat.beq n 1
    | .ifCond _ off => Nat.beq n 3 && decide ((pc : Int) + off = (i.1 : Int))
    | .if_icmp _ off => Nat.beq n 3 && decide ((pc : Int) + off = (i.1 : Int))
    | .goto off => Nat.beq n 3 && decide ((pc : Int) + off = (i.1 : Int))
    | .tableswitch d lo hi offs => decide ((pc : Int) + d = (i.1 : Int)) && (decide (lo + (offs.size : Int) = hi + 1) && rp_tso pc lo offs.toList i.2.2.2)
    | .lookupswitch d ps => decide ((pc : Int) + d = (i.1 : Int)) && ((ps.toList.zip (ps.toList.drop 1)).all (fun (a, next) => a.1 < next.1) && rp_lso pc ps.toList i.2.2.2)
    | .getfield x => Nat.beq n 3 && rp_has4 (rp_mt j).2.2.2.2.1 x i.1 i.2.1
    | .putfield x => Nat.beq n 3 && (rp_has4 (rp_mt j).2.2.2.2.1 x i.1 i.2.1 && rp_putok j i)
    | .iaload => Nat.beq n 1
    | .baload => Nat.beq n 1
    | .iastore => Nat.beq n 1
    | .bastore => Nat.beq n 1
    | .arraylength => Nat.beq n 1
    | .new x => Nat.beq n 3 && rp_hasN (rp_mt j).2.2.2.2.1 x i.1
    | .newarray _ => Nat.beq n 2
    | .ireturn => Nat.beq n 1
    | .areturn => Nat.beq n 1
    | .return_ => Nat.beq n 1
    | .invokevirtual x => Nat.beq n 3 && (bif Nat.ble 5000 i.1 then rp_hasC (rp_mt j).2.2.2.2.1 x i.1 (Nat.beq 5) && (Nat.ble 5003 i.1 && (rp_lok j 4 85 && Nat.beq i.2.1 (i.1 - 5002)))
      else (rp_hasC (rp_mt j).2.2.2.2.1 x i.1 (Nat.beq 0) && (rp_rok j i.1 && Nat.beq i.2.1 ((rp_mq.getD i.1 (0, 0, 0, 0)).2.2.2 + 1))))
    | .invokestatic x => Nat.beq n 3 && (bif Nat.ble 5000 i.1 then rp_hasC (rp_mt j).2.2.2.2.1 x i.1 (Nat.beq 5) && ((Nat.beq i.1 5001 || Nat.beq i.1 5002) && (rp_lok j 1 21 && Nat.beq i.2.1 2))
      else (rp_hasC (rp_mt j).2.2.2.2.1 x i.1 (fun k => Nat.beq k 1 || Nat.beq k 2) && (rp_rok j i.1 && Nat.beq i.2.1 (rp_mq.getD i.1 (0, 0, 0, 0)).2.2.2)))
    | .invokespecial x => Nat.beq n 3 && (bif Nat.ble 5000 i.1 then rp_hasC (rp_mt j).2.2.2.2.1 x i.1 (Nat.beq 5) && (Nat.beq i.1 5000 && (rp_lok j 1 20 && Nat.beq i.2.1 1))
      else (rp_hasC (rp_mt j).2.2.2.2.1 x i.1 (fun k => Nat.beq k 3 || Nat.beq k 4) && (rp_rok j i.1 && Nat.beq i.2.1 ((rp_mq.getD i.1 (0, 0, 0, 0)).2.2.2 + 1))))
    | _ => false
def rp_decE (j : Nat) (e : rp_En) : Bool := decide (decode (rp_mt j).2.1 e.1 = .ok (e.2.1, e.2.2.1))
def rp_okM (j : Nat) : Bool := (rp_mi j).all fun e => rp_okE j e && rp_decE j e
end
section
/-! THE SMALL MACHINE IS THE REAL ONE'S: cells, values, locals as the real machine has them -/
def rp_ph (b base : Nat) (adK : Nat → Nat) (i : Nat) : Nat := if i = 0 then b else if i < 1000 then base + (i - 1) else adK (i - 1000)
def rp_vm (φ : Nat → Nat) : Value → Value
  | .ref a => .ref (φ a)
  | v => v
theorem rp_vm_int (φ : Nat → Nat) (x : Int32) : rp_vm φ (.int x) = .int x := rfl
theorem rp_vm_cat (φ : Nat → Nat) (v : Value) : (rp_vm φ v).category = v.category := by cases v <;> rfl
def rp_fv (φ : Nat → Nat) (f : Nat → Int32) (fs : List (Option Value)) : List Value := fs.mapIdx fun k x => match x with
  | some v => rp_vm φ v
  | none => .int (f k)
def rp_tE (φ : Nat → Nat) (cI cZ : ClassId) (sh : rp_Sh) (f : Nat → Int32) : va_E := match sh with
  | .inl (z, n) => .inl ((bif z then cZ else cI), n, .inl f)
  | .inr (c, fs) => .inr (c, rp_fv φ f fs)
def rp_wd (base : Nat) (φ : Nat → Nat) (cI cZ : ClassId) (h : rp_Hp) : va_W := h.1.tail.mapIdx fun i sh => (base + i, rp_tE φ cI cZ sh (h.2 (i + 1)))
theorem rp_wd_get (base : Nat) (φ : Nat → Nat) (cI cZ : ClassId) (h : rp_Hp) (i : Nat) : (rp_wd base φ cI cZ h)[i]? = (h.1[i + 1]?).map fun sh => (base + i, rp_tE φ cI cZ sh (h.2 (i + 1))) := by
  simp [rp_wd, List.getElem?_mapIdx, List.getElem?_tail]
theorem rp_wd_at {base : Nat} {φ : Nat → Nat} {cI cZ : ClassId} {h : rp_Hp} {i : Nat} {sh : rp_Sh} (hs : h.1[i + 1]? = some sh) : (rp_wd base φ cI cZ h)[i]? = some (base + i, rp_tE φ cI cZ sh (h.2 (i + 1))) := by
  rw [rp_wd_get, hs]; rfl
theorem rp_wd_D (base : Nat) (φ : Nat → Nat) (cI cZ : ClassId) (h : rp_Hp) : va_D (fun q => base ≤ q) (rp_wd base φ cI cZ h) := by
  refine ⟨fun i j p q hi hj e => ?_, fun k q hk => ?_⟩
  · rw [rp_wd_get] at hi hj
    simp only [Option.map_eq_some_iff] at hi hj
    obtain ⟨_, _, rfl⟩ := hi
    obtain ⟨_, _, rfl⟩ := hj
    have e : base + i = base + j := e
    omega
  · rw [rp_wd_get] at hk
    simp only [Option.map_eq_some_iff] at hk
    obtain ⟨_, _, rfl⟩ := hk
    exact Nat.le_add_right _ _
def rp_HR (D : va_G) (base : Nat) (φ : Nat → Nat) (cI cZ : ClassId) (h : rp_Hp) (H : Heap) : Prop :=
  h.1[0]? = some (.inr (99, [])) ∧ h.1.length ≤ 1000 ∧ H.size = base + (h.1.length - 1) ∧ va_P D rp_cls (rp_wd base φ cI cZ h) H
/-- the locals -/
def rp_RL (φ : Nat → Nat) (n : Nat) (ls : List Value) (lsr : Array Slot) : Prop := lsr.size = n ∧ lv_wf lsr ∧ ls.length = n ∧ ∀ (i : Nat) (v : Value), ls[i]? = some v → v ≠ rp_U → lsr[i]? = some (.val (rp_vm φ v))
theorem rp_RL.at {φ : Nat → Nat} {n : Nat} {ls : List Value} {lsr : Array Slot} (h : rp_RL φ n ls lsr) {i : Nat} {v : Value} (hi : ls[i]? = some v) (hv : v ≠ rp_U) : lsr[i]? = some (.val (rp_vm φ v)) := h.2.2.2 i v hi hv
/-- all that is held, as a list -/
def rp_lp_all (φ : Nat → Nat) (ls : List Value) : List (Nat × Value) := (List.range ls.length).filterMap fun i => match ls[i]? with
  | some v => if v = rp_U then none else some (i, rp_vm φ v)
  | none => none
theorem rp_lp_mem {φ : Nat → Nat} {ls : List Value} {q : Nat × Value} : q ∈ rp_lp_all φ ls ↔ ∃ v, ls[q.1]? = some v ∧ v ≠ rp_U ∧ q.2 = rp_vm φ v := by
  unfold rp_lp_all
  rw [List.mem_filterMap]
  constructor
  · rintro ⟨i, hi, he⟩
    cases hv : ls[i]? with
    | none => rw [hv] at he; cases he
    | some v =>
      rw [hv] at he
      dsimp only at he
      split at he
      next => cases he
      next hu => cases he; exact ⟨v, hv, hu, rfl⟩
  · rintro ⟨v, hv, hu, he⟩
    refine ⟨q.1, List.mem_range.mpr (List.getElem?_eq_some_iff.mp hv).1, ?_⟩
    rw [hv]
    dsimp only
    rw [if_neg hu, ← he]
theorem rp_RL.has {φ : Nat → Nat} {n : Nat} {ls : List Value} {lsr : Array Slot} (h : rp_RL φ n ls lsr) : lv_has lsr n (rp_lp_all φ ls) := by
  refine ⟨h.1, h.2.1, fun q hq => ?_⟩
  obtain ⟨v, hv, hu, he⟩ := rp_lp_mem.mp hq
  rw [he]
  exact h.at hv hu
/-- behind a store of one word -/
theorem rp_RL.set {φ : Nat → Nat} {n : Nat} {ls : List Value} {lsr' : Array Slot} {i : Nat} {v : Value} (hn : ls.length = n) (hm : rp_may ls i = true) (h : lv_has lsr' n ((i, rp_vm φ v) :: (rp_lp_all φ ls).filter (fun q => !(q.1 == i) && !(q.1 + 1 == i && q.2.category == 2)))) : rp_RL φ n (ls.set i v) lsr' := by
  refine ⟨h.1, h.2.1, by simpa using hn, fun j w hj hu => ?_⟩
  by_cases hji : j = i
  · subst hji
    have hlt : j < ls.length := by
      unfold rp_may at hm
      simp only [Bool.and_eq_true] at hm
      exact Nat.le_of_ble_eq_true hm.1
    rw [List.getElem?_set_self hlt] at hj
    cases hj
    exact h.2.2 _ List.mem_cons_self
  · rw [List.getElem?_set_ne (Ne.symm hji)] at hj
    refine h.2.2 (j, rp_vm φ w) (List.mem_cons_of_mem _ (List.mem_filter.mpr ⟨rp_lp_mem.mpr ⟨w, hj, hu, rfl⟩, ?_⟩))
    simp only [Bool.and_eq_true, Bool.not_eq_true', beq_eq_false_iff_ne, ne_eq]
    refine ⟨hji, ?_⟩
    cases hq : (j + 1 == i) with
    | false => rfl
    | true =>
      have e : j + 1 = i := by simpa using hq
      subst e
      simp only [Bool.true_and, rp_vm_cat]
      unfold rp_may at hm
      simp only [Bool.and_eq_true, Bool.not_eq_true'] at hm
      rw [hj] at hm
      cases w with
      | long x => exact absurd hm.2 (by simp [rp_long])
      | double x => exact absurd hm.2 (by simp [rp_long])
      | _ => rfl
theorem rp_tso_out {pc d : Nat} {x : Int32} : ∀ {offs : List Int} {lo : Int} {l : List (Int32 × Nat)}, rp_tso pc lo offs l = true → (x.toInt < lo ∨ lo + (offs.length : Int) ≤ x.toInt) → rp_sw x d l = d := by
  intro offs
  induction offs with
  | nil =>
    intro lo l h _
    cases l with
    | nil => rfl
    | cons q l => exact absurd h (by simp [rp_tso])
  | cons o offs ih =>
    intro lo l h hx
    cases l with
    | nil => exact absurd h (by simp [rp_tso])
    | cons q l =>
      simp only [rp_tso, Bool.and_eq_true, decide_eq_true_eq] at h
      obtain ⟨h1, h2, h3⟩ := h
      have hne : ¬ x = q.1 := by
        intro e
        rw [e, h1] at hx
        simp only [List.length_cons] at hx
        omega
      show (if x = q.1 then q.2 else rp_sw x d l) = d
      rw [if_neg hne]
      refine ih h3 ?_
      simp only [List.length_cons] at hx
      have hne2 : x.toInt ≠ lo := fun e => hne (Int32.toInt_inj.mp (by rw [h1]; exact e))
      omega
theorem rp_tso_in {pc d : Nat} {x : Int32} : ∀ {offs : List Int} {lo : Int} {l : List (Int32 × Nat)}, rp_tso pc lo offs l = true → lo ≤ x.toInt → x.toInt < lo + (offs.length : Int) → ∃ off, offs[(x.toInt - lo).toNat]? = some off ∧ (pc : Int) + off = (rp_sw x d l : Int) := by
  intro offs
  induction offs with
  | nil => intro lo l h h1 h2; simp at h2; omega
  | cons o offs ih =>
    intro lo l h hx1 hx2
    cases l with
    | nil => exact absurd h (by simp [rp_tso])
    | cons q l =>
      simp only [rp_tso, Bool.and_eq_true, decide_eq_true_eq] at h
      obtain ⟨h1, h2, h3⟩ := h
      by_cases e : x = q.1
      · refine ⟨o, ?_, ?_⟩
        · have : x.toInt - lo = 0 := by rw [e, h1]; omega
          rw [this]; rfl
        · show (pc : Int) + o = ((if x = q.1 then q.2 else rp_sw x d l : Nat) : Int)
          rw [if_pos e]; exact h2
      · have hne2 : x.toInt ≠ lo := fun e2 => e (Int32.toInt_inj.mp (by rw [h1]; exact e2))
        obtain ⟨off, g1, g2⟩ := ih h3 (by omega) (by simp only [List.length_cons] at hx2; omega)
        refine ⟨off, ?_, ?_⟩
        · have : (x.toInt - lo).toNat = (x.toInt - (lo + 1)).toNat + 1 := by omega
          rw [this, List.getElem?_cons_succ]; exact g1
        · show (pc : Int) + off = ((if x = q.1 then q.2 else rp_sw x d l : Nat) : Int)
          rw [if_neg e]; exact g2
theorem rp_lso_off {pc d : Nat} {dflt : Int} {x : Int32} (hd : (pc : Int) + dflt = (d : Int)) : ∀ {ps : List (Int × Int)} {l : List (Int32 × Nat)}, rp_lso pc ps l = true → (pc : Int) + Op.lookupswitch.offset ps dflt x.toInt = (rp_sw x d l : Int) := by
  intro ps
  induction ps with
  | nil =>
    intro l h
    cases l with
    | nil => exact hd
    | cons q l => exact absurd h (by simp [rp_lso])
  | cons o ps ih =>
    intro l h
    cases l with
    | nil => exact absurd h (by simp [rp_lso])
    | cons q l =>
      simp only [rp_lso, Bool.and_eq_true, decide_eq_true_eq] at h
      obtain ⟨h1, h2, h3⟩ := h
      obtain ⟨o1, o2⟩ := o
      rw [Op.lookupswitch.offset_cons]
      show _ = ((if x = q.1 then q.2 else rp_sw x d l : Nat) : Int)
      by_cases e : x = q.1
      · rw [if_pos e, if_pos (by rw [e]; exact h1.symm)]; exact h2
      · rw [if_neg e, if_neg (fun e2 => e (Int32.toInt_inj.mp (by rw [h1]; exact e2.symm)))]; exact ih h3
section
variable {p : Program} {l : Launch} {e : Env} {R : Room} {s : State} {m : MethodId} {args : Array Value} {below : List Frame} {meth : Method} {c : Code} {H : Heap} {locs : List Loc} {cells slots : Nat} {Q : State → Prop}
variable {φ : Nat → Nat} {j : Nat}
set_option maxHeartbeats 4000000 in
theorem rp_simP (hx : p.tables.exec = Jvm.exec) (hb : c.code = (rp_mt j).2.1) (hown : s.vm.findClass (rp_cn (rp_mt j).2.2.2.2.1) = some m.cls) (hts : ∀ w ∈ rp_gt, w.before args s = true) (hstr : ∀ k x, k < 12 → rp_si[k]? = some x → ∃ t, vk_R RX1 x t (φ (1000 + k)) s)
    {pc n q N : Nat} {I : Instr} {i : rp_In} {ls st ls' st' : List Value} {lsr : Array Slot} (hok : rp_okE j (pc, I, n, i) = true) (hd : decode (rp_mt j).2.1 pc = .ok (I, n)) (hp : rp_pure I n i pc ls st = some (q, ls', st')) (hL : rp_RL φ N ls lsr)
    (K : ∀ lsr', rp_RL φ N ls' lsr' → W p l e R s m args below meth c H locs cells slots Q (F0 m q lsr' (st'.map (rp_vm φ)))) : W p l e R s m args below meth c H locs cells slots Q (F0 m pc lsr (st.map (rp_vm φ))) := by
  have nU : ∀ {v : Value}, (∀ k, v ≠ .retAddr k) → v ≠ rp_U := fun h => h 0
  unfold rp_pure at hp
  split at hp
  next k =>
    simp only [rp_okE, Bool.and_eq_true, decide_eq_true_eq, Nat.beq_eq] at hok
    obtain ⟨rfl, hv⟩ := hok
    cases hp
    refine lv_iconst (v := Int32.ofInt k) hx hb hd rfl ?_
    simpa [hv, rp_vm] using K lsr hL
  next k =>
    simp only [rp_okE, Bool.and_eq_true, decide_eq_true_eq, Nat.beq_eq] at hok
    obtain ⟨rfl, hv⟩ := hok
    cases hp
    refine lv_bipush (v := (Int8.ofInt k).toInt32) hx hb hd rfl ?_
    simpa [hv, rp_vm] using K lsr hL
  next k =>
    simp only [rp_okE, Bool.and_eq_true, decide_eq_true_eq, Nat.beq_eq] at hok
    obtain ⟨rfl, hv⟩ := hok
    cases hp
    refine lv_sipush (v := (Int16.ofInt k).toInt32) hx hb hd rfl ?_
    simpa [hv, rp_vm] using K lsr hL
  next x =>
    simp only [rp_okE, Bool.and_eq_true, Nat.beq_eq] at hok
    obtain ⟨rfl, hv⟩ := hok
    cases hp
    split at hv
    next v hv1 =>
      obtain ⟨z, hz, hz2⟩ := List.any_eq_true.mp hv
      simp only [Bool.and_eq_true, Nat.beq_eq, decide_eq_true_eq] at hz2
      have hw := rp_gt_of _ (rp_kti_ok z hz) rfl
      rw [hz2.1, hz2.2.1, hz2.2.2] at hw
      refine lv_ldc hx hb hown (hts _ hw) hd ?_
      simpa [hv1, rp_vm] using K lsr hL
    next a hv1 =>
      simp only [Bool.and_eq_true, Nat.beq_eq, decide_eq_true_eq] at hv
      obtain ⟨h1, h2, h3, h4⟩ := hv
      have h2 := Nat.le_of_ble_eq_true h2
      have h3 : a < 1012 := Nat.le_of_ble_eq_true h3
      obtain ⟨k, rfl⟩ : ∃ k : Nat, a = 1000 + k := Nat.exists_eq_add_of_le h2
      have h3 : 1000 + k < 1012 := h3
      have h4 : rp_si[1000 + k - 1000]? = some x := h4
      rw [show 1000 + k - 1000 = k by omega] at h4
      obtain ⟨t, ht⟩ := hstr k x (by omega) h4
      rw [h1] at hown
      refine va_ldcS hx hb hown ht hd ?_
      simpa [hv1, rp_vm] using K lsr hL
    next => cases hv
  next x =>
    simp only [rp_okE, Bool.and_eq_true, Nat.beq_eq] at hok
    obtain ⟨rfl, hv⟩ := hok
    cases hp
    split at hv
    next v hv1 =>
      obtain ⟨z, hz, hz2⟩ := List.any_eq_true.mp hv
      simp only [Bool.and_eq_true, Nat.beq_eq, decide_eq_true_eq] at hz2
      have hw := rp_gt_of _ (rp_ktl_ok z hz) rfl
      rw [hz2.1, hz2.2.1, hz2.2.2] at hw
      refine lv_ldc2 hx hb hown (hts _ hw) hd ?_
      simpa [hv1, rp_vm] using K lsr hL
    next => cases hv
  next k =>
    simp only [rp_okE, Bool.and_eq_true, Nat.beq_eq] at hok
    obtain ⟨rfl, hv⟩ := hok
    split at hp
    next x hx1 =>
      cases hp
      exact lv_iload_n hx hb hd hv.symm (hL.at hx1 (nU fun _ => by simp)) (K lsr hL)
    next => cases hp
  next k =>
    simp only [rp_okE, Bool.and_eq_true, Nat.beq_eq] at hok
    obtain ⟨rfl, hv⟩ := hok
    split at hp
    next x hx1 =>
      cases hp
      rw [hv] at hx1
      exact lv_iload hx hb hd (hL.at hx1 (nU fun _ => by simp)) (K lsr hL)
    next => cases hp
  next k =>
    simp only [rp_okE, Bool.and_eq_true, Nat.beq_eq] at hok
    obtain ⟨rfl, hv⟩ := hok
    split at hp
    next x hx1 =>
      cases hp
      exact lv_lload_n hx hb hd hv.symm (hL.at hx1 (nU fun _ => by simp)) (K lsr hL)
    next => cases hp
  next k =>
    simp only [rp_okE, Bool.and_eq_true, Nat.beq_eq] at hok
    obtain ⟨rfl, hv⟩ := hok
    split at hp
    next x hx1 =>
      cases hp
      exact lv_aload_n hx hb hd hv.symm (hL.at hx1 (nU fun _ => by simp)) (K lsr hL)
    next => cases hp
  next k =>
    simp only [rp_okE, Bool.and_eq_true, Nat.beq_eq] at hok
    obtain ⟨rfl, hv⟩ := hok
    split at hp
    next x hx1 =>
      cases hp
      rw [hv] at hx1
      exact lv_aload hx hb hd (hL.at hx1 (nU fun _ => by simp)) (K lsr hL)
    next => cases hp
  next k =>
    simp only [rp_okE, Bool.and_eq_true, Nat.beq_eq] at hok
    obtain ⟨rfl, hv⟩ := hok
    split at hp
    next x r =>
      cases hm : rp_may ls i.1 with
      | false => rw [hm] at hp; cases hp
      | true =>
        rw [hm] at hp
        cases hp
        have hlt : i.1 < N := by
          rw [← hL.2.2.1]
          unfold rp_may at hm
          simp only [Bool.and_eq_true] at hm
          exact Nat.le_of_ble_eq_true hm.1
        exact lv_istore_n hx hb hd hv.symm hL.has hlt rfl (fun ls2 h2 => K ls2 (rp_RL.set (v := .int x) hL.2.2.1 hm h2))
    next => cases hp
  next k =>
    simp only [rp_okE, Bool.and_eq_true, Nat.beq_eq] at hok
    obtain ⟨rfl, hv⟩ := hok
    split at hp
    next x r =>
      cases hm : rp_may ls i.1 with
      | false => rw [hm] at hp; cases hp
      | true =>
        rw [hm] at hp
        cases hp
        have hlt : i.1 < N := by
          rw [← hL.2.2.1]
          unfold rp_may at hm
          simp only [Bool.and_eq_true] at hm
          exact Nat.le_of_ble_eq_true hm.1
        rw [← hv] at hd
        exact lv_istore hx hb hd hL.has hlt rfl (fun ls2 h2 => K ls2 (rp_RL.set (v := .int x) hL.2.2.1 hm h2))
    next => cases hp
  next k =>
    simp only [rp_okE, Bool.and_eq_true, Nat.beq_eq] at hok
    obtain ⟨rfl, hv⟩ := hok
    split at hp
    next x r =>
      cases hm : rp_may ls i.1 with
      | false => rw [hm] at hp; cases hp
      | true =>
        rw [hm] at hp
        cases hp
        have hlt : i.1 < N := by
          rw [← hL.2.2.1]
          unfold rp_may at hm
          simp only [Bool.and_eq_true] at hm
          exact Nat.le_of_ble_eq_true hm.1
        exact lv_astore_n hx hb hd hv.symm hL.has hlt rfl (fun ls2 h2 => K ls2 (rp_RL.set (v := .ref x) hL.2.2.1 hm h2))
    next => cases hp
  next k cst =>
    simp only [rp_okE, Bool.and_eq_true, Nat.beq_eq, decide_eq_true_eq] at hok
    obtain ⟨rfl, hv, hv2⟩ := hok
    split at hp
    next x k2 hx1 hk2 =>
      cases hm : rp_may ls i.1 with
      | false => rw [hm] at hp; cases hp
      | true =>
        rw [hm] at hp
        cases hp
        have hlt : i.1 < N := by
          rw [← hL.2.2.1]
          unfold rp_may at hm
          simp only [Bool.and_eq_true] at hm
          exact Nat.le_of_ble_eq_true hm.1
        rw [hk2] at hv2
        cases hv2
        rw [← hv] at hd
        obtain ⟨kk, hkk⟩ := List.getElem?_of_mem (rp_lp_mem (φ := φ) (q := (i.1, .int x)).mpr ⟨.int x, hx1, nU fun _ => by simp, rfl⟩)
        exact lv_iinc (k := kk) (v := x + Int32.ofInt cst) hx hb hd hL.has hkk rfl hlt rfl (fun ls2 h2 => K ls2 (rp_RL.set (v := .int (x + Int32.ofInt cst)) hL.2.2.1 hm h2))
    next => cases hp
  next =>
    simp only [rp_okE, Nat.beq_eq] at hok
    subst hok
    split at hp
    next => cases hp; exact lv_iadd hx hb hd (K lsr hL)
    next => cases hp
  next =>
    simp only [rp_okE, Nat.beq_eq] at hok
    subst hok
    split at hp
    next => cases hp; exact lv_isub hx hb hd (K lsr hL)
    next => cases hp
  next =>
    simp only [rp_okE, Nat.beq_eq] at hok
    subst hok
    split at hp
    next => cases hp; exact lv_imul hx hb hd (K lsr hL)
    next => cases hp
  next =>
    simp only [rp_okE, Nat.beq_eq] at hok
    subst hok
    split at hp
    next => cases hp; exact lv_iand hx hb hd (K lsr hL)
    next => cases hp
  next =>
    simp only [rp_okE, Nat.beq_eq] at hok
    subst hok
    split at hp
    next => cases hp; exact lv_ior hx hb hd (K lsr hL)
    next => cases hp
  next =>
    simp only [rp_okE, Nat.beq_eq] at hok
    subst hok
    split at hp
    next => cases hp; exact lv_ishl hx hb hd (K lsr hL)
    next => cases hp
  next =>
    simp only [rp_okE, Nat.beq_eq] at hok
    subst hok
    split at hp
    next => cases hp; exact lv_ishr hx hb hd (K lsr hL)
    next => cases hp
  next =>
    simp only [rp_okE, Nat.beq_eq] at hok
    subst hok
    split at hp
    next =>
      split at hp
      next => cases hp
      next hy => cases hp; exact lv_idiv hx hb hd hy (K lsr hL)
    next => cases hp
  next =>
    simp only [rp_okE, Nat.beq_eq] at hok
    subst hok
    split at hp
    next =>
      split at hp
      next => cases hp
      next hy => cases hp; exact lv_irem hx hb hd hy (K lsr hL)
    next => cases hp
  next =>
    simp only [rp_okE, Nat.beq_eq] at hok
    subst hok
    split at hp
    next => cases hp; exact lv_i2l hx hb hd rfl (K lsr hL)
    next => cases hp
  next =>
    simp only [rp_okE, Nat.beq_eq] at hok
    subst hok
    split at hp
    next => cases hp; exact lv_l2i hx hb hd rfl (K lsr hL)
    next => cases hp
  next =>
    simp only [rp_okE, Nat.beq_eq] at hok
    subst hok
    split at hp
    next => cases hp; exact lv_land hx hb hd (K lsr hL)
    next => cases hp
  next =>
    simp only [rp_okE, Nat.beq_eq] at hok
    subst hok
    split at hp
    next => cases hp; exact lv_lor hx hb hd (K lsr hL)
    next => cases hp
  next =>
    simp only [rp_okE, Nat.beq_eq] at hok
    subst hok
    split at hp
    next => cases hp; exact lv_lshl hx hb hd rfl (K lsr hL)
    next => cases hp
  next =>
    simp only [rp_okE, Nat.beq_eq] at hok
    subst hok
    split at hp
    next => cases hp; exact lv_lushr hx hb hd rfl (K lsr hL)
    next => cases hp
  next =>
    simp only [rp_okE, Nat.beq_eq] at hok
    subst hok
    split at hp
    next v r =>
      cases hm : Nat.beq v.category 1 with
      | false => rw [hm] at hp; cases hp
      | true =>
        rw [hm] at hp
        cases hp
        exact lv_dup hx hb hd (by rw [rp_vm_cat]; exact Nat.eq_of_beq_eq_true hm) (K lsr hL)
    next => cases hp
  next =>
    simp only [rp_okE, Nat.beq_eq] at hok
    subst hok
    split at hp
    next v w r =>
      cases hm : (Nat.beq v.category 1 && Nat.beq w.category 1) with
      | false => rw [hm] at hp; cases hp
      | true =>
        rw [hm] at hp
        cases hp
        simp only [Bool.and_eq_true] at hm
        exact lv_dup2_11 hx hb hd (by rw [rp_vm_cat]; exact Nat.eq_of_beq_eq_true hm.1) (by rw [rp_vm_cat]; exact Nat.eq_of_beq_eq_true hm.2) (K lsr hL)
    next => cases hp
  next =>
    simp only [rp_okE, Nat.beq_eq] at hok
    subst hok
    split at hp
    next v r =>
      cases hm : Nat.beq v.category 1 with
      | false => rw [hm] at hp; cases hp
      | true =>
        rw [hm] at hp
        cases hp
        exact lv_pop hx hb hd (by rw [rp_vm_cat]; exact Nat.eq_of_beq_eq_true hm) (K lsr hL)
    next => cases hp
  next cd off =>
    simp only [rp_okE, Bool.and_eq_true, Nat.beq_eq, decide_eq_true_eq] at hok
    obtain ⟨rfl, ht⟩ := hok
    split at hp
    next x r =>
      cases hp
      have k1 := K lsr hL
      cases cd with
      | eq => exact lv_if_eq hx hb hd ht (fun h => by simpa [rp_cond, h] using k1) (fun h => by simpa [rp_cond, h] using k1)
      | ne => exact lv_if_ne hx hb hd ht (fun h => by simpa [rp_cond, h] using k1) (fun h => by simpa [rp_cond, h] using k1)
      | lt => exact lv_if_lt hx hb hd ht (fun h => by rw [rp_cond, if_pos h] at k1; exact k1) (fun h => by rw [rp_cond, if_neg h] at k1; exact k1)
      | ge => exact lv_if_ge hx hb hd ht (fun h => by rw [rp_cond, if_pos h] at k1; exact k1) (fun h => by rw [rp_cond, if_neg h] at k1; exact k1)
      | gt => exact lv_if_gt hx hb hd ht (fun h => by rw [rp_cond, if_pos h] at k1; exact k1) (fun h => by rw [rp_cond, if_neg h] at k1; exact k1)
      | le => exact lv_if_le hx hb hd ht (fun h => by rw [rp_cond, if_pos h] at k1; exact k1) (fun h => by rw [rp_cond, if_neg h] at k1; exact k1)
    next => cases hp
  next cd off =>
    simp only [rp_okE, Bool.and_eq_true, Nat.beq_eq, decide_eq_true_eq] at hok
    obtain ⟨rfl, ht⟩ := hok
    split at hp
    next y x r =>
      cases hp
      have k1 := K lsr hL
      cases cd with
      | eq => exact lv_icmp_eq hx hb hd ht (fun h => by rw [rp_cond, if_pos h] at k1; exact k1) (fun h => by rw [rp_cond, if_neg h] at k1; exact k1)
      | ne => exact lv_icmp_ne hx hb hd ht (fun h => by rw [rp_cond, if_neg h] at k1; exact k1) (fun h => by rw [rp_cond, if_pos h] at k1; exact k1)
      | lt => exact lv_icmp_lt hx hb hd ht (fun h => by rw [rp_cond, if_pos h] at k1; exact k1) (fun h => by rw [rp_cond, if_neg h] at k1; exact k1)
      | ge => exact lv_icmp_ge hx hb hd ht (fun h => by rw [rp_cond, if_pos h] at k1; exact k1) (fun h => by rw [rp_cond, if_neg h] at k1; exact k1)
      | gt => exact lv_icmp_gt hx hb hd ht (fun h => by rw [rp_cond, if_pos h] at k1; exact k1) (fun h => by rw [rp_cond, if_neg h] at k1; exact k1)
      | le => exact lv_icmp_le hx hb hd ht (fun h => by rw [rp_cond, if_pos h] at k1; exact k1) (fun h => by rw [rp_cond, if_neg h] at k1; exact k1)
    next => cases hp
  next off =>
    simp only [rp_okE, Bool.and_eq_true, Nat.beq_eq, decide_eq_true_eq] at hok
    obtain ⟨rfl, ht⟩ := hok
    cases hp
    exact lv_goto hx hb hd ht (K lsr hL)
  next dflt lo hi offs =>
    simp only [rp_okE, Bool.and_eq_true, decide_eq_true_eq] at hok
    obtain ⟨ht, hsz, hts2⟩ := hok
    split at hp
    next x r =>
      cases hp
      have k1 := K lsr hL
      have hsz2 : (offs.toList.length : Int) = hi + 1 - lo := by rw [Array.length_toList]; omega
      by_cases ho : x.toInt < lo ∨ hi < x.toInt
      · rw [rp_tso_out hts2 (by omega)] at k1
        exact lv_tableOut hx hb hd ho ht k1
      · obtain ⟨off, g1, g2⟩ := rp_tso_in (d := i.1) (x := x) hts2 (by omega) (by omega)
        exact lv_tableIn hx hb hd (by omega) (by omega) (by rw [← Array.getElem?_toList]; exact g1) g2 k1
    next => cases hp
  next dflt ps =>
    simp only [rp_okE, Bool.and_eq_true, decide_eq_true_eq] at hok
    obtain ⟨ht, hso, hts2⟩ := hok
    split at hp
    next x r =>
      cases hp
      exact lv_lookup hx hb hd hso rfl (rp_lso_off ht hts2) (K lsr hL)
    next => cases hp
  next => cases hp
end
end
section
theorem rp_and1 {x : Int32} (h : x &&& 1 = x) : x = 0 ∨ x = 1 := by
  obtain ⟨j, hj, e⟩ := pk_andE x (m := 1) 1 (by decide)
  rw [h] at e
  have : j = 0 ∨ j = 1 := by omega
  rcases this with rfl | rfl
  · exact Or.inl e
  · exact Or.inr e
theorem rp_ix_in {x : Int32} {n : Nat} (h : rp_ix x n = true) : vp_in x n := by
  unfold rp_ix at h
  simp only [Bool.and_eq_true, decide_eq_true_eq] at h
  exact vp_in_iff.mpr h
theorem rp_fv_get (φ : Nat → Nat) (f : Nat → Int32) (fs : List (Option Value)) (k : Nat) : (rp_fv φ f fs)[k]? = (fs[k]?).map fun x => match x with
  | some v => rp_vm φ v
  | none => .int (f k) := by
  simp only [rp_fv, List.getElem?_mapIdx]
  cases fs[k]? with
  | none => rfl
  | some x => cases x <;> rfl
theorem rp_fv_len (φ : Nat → Nat) (f : Nat → Int32) (fs : List (Option Value)) : (rp_fv φ f fs).length = fs.length := by simp [rp_fv]
theorem rp_wd_setF {base : Nat} {φ : Nat → Nat} {cI cZ : ClassId} {L : List rp_Sh} {σ : rp_Mm} {a c k : Nat} {fs : List (Option Value)} {v : Value} (hs : L[a + 1]? = some (.inr (c, fs))) (hk : k < fs.length) :
    rp_wd base φ cI cZ (L.set (a + 1) (.inr (c, fs.set k (some v))), σ) = (rp_wd base φ cI cZ (L, σ)).set a (base + a, .inr (c, (rp_fv φ (σ (a + 1)) fs).set k (rp_vm φ v))) := by
  apply List.ext_getElem?
  intro i
  have hlt : a + 1 < L.length := (List.getElem?_eq_some_iff.mp hs).1
  have hlw : (rp_wd base φ cI cZ (L, σ)).length = L.length - 1 := by simp [rp_wd]
  rw [rp_wd_get, List.getElem?_set, List.getElem?_set, rp_wd_get]
  by_cases h : a = i
  · subst h
    simp only [if_true, hlt, hlw, show a < L.length - 1 by omega, Option.map_some]
    congr 2
    show Sum.inr (c, rp_fv φ (σ (a + 1)) (fs.set k (some v))) = _
    congr 2
    apply List.ext_getElem?
    intro q
    rw [rp_fv_get, List.getElem?_set, List.getElem?_set, rp_fv_get, rp_fv_len]
    by_cases hq : k = q
    · subst hq; simp [hk]
    · simp [hq]
  · simp only [if_neg h, if_neg (show ¬ a + 1 = i + 1 by omega)]
theorem rp_wr_ne {σ : rp_Mm} {a b k : Nat} {x : Int32} (h : b ≠ a) : rp_wr σ a k x b = σ b := by
  funext j
  simp [rp_wr, h]
theorem rp_wr_eq {σ : rp_Mm} {a k : Nat} {x : Int32} : rp_wr σ a k x a = upd (σ a) k x := by
  funext j
  simp [rp_wr, upd]
theorem rp_wd_setM {base : Nat} {φ : Nat → Nat} {cI cZ : ClassId} {L : List rp_Sh} {σ : rp_Mm} {a c k : Nat} {fs : List (Option Value)} {x : Int32} (hs : L[a + 1]? = some (.inr (c, fs))) (hk : fs[k]? = some none) :
    rp_wd base φ cI cZ (L, rp_wr σ (a + 1) k x) = (rp_wd base φ cI cZ (L, σ)).set a (base + a, .inr (c, (rp_fv φ (σ (a + 1)) fs).set k (.int x))) := by
  apply List.ext_getElem?
  intro i
  have hlt : a + 1 < L.length := (List.getElem?_eq_some_iff.mp hs).1
  have hkl : k < fs.length := (List.getElem?_eq_some_iff.mp hk).1
  have hlw : (rp_wd base φ cI cZ (L, σ)).length = L.length - 1 := by simp [rp_wd]
  rw [rp_wd_get, List.getElem?_set, rp_wd_get]
  by_cases h : a = i
  · subst h
    simp only [if_true, hlw, show a < L.length - 1 by omega, hs, Option.map_some]
    congr 2
    show Sum.inr (c, rp_fv φ (rp_wr σ (a + 1) k x (a + 1)) fs) = _
    congr 2
    rw [rp_wr_eq]
    apply List.ext_getElem?
    intro q
    rw [rp_fv_get, List.getElem?_set, rp_fv_get, rp_fv_len]
    by_cases hq : k = q
    · subst hq; rw [if_pos rfl, if_pos hkl, hk]; simp [upd]
    · simp only [if_neg hq]
      cases fs[q]? with
      | none => rfl
      | some y => cases y with
        | some v => rfl
        | none => simp [upd, Ne.symm hq]
  · simp only [if_neg h]
    rw [rp_wr_ne (by omega)]
theorem rp_wd_setA {base : Nat} {φ : Nat → Nat} {cI cZ : ClassId} {L : List rp_Sh} {σ : rp_Mm} {a n k : Nat} {z : Bool} {x : Int32} (hs : L[a + 1]? = some (.inl (z, n))) :
    rp_wd base φ cI cZ (L, rp_wr σ (a + 1) k x) = (rp_wd base φ cI cZ (L, σ)).set a (base + a, .inl ((bif z then cZ else cI), n, .inl (upd (σ (a + 1)) k x))) := by
  apply List.ext_getElem?
  intro i
  have hlt : a + 1 < L.length := (List.getElem?_eq_some_iff.mp hs).1
  have hlw : (rp_wd base φ cI cZ (L, σ)).length = L.length - 1 := by simp [rp_wd]
  rw [rp_wd_get, List.getElem?_set, rp_wd_get]
  by_cases h : a = i
  · subst h
    simp only [if_true, hlw, show a < L.length - 1 by omega, hs, Option.map_some]
    congr 2
    show Sum.inl ((bif z then cZ else cI), n, Sum.inl (rp_wr σ (a + 1) k x (a + 1))) = _
    rw [rp_wr_eq]
  · simp only [if_neg h]
    rw [rp_wr_ne (by omega)]
theorem rp_ph_in {b base : Nat} {adK : Nat → Nat} {a : Nat} (h : a + 1 < 1000) : rp_ph b base adK (a + 1) = base + a := by
  simp [rp_ph, h]
theorem rp_ph_0 {b base : Nat} {adK : Nat → Nat} : rp_ph b base adK 0 = b := rfl
section
variable {p : Program} {l : Launch} {e : Env} {R : Room} {s : State} {m : MethodId} {args : Array Value} {below : List Frame} {meth : Method} {c : Code} {H : Heap} {locs : List Loc} {cells slots : Nat} {Q : State → Prop}
variable {cc : ByteArray} {pc : Nat} {ls : Array Slot} {rest : List Value} {D : va_G} {A : Nat → Prop} {a : Nat} {tys : List (ClassId × FieldType)} {ws : va_W} {H0 : Heap}
/-- a field is written; the heap is as large as before -/
theorem rp_put (hx : p.tables.exec = Jvm.exec) (hb : c.code = cc) (hts : ∀ w ∈ rp_gt, w.before args s = true) {own : String} {ci index k q0 : Nat} {fs : List Value} (hC : rp_CF ci) (hown : s.vm.findClass own = some m.cls) (hK : va_K D rp_cls tys s) (hP : va_P D rp_cls ws H) (hD : va_D A ws) (hS0 : va_S A H0 H locs) (he : ws[q0]? = some (a, .inr (ci, fs))) (hk : k < rp_NN ci) (hlink : Cond.fieldLink own index (rp_cn ci) (rp_TT ci k).2.1 (rp_TT ci k).2.2.1 ∈ rp_gt)
    (hfin : (rp_TT ci k).2.2.2 = false ∨ ((rp_TT ci k).2.2.2 = true ∧ meth.name = "<init>" ∧ rp_cn ci = own)) {v : Value} (hn : narrow (rp_ty ci k) v = v) (hfit : fits (rp_ty ci k) v = true) (hl : k < fs.length) (hdg : decode cc pc = .ok (.putfield index, 3))
    (kk : ∀ (H1 : Heap) (locs1 : List Loc), H1.size = H.size → va_P D rp_cls (ws.set q0 (a, .inr (ci, fs.set k v))) H1 → va_S A H0 H1 locs1 → W p l e R s m args below meth c H1 locs1 cells slots Q (F0 m (pc + 3) ls rest)) : W p l e R s m args below meth c H locs cells slots Q (F0 m pc ls (v :: .ref a :: rest)) := by
  obtain ⟨hc, hin, hty, hnm, -, -, -, hself, -⟩ := hC
  have hap := va_apart (own := own) hts hin (rp_ty ci) hty hnm hK hc
  obtain ⟨r, h1, cell, q1, q2, q3, q4⟩ := hP q0 _ he
  have hr : r = (rp_cn ci, rp_TT ci, rp_NN ci) := Option.some.inj (h1.symm.trans hc)
  subst hr
  obtain ⟨hS, hfc, kC, hkC, hkind⟩ := hK.1 ci _ hc
  obtain ⟨cf, kf, fi, f, hi, hsl⟩ := hS k hk
  have hlay := hts _ (hin _ (u_in_lay hk))
  have hst := (u_facts hfc hkC (u_lays hts hin hk) hi).1
  have hi2 : s.fieldFound? (rp_cn ci) (rp_TT ci k).2.1 (rp_TT ci k).2.2.1 = some (cf, kf, fi, f) := by rw [← hself k hk]; exact hi
  have fin : ∀ H' : Heap, H'[a]? = some (cell.setSlot f.slot v) → H'.size = H.size → (∀ q, q ≠ a → H'[q]? = H[q]?) → W p l e R s m args below meth c H' (locs ++ [⟨a, f.slot⟩]) cells slots Q (F0 m (pc + 3) ls rest) := by
    intro H' e1 e2 e3
    rw [hsl] at e1 ⊢
    exact kk H' _ e2 (hP.set hD he ⟨_, hc, t_OB.to (V := updV (vp_V fs) k v) ⟨_, e1, q2, q3, t_set q4 hap hk v⟩ (fun j _ => vp_updV_set hl v j)⟩ e3) (hS0.put e2 e3 (hD.2 q0 _ he))
  unfold u_lay at hlay
  rcases hfin with hfin | ⟨hfin, hin2, hdecl⟩
  · rw [if_neg (by rw [hfin]; decide)] at hlay
    have h6 := u_store hfc hkC hkind hlay hi (hty k hk) hn hfit
    exact W.putK hx hb (f := f) ⟨hown, hts _ hlink, ⟨_, _, _, hi2⟩, hst⟩ (by rw [q2]; exact h6) q1 q3 (by rw [hsl]; exact k2_hasslot (q4 k hk)) rfl rfl hdg fin
  · rw [if_pos hfin] at hlay
    have hcf : m.cls = cf := by
      obtain ⟨_, _, c', _, _, _, -, -, hf', -, -, -, hown2, -⟩ := Cond.laysFinal_spec hlay
      have e1 : c' = cf := by have := hi.symm.trans hf'; simp at this; exact this.1.symm
      rw [hself k hk, hdecl] at hown2
      rw [← e1]; exact Option.some.inj (hown.symm.trans hown2)
    have h6 := u_fits hfc hkC hkind (Or.inr hlay) hi (hty k hk) hn hfit
    exact W.putFinK hx hb hown (hts _ hlink) hi2 hst hcf hin2 (by rw [q2]; exact h6) q1 q3 (by rw [hsl]; exact k2_hasslot (q4 k hk)) rfl rfl hdg fin
/-- an int array's element is written; the heap is as large as before -/
theorem rp_ast (hx : p.tables.exec = Jvm.exec) (hb : c.code = cc) (hK : va_K D rp_cls tys s) (hP : va_P D rp_cls ws H) (hD : va_D A ws) (hS : va_S A H0 H locs) {q0 t0 : Nat} {cA : ClassId} {n : Nat} {f : Nat → Int32} (ha : ws[q0]? = some (a, .inl (cA, n, .inl f))) (ht : tys[t0]? = some (cA, .int)) {i x : Int32} (hin : vp_in i n) (hdg : decode cc pc = .ok (.iastore, 1))
    (kk : ∀ (H1 : Heap) (locs1 : List Loc), H1.size = H.size → va_P D rp_cls (ws.set q0 (a, .inl (cA, n, .inl (upd f i.toNatClampNeg x)))) H1 → va_S A H0 H1 locs1 → W p l e R s m args below meth c H1 locs1 cells slots Q (F0 m (pc + 1) ls rest)) : W p l e R s m args below meth c H locs cells slots Q (F0 m pc ls (.int x :: .int i :: .ref a :: rest)) := by
  refine W.iast hx hb (hP q0 _ ha) ((hK.2 t0 _ ht).1 n (fun j => .int (f j))) (fun q => by cases q) (by show ¬ (i < 0 ∨ (arrV _ _ _).slots.size ≤ _); rw [arrV_size]; exact hin) rfl rfl hdg fun H1 e z oq => ?_
  refine kk H1 _ z (hP.set hD ha ?_ oq) (hS.put z oq (hD.2 q0 _ ha))
  show H1[a]? = some (vp_cell _ _)
  rw [e, vp_cell_i, vp_cell_i, arrV_store]
  congr 2
  funext q
  by_cases hq : q = i.toNatClampNeg
  · subst hq; simp [updV, upd]
  · simp [updV, upd, hq]
theorem rp_zst (hx : p.tables.exec = Jvm.exec) (hb : c.code = cc) (hK : va_K D rp_cls tys s) (hP : va_P D rp_cls ws H) (hD : va_D A ws) (hS : va_S A H0 H locs) {q0 t0 : Nat} {cA : ClassId} {n : Nat} {f : Nat → Int32} (ha : ws[q0]? = some (a, .inl (cA, n, .inl f))) (ht : tys[t0]? = some (cA, .boolean)) {i x : Int32} (hz : x &&& 1 = x) (hin : vp_in i n) (hdg : decode cc pc = .ok (.bastore, 1))
    (kk : ∀ (H1 : Heap) (locs1 : List Loc), H1.size = H.size → va_P D rp_cls (ws.set q0 (a, .inl (cA, n, .inl (upd f i.toNatClampNeg x)))) H1 → va_S A H0 H1 locs1 → W p l e R s m args below meth c H1 locs1 cells slots Q (F0 m (pc + 1) ls rest)) : W p l e R s m args below meth c H locs cells slots Q (F0 m pc ls (.int x :: .int i :: .ref a :: rest)) := by
  refine W.zast hx hb (hP q0 _ ha) ((hK.2 t0 _ ht).1 n (fun j => .int (f j))) (fun q => by cases q) (by show ¬ (i < 0 ∨ (arrV _ _ _).slots.size ≤ _); rw [arrV_size]; exact hin) rfl rfl hdg fun H1 e z oq => ?_
  refine kk H1 _ z (hP.set hD ha ?_ oq) (hS.put z oq (hD.2 q0 _ ha))
  show H1[a]? = some (vp_cell _ _)
  rw [e, vp_cell_i, vp_cell_i, arrV_store]
  congr 2
  funext q
  by_cases hq : q = i.toNatClampNeg
  · subst hq
    have : narrow .boolean (.int x) = .int x := by rcases rp_and1 hz with rfl | rfl <;> decide
    simp [updV, upd, this]
  · simp [updV, upd, hq]
end
section
variable {p : Program} {l : Launch} {e : Env} {R : Room} {s : State} {m : MethodId} {args : Array Value} {below : List Frame} {meth : Method} {c : Code} {H : Heap} {locs : List Loc} {cells slots : Nat} {Q : State → Prop}
variable {D : va_G} {b base : Nat} {adK : Nat → Nat} {cI cZ : ClassId} {j : Nat} {sc : rp_Sc}
set_option maxHeartbeats 4000000 in
theorem rp_simH (hx : p.tables.exec = Jvm.exec) (hb : c.code = (rp_mt j).2.1) (hown : s.vm.findClass (rp_cn (rp_mt j).2.2.2.2.1) = some m.cls) (hts : ∀ w ∈ rp_gt, w.before args s = true) (hmn : (rp_mt j).1.name = "<init>" → meth.name = "<init>") (hK : va_K D rp_cls [(cI, .int), (cZ, .boolean)] s) (hsc : ∀ q xs, sc = some (q, xs) → va_X b q xs s s.heap) (hb1 : b < s.heap.size) (hb2 : b < base)
    {pc n : Nat} {I : Instr} {i : rp_In} {st st' : List Value} {h h' : rp_Hp} {lsr : Array Slot} (hok : rp_okE j (pc, I, n, i) = true) (hd : decode (rp_mt j).2.1 pc = .ok (I, n)) (hp : rp_heap sc I i (!i.2.2.2.isEmpty) h st = some (h', st')) (hH : rp_HR D base (rp_ph b base adK) cI cZ h H) (hS : va_S (fun q => base ≤ q) s.heap H locs)
    (K : ∀ H' locs', rp_HR D base (rp_ph b base adK) cI cZ h' H' → va_S (fun q => base ≤ q) s.heap H' locs' → W p l e R s m args below meth c H' locs' cells slots Q (F0 m (pc + n) lsr (st'.map (rp_vm (rp_ph b base adK))))) : W p l e R s m args below meth c H locs cells slots Q (F0 m pc lsr (st.map (rp_vm (rp_ph b base adK)))) := by
  obtain ⟨h0, h1, h2, hP⟩ := hH
  have hD := rp_wd_D base (rp_ph b base adK) cI cZ h
  have small : ∀ {a : Nat} {sh : rp_Sh}, h.1[a + 1]? = some sh → rp_ph b base adK (a + 1) = base + a := fun hs => rp_ph_in (Nat.lt_of_lt_of_le (List.getElem?_eq_some_iff.mp hs).1 h1)
  unfold rp_heap at hp
  split at hp
  next x =>
    simp only [rp_okE, Bool.and_eq_true, Nat.beq_eq] at hok
    obtain ⟨rfl, hv⟩ := hok
    obtain ⟨z, hz, hz2⟩ := List.any_eq_true.mp hv
    simp only [Bool.and_eq_true, Nat.beq_eq] at hz2
    obtain ⟨hz3, hz4, hz5⟩ := rp_ft_ok z hz
    have hw := rp_gt_of _ hz3 rfl
    rw [hz2.1, hz2.2.1, hz2.2.2.1, hz2.2.2.2] at hw
    rw [hz2.2.2.1] at hz4
    rw [hz2.2.2.1, hz2.2.2.2] at hz5
    have hC := rp_CFs i.1 hz4
    split at hp
    next a r =>
      split at hp
      next v hv =>
        cases hp
        unfold rp_field at hv
        split at hv
        next c1 fs hs =>
          cases hc1 : Nat.beq c1 i.1 with
          | false => rw [hc1] at hv; cases hv
          | true =>
            rw [hc1] at hv
            have hc1 := Nat.eq_of_beq_eq_true hc1
            subst hc1
            have hv : (match fs[i.2.1]? with
              | some (some v) => some v
              | some none => some (.int (h.2 a i.2.1))
              | none => none) = some v := hv
            have ha : a ≠ 0 := by
              rintro rfl
              rw [h0] at hs
              have e := (Prod.mk.inj (Sum.inr.inj (Option.some.inj hs))).2
              subst e
              cases hv
            obtain ⟨a1, rfl⟩ : ∃ a1 : Nat, a = a1 + 1 := ⟨Nat.pred a, (Nat.succ_pred_eq_of_pos (Nat.pos_of_ne_zero ha)).symm⟩
            have he := rp_wd_at (base := base) (φ := rp_ph b base adK) (cI := cI) (cZ := cZ) hs
            show W p l e R s m args below meth c H locs cells slots Q (F0 m pc lsr (.ref (rp_ph b base adK (a1 + 1)) :: List.map (rp_vm (rp_ph b base adK)) _))
            rw [small hs]
            refine va_get (C := rp_cn i.1) (T := rp_TT i.1) (N := rp_NN i.1) (ref := rp_cn i.1) (v := rp_vm (rp_ph b base adK) v) hx hb hts hC.2.1 hown hK hP a1 he hC.1 i.2.1 hz5 (hts _ hw) ?_ ?_ hd ?_
            · intro y hy
              rw [hC.2.2.2.2.2.2.2.1 _ hz5] at hy
              exact hy
            · rw [rp_fv_get]
              cases hf : fs[i.2.1]? with
              | none => rw [hf] at hv; cases hv
              | some y =>
                rw [hf] at hv
                cases y with
                | some w => cases hv; rfl
                | none => cases hv; rfl
            · exact K H locs ⟨h0, h1, h2, hP⟩ hS
        next => cases hv
      next => cases hp
    next => cases hp
  next x =>
    simp only [rp_okE, Bool.and_eq_true, Nat.beq_eq] at hok
    obtain ⟨rfl, hv, hpo⟩ := hok
    obtain ⟨z, hz, hz2⟩ := List.any_eq_true.mp hv
    simp only [Bool.and_eq_true, Nat.beq_eq] at hz2
    obtain ⟨hz3, hz4, hz5⟩ := rp_ft_ok z hz
    have hw := rp_gt_of _ hz3 rfl
    rw [hz2.1, hz2.2.1, hz2.2.2.1, hz2.2.2.2] at hw
    rw [hz2.2.2.1] at hz4
    rw [hz2.2.2.1, hz2.2.2.2] at hz5
    have hC := rp_CFs i.1 hz4
    split at hp
    next v a r =>
      split at hp
      next c1 fs hs =>
        cases hc1 : Nat.beq c1 i.1 with
        | false => rw [hc1] at hp; cases hp
        | true =>
          rw [hc1] at hp
          have hc1 := Nat.eq_of_beq_eq_true hc1
          subst hc1
          simp only [cond_true] at hp
          unfold rp_putok at hpo
          cases hem : i.2.2.2.isEmpty with
          | false =>
            rw [hem] at hp hpo
            simp only [Bool.not_false, cond_true] at hp
            simp only [cond_false] at hpo
            simp only [Bool.and_eq_true, decide_eq_true_eq, Nat.beq_eq] at hpo
            obtain ⟨p1, p2, p3, p4⟩ := hpo
            split at hp
            next w hf =>
              cases hfit : rp_fit i.2.2.1 v with
              | false => rw [hfit] at hp; cases hp
              | true =>
                rw [hfit] at hp
                cases hp
                have ha : a ≠ 0 := by
                  rintro rfl
                  rw [h0] at hs
                  have e := (Prod.mk.inj (Sum.inr.inj (Option.some.inj hs))).2
                  subst e
                  cases hf
                obtain ⟨a1, rfl⟩ : ∃ a1 : Nat, a = a1 + 1 := ⟨Nat.pred a, (Nat.succ_pred_eq_of_pos (Nat.pos_of_ne_zero ha)).symm⟩
                have he := rp_wd_at (base := base) (φ := rp_ph b base adK) (cI := cI) (cZ := cZ) hs
                have hkl : i.2.1 < fs.length := (List.getElem?_eq_some_iff.mp hf).1
                show W p l e R s m args below meth c H locs cells slots Q (F0 m pc lsr (rp_vm (rp_ph b base adK) v :: .ref (rp_ph b base adK (a1 + 1)) :: List.map (rp_vm (rp_ph b base adK)) _))
                rw [small hs]
                have hnf : narrow (rp_ty i.1 i.2.1) (rp_vm (rp_ph b base adK) v) = rp_vm (rp_ph b base adK) v ∧ fits (rp_ty i.1 i.2.1) (rp_vm (rp_ph b base adK) v) = true := by
                  revert p4 hfit
                  cases rp_ty i.1 i.2.1 <;> cases i.2.2.1 <;> cases v <;> simp [rp_fit, rp_vm, narrow, fits]
                refine rp_put hx hb hts hC hown hK hP hD hS he hz5 hw (Or.inr ⟨p1, hmn p2, by rw [p3]⟩) hnf.1 hnf.2 (by rw [rp_fv_len]; exact hkl) hd fun H1 locs1 z1 hP1 hS1 => ?_
                refine K H1 locs1 ⟨?_, ?_, ?_, ?_⟩ hS1
                · rw [List.getElem?_set_ne (by omega)]; exact h0
                · simpa using h1
                · rw [z1, h2]; simp
                · have := rp_wd_setF (base := base) (φ := rp_ph b base adK) (cI := cI) (cZ := cZ) (σ := h.2) (v := v) hs hkl
                  rw [this]; exact hP1
            next => cases hp
          | true =>
            rw [hem] at hp hpo
            simp only [Bool.not_true, cond_false] at hp
            simp only [cond_true] at hpo
            simp only [Bool.and_eq_true, Bool.not_eq_true'] at hpo
            obtain ⟨p1, p4⟩ := hpo
            split at hp
            next hf =>
              split at hp
              next x1 =>
                cases hzk : rp_zok i.2.2.1 x1 with
                | false => rw [hzk] at hp; cases hp
                | true =>
                  rw [hzk] at hp
                  cases hp
                  have ha : a ≠ 0 := by
                    rintro rfl
                    rw [h0] at hs
                    have e := (Prod.mk.inj (Sum.inr.inj (Option.some.inj hs))).2
                    subst e
                    cases hf
                  obtain ⟨a1, rfl⟩ : ∃ a1 : Nat, a = a1 + 1 := ⟨Nat.pred a, (Nat.succ_pred_eq_of_pos (Nat.pos_of_ne_zero ha)).symm⟩
                  have he := rp_wd_at (base := base) (φ := rp_ph b base adK) (cI := cI) (cZ := cZ) hs
                  have hkl : i.2.1 < fs.length := (List.getElem?_eq_some_iff.mp hf).1
                  show W p l e R s m args below meth c H locs cells slots Q (F0 m pc lsr (.int x1 :: .ref (rp_ph b base adK (a1 + 1)) :: List.map (rp_vm (rp_ph b base adK)) _))
                  rw [small hs]
                  have hnf : narrow (rp_ty i.1 i.2.1) (.int x1) = .int x1 ∧ fits (rp_ty i.1 i.2.1) (.int x1) = true := by
                    revert p4 hzk
                    cases rp_ty i.1 i.2.1 <;> cases i.2.2.1 <;> simp [rp_zok, narrow, fits]
                    intro hz
                    rcases rp_and1 hz with rfl | rfl <;> decide
                  refine rp_put hx hb hts hC hown hK hP hD hS he hz5 hw (Or.inl p1) hnf.1 hnf.2 (by rw [rp_fv_len]; exact hkl) hd fun H1 locs1 z1 hP1 hS1 => ?_
                  refine K H1 locs1 ⟨h0, h1, ?_, ?_⟩ hS1
                  · rw [z1, h2]
                  · have := rp_wd_setM (base := base) (φ := rp_ph b base adK) (cI := cI) (cZ := cZ) (σ := h.2) (x := x1) hs hf
                    rw [this]; exact hP1
              next => cases hp
            next => cases hp
      next => cases hp
    next => cases hp
  next =>
    simp only [rp_okE, Nat.beq_eq] at hok
    subst hok
    split at hp
    next x r =>
      cases hq : sc with
      | none => rw [hq] at hp; cases hp
      | some q =>
        rw [hq] at hp
        dsimp only at hp
        cases hix : rp_ix x q.1 with
        | false => rw [hix] at hp; cases hp
        | true =>
          rw [hix] at hp
          cases hp
          exact va_sld hx hb (hsc q.1 q.2 hq) hb1 (by show ¬ base ≤ b; omega) hS (rp_ix_in hix) hd (K H locs ⟨h0, h1, h2, hP⟩ hS)
    next x a r =>
      split at hp
      next k hs =>
        cases hix : rp_ix x k with
        | false => rw [hix] at hp; cases hp
        | true =>
          rw [hix] at hp
          cases hp
          have he := rp_wd_at (base := base) (φ := rp_ph b base adK) (cI := cI) (cZ := cZ) hs
          show W p l e R s m args below meth c H locs cells slots Q (F0 m pc lsr (.int x :: .ref (rp_ph b base adK (a + 1)) :: List.map (rp_vm (rp_ph b base adK)) _))
          rw [small hs]
          exact va_iald hx hb hK hP a 0 he rfl (rp_ix_in hix) hd (K H locs ⟨h0, h1, h2, hP⟩ hS)
      next => cases hp
    next => cases hp
  next =>
    simp only [rp_okE, Nat.beq_eq] at hok
    subst hok
    split at hp
    next x a r =>
      split at hp
      next k hs =>
        cases hix : rp_ix x k with
        | false => rw [hix] at hp; cases hp
        | true =>
          rw [hix] at hp
          cases hp
          have he := rp_wd_at (base := base) (φ := rp_ph b base adK) (cI := cI) (cZ := cZ) hs
          show W p l e R s m args below meth c H locs cells slots Q (F0 m pc lsr (.int x :: .ref (rp_ph b base adK (a + 1)) :: List.map (rp_vm (rp_ph b base adK)) _))
          rw [small hs]
          exact va_zald hx hb hK hP a 1 he rfl (rp_ix_in hix) hd (K H locs ⟨h0, h1, h2, hP⟩ hS)
      next => cases hp
    next => cases hp
  next =>
    simp only [rp_okE, Nat.beq_eq] at hok
    subst hok
    split at hp
    next v x a r =>
      split at hp
      next k hs =>
        cases hix : rp_ix x k with
        | false => rw [hix] at hp; cases hp
        | true =>
          rw [hix] at hp
          cases hp
          have he := rp_wd_at (base := base) (φ := rp_ph b base adK) (cI := cI) (cZ := cZ) hs
          show W p l e R s m args below meth c H locs cells slots Q (F0 m pc lsr (.int _ :: .int _ :: .ref (rp_ph b base adK (_ + 1)) :: List.map (rp_vm (rp_ph b base adK)) _))
          rw [small hs]
          refine rp_ast (t0 := 0) hx hb hK hP hD hS he rfl (rp_ix_in hix) hd fun H1 locs1 z1 hP1 hS1 => ?_
          refine K H1 locs1 ⟨h0, h1, ?_, ?_⟩ hS1
          · rw [z1, h2]
          · have := rp_wd_setA (base := base) (φ := rp_ph b base adK) (cI := cI) (cZ := cZ) (σ := h.2) (k := x.toNatClampNeg) (x := v) hs
            rw [this]; exact hP1
      next => cases hp
    next => cases hp
  next =>
    simp only [rp_okE, Nat.beq_eq] at hok
    subst hok
    split at hp
    next v x a r =>
      split at hp
      next k hs =>
        cases hix : (rp_ix x k && decide (v &&& 1 = v)) with
        | false => rw [hix] at hp; cases hp
        | true =>
          rw [hix] at hp
          cases hp
          simp only [Bool.and_eq_true, decide_eq_true_eq] at hix
          have he := rp_wd_at (base := base) (φ := rp_ph b base adK) (cI := cI) (cZ := cZ) hs
          show W p l e R s m args below meth c H locs cells slots Q (F0 m pc lsr (.int _ :: .int _ :: .ref (rp_ph b base adK (_ + 1)) :: List.map (rp_vm (rp_ph b base adK)) _))
          rw [small hs]
          refine rp_zst (t0 := 1) hx hb hK hP hD hS he rfl hix.2 (rp_ix_in hix.1) hd fun H1 locs1 z1 hP1 hS1 => ?_
          refine K H1 locs1 ⟨h0, h1, ?_, ?_⟩ hS1
          · rw [z1, h2]
          · have := rp_wd_setA (base := base) (φ := rp_ph b base adK) (cI := cI) (cZ := cZ) (σ := h.2) (k := x.toNatClampNeg) (x := v) hs
            rw [this]; exact hP1
      next => cases hp
    next => cases hp
  next =>
    simp only [rp_okE, Nat.beq_eq] at hok
    subst hok
    split at hp
    next r =>
      cases hq : sc with
      | none => rw [hq] at hp; cases hp
      | some q =>
        rw [hq] at hp
        cases hp
        exact va_slen hx hb (hsc q.1 q.2 hq) hb1 (by show ¬ base ≤ b; omega) hS hd (K H locs ⟨h0, h1, h2, hP⟩ hS)
    next a r =>
      split at hp
      next z k hs =>
        cases hp
        have he := rp_wd_at (base := base) (φ := rp_ph b base adK) (cI := cI) (cZ := cZ) hs
        show W p l e R s m args below meth c H locs cells slots Q (F0 m pc lsr (.ref (rp_ph b base adK (a + 1)) :: List.map (rp_vm (rp_ph b base adK)) _))
        rw [small hs]
        cases z with
        | false => exact va_alen (t0 := 0) (ty := .int) hx hb hK hP a he rfl rfl hd (K H locs ⟨h0, h1, h2, hP⟩ hS)
        | true => exact va_alen (t0 := 1) (ty := .boolean) hx hb hK hP a he rfl rfl hd (K H locs ⟨h0, h1, h2, hP⟩ hS)
      next => cases hp
    next => cases hp
  next => cases hp
end
end
section
/-! what holds at every entry: the classes, the script, the texts -/
def rp_sl : List Nat := [4, 5, 4, 4, 5, 4, 4, 5, 6, 4, 2, 3]
def rp_EP (D : va_G) (b base : Nat) (adK adV : Nat → Nat) (cI cZ : ClassId) (sc : rp_Sc) (U : State) : Prop :=
  va_K D rp_cls [(cI, .int), (cZ, .boolean)] U ∧ (∀ q xs, sc = some (q, xs) → va_X b q xs U U.heap) ∧ b < U.heap.size ∧ (∀ k, k < 12 → vk_R RX1 (rp_si.getD k 0) (rp_sn.getD k "") (adK k) U) ∧ vk_S 12 rp_sl rp_txl adK adV (fun q => base ≤ q) U U.heap ∧ va_Z "java/lang/String" "COMPACT_STRINGS" "Z" (.int 1) (fun q => base ≤ q) U U.heap ∧ (∀ q ∈ rp_ns, va_Nw (.methodLinkNest (rp_cn q.1) q.2.1 (rp_mt q.2.2.1).1 q.2.2.2) U) ∧ va_Zq "jdk/internal/util/Preconditions" "SIOOBE_FORMATTER" "Ljava/util/function/BiFunction;" (fun q => base ≤ q) U U.heap
theorem rp_EP.blind {D : va_G} {b base : Nat} {adK adV : Nat → Nat} {cI cZ : ClassId} {sc : rp_Sc} {U : State} (h : rp_EP D b base adK adV cI cZ sc U) (g : JFrame) (mk : MethodId) (a : Array Value) : rp_EP D b base adK adV cI cZ sc (U.calling g mk a) := by
  obtain ⟨h1, h2, h3, h4, h5, h6, h7, h8⟩ := h
  have al : U.vm.Alike (U.calling g mk a).vm := Vm.Alike.refl U.vm
  exact ⟨va_K.moved al h1, fun q xs e => va_X.moved al (h2 q xs e), h3, fun k hk => vk_R.same rfl (h4 k hk), vk_S.moved al h5, va_Z.moved al h6, fun q hq => va_Nw.same rfl rfl (h7 q hq), va_Zq.moved al h8⟩
theorem rp_EP.move {D : va_G} {b base : Nat} {adK adV : Nat → Nat} {cI cZ : ClassId} {sc : rp_Sc} {s U : State} {H : Heap} {locs : List Loc} (h : rp_EP D b base adK adV cI cZ sc s) (hb : b < base) (hS : va_S (fun q => base ≤ q) s.heap H locs) (hU : U.heap = H) (hW : s.WarmedH U.vm) : rp_EP D b base adK adV cI cZ sc U := by
  obtain ⟨h1, h2, h3, h4, h5, h6, h7, h8⟩ := h
  have al := hW.alike
  subst hU
  have hq : ∀ a : Nat, a < s.heap.size → ¬ base ≤ a → U.heap[a]? = s.heap[a]? := fun a ha hn => hS.2.1 a ha hn
  refine ⟨va_K.moved al h1, fun q xs e => (va_X.moved al (h2 q xs e)).kept (hq b h3 (by omega)), Nat.lt_of_lt_of_le h3 hS.1, fun k hk => vk_R.warm hW (h4 k hk), (vk_S.moved al h5).kept hq, (va_Z.moved al h6).kept hq, fun q hz => va_Nw.warmM hW (h7 q hz), (va_Zq.moved al h8).kept hq⟩
/-- the locals at a method's entry -/
theorem rp_ex_sl (φ : Nat → Nat) : ∀ (vs : List Value), (rp_ex vs).length = (lg_sl (vs.map (rp_vm φ))).length ∧ ∀ (i : Nat) (v : Value), (rp_ex vs)[i]? = some v → v ≠ rp_U → (lg_sl (vs.map (rp_vm φ)))[i]? = some (.val (rp_vm φ v)) := by
  intro vs
  induction vs with
  | nil => exact ⟨rfl, fun i v h => by simp [rp_ex] at h⟩
  | cons w vs ih =>
    have two : w.category = 2 → rp_ex (w :: vs) = w :: rp_U :: rp_ex vs ∧ lg_sl ((w :: vs).map (rp_vm φ)) = .val (rp_vm φ w) :: .second :: lg_sl (vs.map (rp_vm φ)) := by
      intro hc
      refine ⟨?_, ?_⟩
      · cases w <;> first | rfl | exact absurd hc (by simp [Value.category])
      · have : (rp_vm φ w).category = 2 := by rw [rp_vm_cat]; exact hc
        simp [lg_sl, this]
    have one : w.category = 1 → rp_ex (w :: vs) = w :: rp_ex vs ∧ lg_sl ((w :: vs).map (rp_vm φ)) = .val (rp_vm φ w) :: lg_sl (vs.map (rp_vm φ)) := by
      intro hc
      refine ⟨?_, ?_⟩
      · cases w <;> first | rfl | exact absurd hc (by simp [Value.category])
      · have : (rp_vm φ w).category = 1 := by rw [rp_vm_cat]; exact hc
        simp [lg_sl, this]
    rcases lv_cat w with hc | hc
    · obtain ⟨e1, e2⟩ := one hc
      rw [e1, e2]
      refine ⟨by simp [ih.1], fun i v h hu => ?_⟩
      cases i with
      | zero => simp at h; subst h; rfl
      | succ i => simp only [List.getElem?_cons_succ] at h ⊢; exact ih.2 i v h hu
    · obtain ⟨e1, e2⟩ := two hc
      rw [e1, e2]
      refine ⟨by simp [ih.1], fun i v h hu => ?_⟩
      match i, h with
      | 0, h => simp at h; subst h; rfl
      | 1, h => simp at h; exact absurd h.symm hu
      | i + 2, h => simp only [List.getElem?_cons_succ] at h ⊢; exact ih.2 i v h hu
theorem rp_RL_entry (φ : Nat → Nat) (vs : List Value) {n : Nat} (hn : (rp_ex vs).length ≤ n) : rp_RL φ n (rp_en n vs) ((lg_sl (vs.map (rp_vm φ)) ++ List.replicate (n - (lg_sl (vs.map (rp_vm φ))).length) Slot.unset).toArray) := by
  obtain ⟨hl, hv⟩ := rp_ex_sl φ vs
  have he := lv_entry (vs.map (rp_vm φ)) (n := n) (by rw [← hl]; exact hn)
  refine ⟨he.1, he.2.1, by simp [rp_en]; omega, fun i v hi hu => ?_⟩
  unfold rp_en at hi
  by_cases h : i < (rp_ex vs).length
  · rw [List.getElem?_append_left h] at hi
    rw [List.getElem?_toArray, List.getElem?_append_left (by rw [← hl]; exact h)]
    exact hv i v hi hu
  · rw [List.getElem?_append_right (by omega)] at hi
    have := List.eq_of_mem_replicate (List.mem_of_getElem? hi)
    exact absurd this hu
theorem rp_cat_sum (φ : Nat → Nat) : ∀ (vs : List Value), ((vs.map (rp_vm φ)).map fun v => v.category).sum = rp_cat vs := by
  intro vs
  induction vs with
  | nil => rfl
  | cons v vs ih => simp only [List.map_cons, List.sum_cons, rp_vm_cat, ih]; rfl
section
variable {p : Program} {l : Launch} {e : Env} {R : Room} {s : State} {m : MethodId} {args : Array Value} {below : List Frame} {meth : Method} {c : Code} {H : Heap} {locs : List Loc} {cells slots : Nat} {Q : State → Prop}
variable {D : va_G} {b base : Nat} {adK adV : Nat → Nat} {cI cZ : ClassId} {j : Nat} {sc : rp_Sc}
def rp_Qc (D : va_G) (base : Nat) (φ : Nat → Nat) (cI cZ : ClassId) (r : Option Value) (h' : rp_Hp) : Array Value → State → Outcome → State → Prop := fun _ st o t => o = .returned (r.map (rp_vm φ)) ∧ rp_HR D base φ cI cZ h' t.heap ∧ va_F (fun q => base ≤ q) st t
theorem rp_runW {mc ms pc : Nat} {lsr : Array Slot} {st0 rest : List Value} {a : Array Value} {φ : Nat → Nat} {r : Option Value} {h' : rp_Hp} (hr : va_Run p l e R s m args below meth c H locs cells slots mc ms (F0 m pc lsr st0) rest (rp_Qc D base φ cI cZ r h' a) (fun q => base ≤ q)) (hS : va_S (fun q => base ≤ q) s.heap H locs)
    (kk : ∀ (H1 : Heap) (locs1 : List Loc), rp_HR D base φ cI cZ h' H1 → va_S (fun q => base ≤ q) s.heap H1 locs1 → W p l e R s m args below meth c H1 locs1 (cells + mc) (slots + ms) Q (F0 m (pc + 3) lsr ((r.map (rp_vm φ)).toList ++ rest))) : W p l e R s m args below meth c H locs cells slots Q (F0 m pc lsr st0) := by
  intro T hT X
  obtain ⟨v, st₀, t, T', L, h0, X', hL, e1, e2, ⟨hv, hh, hz, hk⟩, st⟩ := hr T hT X
  cases hv
  rw [h0] at hz hk
  obtain ⟨t2, a1, b1⟩ := kk T'.heap (locs ++ L) (by rw [e1]; exact hh) ⟨Nat.le_trans hS.1 (by rw [e1]; exact hz), fun q h1 h2 => by rw [e1, hk q (Nat.lt_of_lt_of_le h1 hS.1) h2]; exact hS.2.1 q h1 h2, fun q hq => by
    rcases List.mem_append.mp hq with h1 | h1
    · exact hS.2.2 q h1
    · exact hL q h1⟩ T' rfl X'
  exact ⟨t2, st t2 a1, b1⟩
theorem rp_arrI : Cond.arrayClass .int ∈ rp_gt := rp_gt_of 129 (by decide +kernel) rfl
theorem rp_arrZ : Cond.arrayClass .boolean ∈ rp_gt := rp_gt_of 1056 (by decide +kernel) rfl
theorem rp_wd_push {base : Nat} {φ : Nat → Nat} {cI cZ : ClassId} {L : List rp_Sh} {σ : rp_Mm} {sh : rp_Sh} (hl : 0 < L.length) : rp_wd base φ cI cZ (L ++ [sh], rp_zr σ L.length) = rp_wd base φ cI cZ (L, σ) ++ [(base + (L.length - 1), rp_tE φ cI cZ sh (fun _ => 0))] := by
  apply List.ext_getElem?
  intro i
  have hlw : (rp_wd base φ cI cZ (L, σ)).length = L.length - 1 := by simp [rp_wd]
  rw [rp_wd_get]
  by_cases h : i < L.length - 1
  · rw [List.getElem?_append_left (show i + 1 < L.length by omega), List.getElem?_append_left (show i < (rp_wd base φ cI cZ (L, σ)).length by rw [hlw]; exact h), rp_wd_get]
    dsimp only
    have : rp_zr σ L.length (i + 1) = σ (i + 1) := by funext q; simp [rp_zr, show ¬ i + 1 = L.length by omega]
    rw [this]
  · rw [List.getElem?_append_right (show L.length ≤ i + 1 by omega), List.getElem?_append_right (show (rp_wd base φ cI cZ (L, σ)).length ≤ i by rw [hlw]; omega), hlw]
    dsimp only
    by_cases h2 : i = L.length - 1
    · subst h2
      have e : L.length - 1 + 1 = L.length := by omega
      rw [e, Nat.sub_self, Nat.sub_self]
      have : rp_zr σ L.length L.length = fun _ => 0 := by funext q; simp [rp_zr]
      simp [this]
    · rw [List.getElem?_eq_none (by simp; omega), List.getElem?_eq_none (by simp; omega)]
      rfl
set_option maxHeartbeats 4000000 in
theorem rp_simM (hx : p.tables.exec = Jvm.exec) (hb : c.code = (rp_mt j).2.1) (hown : s.vm.findClass (rp_cn (rp_mt j).2.2.2.2.1) = some m.cls) (hts : ∀ w ∈ rp_gt, w.before args s = true) (hK : va_K D rp_cls [(cI, .int), (cZ, .boolean)] s) (hRc : (rp_mt j).2.2.2.2.2.2.2.1 ≤ R.cells) (hRs : (rp_mt j).2.2.2.2.2.2.2.2 ≤ R.slots)
    {pc n uc us : Nat} {I : Instr} {i : rp_In} {ls st : List Value} {h : rp_Hp} {t : rp_As} {lsr : Array Slot} (hok : rp_okE j (pc, I, n, i) = true) (hd : decode (rp_mt j).2.1 pc = .ok (I, n)) (hp : rp_make rp_mt rp_cf I n i j uc us pc ls st h = some (.inl t)) (hH : rp_HR D base (rp_ph b base adK) cI cZ h H) (hS : va_S (fun q => base ≤ q) s.heap H locs) (hbs : base ≤ s.heap.size)
    (K : ∀ H', t.1 = j → t.2.2.2.2.1 = ls → t.2.1 ≤ (rp_mt j).2.2.2.2.2.2.2.1 → t.2.2.1 ≤ (rp_mt j).2.2.2.2.2.2.2.2 → rp_HR D base (rp_ph b base adK) cI cZ t.2.2.2.2.2.2 H' → va_S (fun q => base ≤ q) s.heap H' locs → W p l e R s m args below meth c H' locs t.2.1 t.2.2.1 Q (F0 m t.2.2.2.1 lsr (t.2.2.2.2.2.1.map (rp_vm (rp_ph b base adK))))) : W p l e R s m args below meth c H locs uc us Q (F0 m pc lsr (st.map (rp_vm (rp_ph b base adK)))) := by
  obtain ⟨h0, h1, h2, hP⟩ := hH
  have hl0 : 0 < h.1.length := (List.getElem?_eq_some_iff.mp h0).1
  unfold rp_make at hp
  split at hp
  next x =>
    simp only [rp_okE, Bool.and_eq_true, Nat.beq_eq] at hok
    obtain ⟨rfl, hv⟩ := hok
    obtain ⟨z, hz, hz2⟩ := List.any_eq_true.mp hv
    simp only [Bool.and_eq_true, Nat.beq_eq] at hz2
    obtain ⟨hz3, hz4⟩ := rp_nt_ok z hz
    have hw := rp_gt_of _ hz3 rfl
    rw [hz2.1, hz2.2.1, hz2.2.2] at hw
    rw [hz2.2.2] at hz4
    obtain ⟨c1, c2, c3, c4, c5, c6, c7, c8, c9, c10⟩ := rp_CFs i.1 hz4
    cases hg : (Nat.ble (uc + 1) (rp_mt j).2.2.2.2.2.2.2.1 && (Nat.ble (us + (rp_cf i.1).length) (rp_mt j).2.2.2.2.2.2.2.2 && Nat.blt h.1.length 999)) with
    | false => rw [hg] at hp; cases hp
    | true =>
      rw [hg] at hp
      cases hp
      simp only [Bool.and_eq_true] at hg
      have g1 := Nat.le_of_ble_eq_true hg.1
      have g2 := Nat.le_of_ble_eq_true hg.2.1
      have g3 : h.1.length < 999 := Nat.le_of_ble_eq_true hg.2.2
      rw [c5] at g2
      have hKn := hK.1 i.1 _ c1
      refine W.newcK hx hb hown (hts _ hw) (hts _ c6) (hts _ c7) rfl hd (Nat.le_trans g1 hRc) (Nat.le_trans g2 hRs) hKn.2.1 h2 fun H1 kC hkC e1 z1 o1 => ?_
      have kp : ∀ (k : Nat) (x : Nat × va_E), (rp_wd base (rp_ph b base adK) cI cZ h)[k]? = some x → H1[x.1]? = H[x.1]? := fun k x hx => o1 x.1 (by have := (hP k x hx).lt; omega)
      have hq : rp_ph b base adK h.1.length = base + (h.1.length - 1) := by
        obtain ⟨q, hq⟩ : ∃ q, h.1.length = q + 1 := ⟨h.1.length - 1, by omega⟩
        rw [hq]
        exact rp_ph_in (by omega)
      have fin := K H1 rfl rfl g1 (by show us + (rp_cf i.1).length ≤ _; rw [c5]; exact g2) ⟨by show (h.1 ++ _)[0]? = _; rw [List.getElem?_append_left hl0]; exact h0, by show (h.1 ++ [_]).length ≤ 1000; simp; omega, by show H1.size = base + ((h.1 ++ [_]).length - 1); rw [z1]; simp; omega, ?_⟩ ⟨Nat.le_trans hS.1 (by omega), fun q a1 a2 => (o1 q (by have := hS.1; omega)).trans (hS.2.1 q a1 a2), hS.2.2⟩
      · show W p l e R s m args below meth c H1 locs (uc + 1) (us + rp_NN i.1) Q (F0 m (pc + 3) lsr (.ref (base + (h.1.length - 1)) :: st.map (rp_vm (rp_ph b base adK))))
        have fin : W p l e R s m args below meth c H1 locs (uc + 1) (us + (rp_cf i.1).length) Q (F0 m (pc + 3) lsr (.ref (rp_ph b base adK h.1.length) :: st.map (rp_vm (rp_ph b base adK)))) := fin
        rw [hq, c5] at fin
        exact fin
      · show va_P D rp_cls (rp_wd base (rp_ph b base adK) cI cZ (h.1 ++ [_], rp_zr h.2 h.1.length)) H1
        rw [rp_wd_push hl0]
        refine (hP.kept kp).app (fun k x hx => ?_)
        have hz : k < 1 := (List.getElem?_eq_some_iff.mp hx).1
        rw [show k = 0 by omega] at hx
        cases hx
        refine ⟨_, c1, (u_born (rp_ty i.1) hts c2 hKn hkC e1 c3).to fun k hk => ?_⟩
        rw [c9 k hk]
        unfold vp_V
        rw [List.getD_eq_getElem?_getD, rp_fv_get]
        have hkl : k < (rp_cf i.1).length := by rw [c5]; exact hk
        have hc10 := c10 k hk
        rw [List.getElem?_eq_getElem hkl] at hc10 ⊢
        cases hcv : (rp_cf i.1)[k] with
        | none => rfl
        | some v =>
          cases v with
          | ref a => rw [hcv] at hc10; exact absurd rfl (hc10 a)
          | _ => rfl
  next ty =>
    simp only [rp_okE, Nat.beq_eq] at hok
    subst hok
    split at hp
    next x r =>
      cases hg : (rp_ix x 100000 && (Nat.ble (uc + 1) (rp_mt j).2.2.2.2.2.2.2.1 && (Nat.ble (us + x.toNatClampNeg) (rp_mt j).2.2.2.2.2.2.2.2 && Nat.blt h.1.length 999))) with
      | false => rw [hg] at hp; cases hp
      | true =>
        rw [hg] at hp
        simp only [Bool.and_eq_true] at hg
        have g0 := vp_in_iff.mp (rp_ix_in hg.1)
        have g1 := Nat.le_of_ble_eq_true hg.2.1
        have g2 := Nat.le_of_ble_eq_true hg.2.2.1
        have g3 : h.1.length < 999 := Nat.le_of_ble_eq_true hg.2.2.2
        have gn : ¬ x < 0 := by rw [Int32.lt_iff_toInt_lt, Int32.toInt_zero]; omega
        have gb : x.toNatClampNeg < 100000 := by show x.toInt.toNat < 100000; omega
        have hq : rp_ph b base adK h.1.length = base + (h.1.length - 1) := by
          obtain ⟨q, hq⟩ : ∃ q, h.1.length = q + 1 := ⟨h.1.length - 1, by omega⟩
          rw [hq]
          exact rp_ph_in (by omega)
        have common : ∀ (z : Bool) (cA : ClassId) (H1 : Heap), (bif z then cZ else cI) = cA → H1[base + (h.1.length - 1)]? = some (arrV cA x.toNatClampNeg (fun _ => .int 0)) → H1.size = base + (h.1.length - 1) + 1 → (∀ q, q < base + (h.1.length - 1) → H1[q]? = H[q]?) → t = (j, uc + 1, us + x.toNatClampNeg, pc + 2, ls, .ref h.1.length :: r, (h.1 ++ [.inl (z, x.toNatClampNeg)], rp_zr h.2 h.1.length)) → W p l e R s m args below meth c H1 locs (uc + 1) (us + x.toNatClampNeg) Q (F0 m (pc + 2) lsr (.ref (base + (h.1.length - 1)) :: r.map (rp_vm (rp_ph b base adK)))) := by
          intro z cA H1 ec e1 z1 o1 et
          have kp : ∀ (k : Nat) (x : Nat × va_E), (rp_wd base (rp_ph b base adK) cI cZ h)[k]? = some x → H1[x.1]? = H[x.1]? := fun k x hx => o1 x.1 (by have := (hP k x hx).lt; omega)
          subst et
          have fin := K H1 rfl rfl g1 g2 ⟨by show (h.1 ++ _)[0]? = _; rw [List.getElem?_append_left hl0]; exact h0, by show (h.1 ++ [_]).length ≤ 1000; simp; omega, by show H1.size = base + ((h.1 ++ [_]).length - 1); rw [z1]; simp; omega, ?_⟩ ⟨Nat.le_trans hS.1 (by omega), fun q a1 a2 => (o1 q (by have := hS.1; omega)).trans (hS.2.1 q a1 a2), hS.2.2⟩
          · have fin : W p l e R s m args below meth c H1 locs (uc + 1) (us + x.toNatClampNeg) Q (F0 m (pc + 2) lsr (.ref (rp_ph b base adK h.1.length) :: r.map (rp_vm (rp_ph b base adK)))) := fin
            rw [hq] at fin
            exact fin
          · show va_P D rp_cls (rp_wd base (rp_ph b base adK) cI cZ (h.1 ++ [_], rp_zr h.2 h.1.length)) H1
            rw [rp_wd_push hl0]
            refine (hP.kept kp).app (fun k y hy => ?_)
            have hz : k < 1 := (List.getElem?_eq_some_iff.mp hy).1
            rw [show k = 0 by omega] at hy
            cases hy
            show H1[_]? = some (vp_cell (bif z then cZ else cI) (x.toNatClampNeg, .inl (fun _ => 0)))
            rw [ec, vp_cell_i]
            exact e1
        split at hp
        next =>
          refine va_newaK hx hb (atype := .int) (hts _ rp_arrI) rfl hd rfl gn rfl (by show x.toNatClampNeg * 4 ≤ _; omega) (Nat.le_trans g1 hRc) (Nat.le_trans g2 hRs) h2 fun H1 cA e1 z1 o1 hAr hNm => ?_
          have hc : cI = cA := Option.some.inj ((hK.2 0 _ rfl).2.symm.trans hNm)
          exact common false cA H1 hc e1 z1 o1 (by cases hp; rfl)
        next =>
          refine va_newaK hx hb (atype := .boolean) (hts _ rp_arrZ) rfl hd rfl gn rfl (by show x.toNatClampNeg * 1 ≤ _; omega) (Nat.le_trans g1 hRc) (Nat.le_trans g2 hRs) h2 fun H1 cA e1 z1 o1 hAr hNm => ?_
          have hc : cZ = cA := Option.some.inj ((hK.2 1 _ rfl).2.symm.trans hNm)
          exact common true cA H1 hc e1 z1 o1 (by cases hp; rfl)
        next => cases hp
    next => cases hp
  next => cases hp
end
end
section
/-! a text's length and its signs, by the JDK's own code -/
def rp_Qj (v : Option Value) : Array Value → State → Outcome → State → Prop := fun _ st o t => o = .returned v ∧ t.heap = st.heap
def rp_jw (y : MethodName) (cc : ByteArray) (maxL : Nat) (ret : Option FieldType) : List Cond := Cond.code y cc maxL ret :: rp_gt
def rp_jr (f w : Nat) : Room := { frames := f, cells := 0, slots := 0, locals := w }
def rp_jy1 : MethodName := ⟨"java/lang/String", "length", "()I"⟩
def rp_jy2 : MethodName := ⟨"java/lang/String", "coder", "()B"⟩
def rp_jy3 : MethodName := ⟨"java/lang/String", "charAt", "(I)C"⟩
def rp_jy4 : MethodName := ⟨"java/lang/String", "isLatin1", "()Z"⟩
def rp_jy5 : MethodName := ⟨"java/lang/StringLatin1", "charAt", "([BI)C"⟩
def rp_jy6 : MethodName := ⟨"java/lang/String", "checkIndex", "(II)V"⟩
def rp_jy7 : MethodName := ⟨"jdk/internal/util/Preconditions", "checkIndex", "(IILjava/util/function/BiFunction;)I"⟩
theorem rp_jc1 : Cond.code rp_jy1 prog_12_method_54_code 1 (some .int) ∈ rp_gt := rp_gt_of 468 rfl rfl
theorem rp_jc2 : Cond.code rp_jy2 prog_12_method_152_code 1 (some .byte) ∈ rp_gt := rp_gt_of 472 rfl rfl
theorem rp_jc3 : Cond.code rp_jy3 prog_12_method_56_code 2 (some .char) ∈ rp_gt := rp_gt_of 478 rfl rfl
theorem rp_jc4 : Cond.code rp_jy4 prog_12_method_154_code 1 (some .boolean) ∈ rp_gt := rp_gt_of 482 rfl rfl
theorem rp_jc5 : Cond.code rp_jy5 prog_13_method_2_code 2 (some .char) ∈ rp_gt := rp_gt_of 485 rfl rfl
theorem rp_jc6 : Cond.code rp_jy6 prog_12_method_155_code 2 none ∈ rp_gt := rp_gt_of 488 rfl rfl
theorem rp_jc7 : Cond.code rp_jy7 prog_15_method_11_code 3 (some .int) ∈ rp_gt := rp_gt_of 493 rfl rfl
theorem rp_jin {w : Cond} (i : Nat) (h : lw_tbl[i]? = some w) (hg : goodWord w = true) : w ∈ rp_gt := rp_gt_of i h hg
theorem rp_jws {y : MethodName} {cc : ByteArray} {maxL : Nat} {ret : Option FieldType} (h : Cond.code y cc maxL ret ∈ rp_gt) : GoodIn rp_gt (rp_jw y cc maxL ret) := fun w hw => (List.mem_cons.mp hw).elim (fun e => e ▸ rp_gt_good _ h) (rp_gt_good w)
section
variable {l : Launch} {D : va_G} {b base : Nat} {adK adV : Nat → Nat} {cI cZ : ClassId} {sc : rp_Sc}
def rp_JP (D : va_G) (b base : Nat) (adK adV : Nat → Nat) (cI cZ : ClassId) (sc : rp_Sc) (vs : List Value) : Array Value → State → Prop := va_Pc vs (fun U => rp_EP D b base adK adV cI cZ sc U ∧ b < base)
theorem rp_jblind {vs : List Value} : FrameBlind (rp_JP D b base adK adV cI cZ sc vs) := fun a U g mk q => ⟨q.1, q.2.1.blind g mk a, q.2.2⟩
theorem rp_jmet {y : MethodName} {cc : ByteArray} {maxL f w : Nat} {ret : Option FieldType} {vs : List Value} {v : Option Value} (hpl : plainName y.cls = true) (hlen : (lg_sl vs).length ≤ maxL)
    (body : ∀ (p : Program) (e : Env) (s : State) (m : MethodId) (below : List Frame) (meth : Method) (c : Code) (ls : Array Slot), p.tables.exec = Jvm.exec → c.code = cc → meth.sig.returnType = ret → meth.locks = false → c.maxLocals = maxL → s.vm.findClass y.cls = some m.cls → (∀ w ∈ rp_gt, w.before vs.toArray s = true) → rp_EP D b base adK adV cI cZ sc s → b < base → lv_has ls maxL (lv_args 0 vs) →
      W p l e (rp_jr f w) s m vs.toArray below meth c s.heap [] 0 0 (MQ below (rp_Qj v) vs.toArray s 0 0 (fun q => base ≤ q)) (F0 m 0 ls [])) : Met l y (rp_jw y cc maxL ret) (rp_jr f w) (rp_JP D b base adK adV cI cZ sc vs) (rp_Qj v) 0 0 (fun q => base ≤ q) := by
  refine Met.ofW (cc := cc) (maxL := maxL) (ret := ret) hpl rfl ?_
  intro p e s m args below meth c s₁ B hml hv
  obtain ⟨rfl, hEP, hb2⟩ := hv
  have hts0 := atoms_spec (ws := rp_jw y cc maxL ret) B.pre
  rw [lg_entry_eq]
  exact body p e s m below meth c _ B.exec B.bytes B.returns B.notSynchronized hml (findClass_of_methodNamed B.named) (fun w hw => hts0 w (List.mem_cons_of_mem _ hw)) hEP hb2 (lv_entry vs hlen)
variable {p : Program} {e : Env} {R : Room} {s : State} {m : MethodId} {args : Array Value} {below : List Frame} {meth : Method} {c : Code} {H : Heap} {locs : List Loc} {cells slots : Nat} {Q : State → Prop}
theorem rp_jrun {pc : Nat} {lsr : Array Slot} {st0 rest : List Value} {a : Array Value} {v : Option Value} (hr : va_Run p l e R s m args below meth c H locs cells slots 0 0 (F0 m pc lsr st0) rest (rp_Qj v a) (fun q => base ≤ q)) (hS : va_S (fun q => base ≤ q) s.heap H locs)
    (kk : ∀ (locs1 : List Loc), va_S (fun q => base ≤ q) s.heap H locs1 → W p l e R s m args below meth c H locs1 cells slots Q (F0 m (pc + 3) lsr (v.toList ++ rest))) : W p l e R s m args below meth c H locs cells slots Q (F0 m pc lsr st0) := by
  intro T hT X
  obtain ⟨v2, st₀, t, T', L, h0, X', hL, e1, e2, ⟨hv, hh⟩, st⟩ := hr T hT X
  cases hv
  have hTH : T'.heap = H := by rw [e1, hh, h0]
  obtain ⟨t2, a1, b1⟩ := kk (locs ++ L) ⟨hS.1, hS.2.1, fun q hq => by
    rcases List.mem_append.mp hq with h1 | h1
    · exact hS.2.2 q h1
    · exact hL q h1⟩ T' hTH X'
  exact ⟨t2, st t2 a1, b1⟩
/-- a virtual call on a text -/
theorem rp_jcallV {cc by1 : ByteArray} {own : String} {x pc k maxL f w n : Nat} {y : MethodName} {ret : Option FieldType} {As rest : List Value} {v : Option Value} {lsr : Array Slot} (hx : p.tables.exec = Jvm.exec) (hb : c.code = cc) (hml : c.maxLocals = lsr.size) (hown : s.vm.findClass own = some m.cls) (hts : ∀ w ∈ rp_gt, w.before args s = true) (hM : Met l y (rp_jw y by1 maxL ret) (rp_jr f w) (rp_JP D b base adK adV cI cZ sc (.ref (adK k) :: As)) (rp_Qj v) 0 0 (fun q => base ≤ q)) (hcode : Cond.code y by1 maxL ret ∈ rp_gt) (hlink : Cond.methodLink own x y ∈ rp_gt) (hinst : Cond.instanceMethod y ∈ rp_gt) (hsel : Cond.selects "java/lang/String" y y ∈ rp_gt) (hyc : y.cls = "java/lang/String") (hyd : (parseMethodDescriptor y.desc).map (fun d => d.parameters.length) = some n) (hn : As.length = n) (hE : rp_EP D b base adK adV cI cZ sc s) (hb2 : b < base) (hS : va_S (fun q => base ≤ q) s.heap H locs) (hk : k < 12) (hf : f + 1 ≤ R.frames) (hw : 8 + (maxL + 11) + w ≤ R.locals) (hc : cells ≤ R.cells) (hs : slots ≤ R.slots) (hr : (rest.map fun v => v.category).sum ≤ 8) (hd : decode cc pc = .ok (.invokevirtual x, 3))
    (K : ∀ locs', va_S (fun q => base ≤ q) s.heap H locs' → W p l e R s m args below meth c H locs' cells slots Q (F0 m (pc + 3) lsr (v.toList ++ rest))) : W p l e R s m args below meth c H locs cells slots Q (F0 m pc lsr (As.reverse ++ .ref (adK k) :: rest)) := by
  have hini : Cond.initialized y.cls ∈ rp_gt := by rw [hyc]; exact rp_gt_of 89 (by decide +kernel) rfl
  refine rp_jrun (va_runV (C := "java/lang/String") (b := adK k) (As := As) ⟨hx, hb, hml, hown, hts⟩ hM ⟨callB_of n hts (rp_jws hcode) rfl rfl rfl (hts _ hini) (hts _ hlink) ⟨by rw [hyc]; decide, by rw [hyc]; decide, hyd⟩ ⟨hf, hw⟩, hts _ hinst, hts _ hsel⟩ ⟨rp_jblind, vk_recv hE.2.2.2.2.1 hk hS, fun U hu hW => ⟨rfl, hE.move hb2 hS hu hW, hb2⟩⟩ rfl hn rfl rfl (lv_room hr) hd ⟨hc, hs⟩) hS K
theorem rp_jcallS {cc by1 : ByteArray} {own : String} {x pc maxL f w n : Nat} {y : MethodName} {ret : Option FieldType} {As rest : List Value} {v : Option Value} {lsr : Array Slot} (hx : p.tables.exec = Jvm.exec) (hb : c.code = cc) (hml : c.maxLocals = lsr.size) (hown : s.vm.findClass own = some m.cls) (hts : ∀ w ∈ rp_gt, w.before args s = true) (hM : Met l y (rp_jw y by1 maxL ret) (rp_jr f w) (rp_JP D b base adK adV cI cZ sc As) (rp_Qj v) 0 0 (fun q => base ≤ q)) (hcode : Cond.code y by1 maxL ret ∈ rp_gt) (hlink : Cond.methodLink own x y ∈ rp_gt) (hstat : Cond.static y ∈ rp_gt) (hini : Cond.initialized y.cls ∈ rp_gt) (hy : y.cls ≠ "java/lang/invoke/MethodHandle" ∧ y.cls ≠ "java/lang/invoke/VarHandle" ∧ (parseMethodDescriptor y.desc).map (fun d => d.parameters.length) = some n) (hn : As.length = n) (hE : rp_EP D b base adK adV cI cZ sc s) (hb2 : b < base) (hS : va_S (fun q => base ≤ q) s.heap H locs) (hf : f + 1 ≤ R.frames) (hw : 8 + (maxL + 11) + w ≤ R.locals) (hc : cells ≤ R.cells) (hs : slots ≤ R.slots) (hr : (rest.map fun v => v.category).sum ≤ 8) (hd : decode cc pc = .ok (.invokestatic x, 3))
    (K : ∀ locs', va_S (fun q => base ≤ q) s.heap H locs' → W p l e R s m args below meth c H locs' cells slots Q (F0 m (pc + 3) lsr (v.toList ++ rest))) : W p l e R s m args below meth c H locs cells slots Q (F0 m pc lsr (As.reverse ++ rest)) :=
  rp_jrun (va_runS (As := As) ⟨hx, hb, hml, hown, hts⟩ hM ⟨callB_of n hts (rp_jws hcode) rfl rfl rfl (hts _ hini) (hts _ hlink) hy ⟨hf, hw⟩, hts _ hstat⟩ ⟨rp_jblind, fun U hu hW => ⟨rfl, hE.move hb2 hS hu hW, hb2⟩⟩ rfl hn rfl rfl (lv_room hr) hd ⟨hc, hs⟩) hS K
end
section
variable {l : Launch} {D : va_G} {b base : Nat} {adK adV : Nat → Nat} {cI cZ : ClassId} {sc : rp_Sc}
theorem rp_j2 {k : Nat} (hk : k < 12) : Met l rp_jy2 (rp_jw rp_jy2 prog_12_method_152_code 1 (some .byte)) (rp_jr 0 0) (rp_JP D b base adK adV cI cZ sc [.ref (adK k)]) (rp_Qj (some (.int 0))) 0 0 (fun q => base ≤ q) := by
  refine rp_jmet (by decide) (by simp [lg_sl, Value.category]) ?_
  intro p e s m below meth c ls hx hb hr hlocks hml hown hts hE hb2 hl
  have hS : va_S (fun q => base ≤ q) s.heap s.heap [] := va_S.rf
  refine va_gets hx hb hE.2.2.2.2.2.1 hS hown (hts _ (rp_jin 473 (by decide +kernel) rfl)) (fun _ h => h) (show decode prog_12_method_152_code 0 = .ok (.getstatic 38, 3) by decide +kernel) ?_
  refine lv_if_eq (tgt := 13) hx hb (show decode prog_12_method_152_code 3 = .ok (.ifCond .eq 10, 3) by decide +kernel) (by decide) (fun h => absurd h (by decide)) (fun _ => ?_)
  refine lv_aload_n hx hb (show decode prog_12_method_152_code 6 = .ok (.aload_n 0, 1) by decide +kernel) rfl (lv_at hl 0 rfl) ?_
  refine vk_getf hx hb (hE.2.2.2.2.1.1 k hk).2.1 hS hown (hts _ (rp_jin 1378 (by decide +kernel) rfl)) (fun _ h => h) (show decode prog_12_method_152_code 7 = .ok (.getfield 15, 3) by decide +kernel) ?_
  refine lv_goto (tgt := 14) hx hb (show decode prog_12_method_152_code 10 = .ok (.goto 4, 3) by decide +kernel) (by decide) ?_
  exact W.zret (v := 0) hx hb hr (by decide) (fun t ht hW => ⟨rfl, ht⟩) hS.2.2 (show decode prog_12_method_152_code 14 = .ok (.ireturn, 1) by decide +kernel)
theorem rp_j4 {k : Nat} (hk : k < 12) : Met l rp_jy4 (rp_jw rp_jy4 prog_12_method_154_code 1 (some .boolean)) (rp_jr 0 0) (rp_JP D b base adK adV cI cZ sc [.ref (adK k)]) (rp_Qj (some (.int 1))) 0 0 (fun q => base ≤ q) := by
  refine rp_jmet (by decide) (by simp [lg_sl, Value.category]) ?_
  intro p e s m below meth c ls hx hb hr hlocks hml hown hts hE hb2 hl
  have hS : va_S (fun q => base ≤ q) s.heap s.heap [] := va_S.rf
  refine va_gets hx hb hE.2.2.2.2.2.1 hS hown (hts _ (rp_jin 473 (by decide +kernel) rfl)) (fun _ h => h) (show decode prog_12_method_154_code 0 = .ok (.getstatic 38, 3) by decide +kernel) ?_
  refine lv_if_eq (tgt := 17) hx hb (show decode prog_12_method_154_code 3 = .ok (.ifCond .eq 14, 3) by decide +kernel) (by decide) (fun h => absurd h (by decide)) (fun _ => ?_)
  refine lv_aload_n hx hb (show decode prog_12_method_154_code 6 = .ok (.aload_n 0, 1) by decide +kernel) rfl (lv_at hl 0 rfl) ?_
  refine vk_getf hx hb (hE.2.2.2.2.1.1 k hk).2.1 hS hown (hts _ (rp_jin 1378 (by decide +kernel) rfl)) (fun _ h => h) (show decode prog_12_method_154_code 7 = .ok (.getfield 15, 3) by decide +kernel) ?_
  refine lv_if_ne (tgt := 17) hx hb (show decode prog_12_method_154_code 10 = .ok (.ifCond .ne 7, 3) by decide +kernel) (by decide) (fun h => absurd rfl h) (fun _ => ?_)
  refine lv_iconst (v := 1) hx hb (show decode prog_12_method_154_code 13 = .ok (.iconst 1, 1) by decide +kernel) (by decide) ?_
  refine lv_goto (tgt := 18) hx hb (show decode prog_12_method_154_code 14 = .ok (.goto 4, 3) by decide +kernel) (by decide) ?_
  exact W.zret (v := 1) hx hb hr (by decide) (fun t ht hW => ⟨rfl, ht⟩) hS.2.2 (show decode prog_12_method_154_code 18 = .ok (.ireturn, 1) by decide +kernel)
theorem rp_j7 {y n : Int32} {z : Value} (hz : z = .null ∨ ∃ t, z = .ref t) (h1 : ¬ y < 0) (h2 : y < n) : Met l rp_jy7 (rp_jw rp_jy7 prog_15_method_11_code 3 (some .int)) (rp_jr 0 0) (rp_JP D b base adK adV cI cZ sc [.int y, .int n, z]) (rp_Qj (some (.int y))) 0 0 (fun q => base ≤ q) := by
  have hc : z.category = 1 := by rcases hz with rfl | ⟨t, rfl⟩ <;> rfl
  refine rp_jmet (by decide) (by rcases hz with rfl | ⟨t, rfl⟩ <;> simp [lg_sl, Value.category]) ?_
  intro p e s m below meth c ls hx hb hr hlocks hml hown hts hE hb2 hl
  have hS : va_S (fun q => base ≤ q) s.heap s.heap [] := va_S.rf
  refine lv_iload_n hx hb (show decode prog_15_method_11_code 0 = .ok (.iload_n 0, 1) by decide +kernel) rfl (lv_at hl 0 rfl) ?_
  refine lv_if_lt (tgt := 9) hx hb (show decode prog_15_method_11_code 1 = .ok (.ifCond .lt 8, 3) by decide +kernel) (by decide) (fun h => absurd h h1) (fun _ => ?_)
  refine lv_iload_n hx hb (show decode prog_15_method_11_code 4 = .ok (.iload_n 0, 1) by decide +kernel) rfl (lv_at hl 0 rfl) ?_
  refine lv_iload_n hx hb (show decode prog_15_method_11_code 5 = .ok (.iload_n 1, 1) by decide +kernel) rfl (lv_at hl 1 rfl) ?_
  refine lv_icmp_lt (tgt := 16) hx hb (show decode prog_15_method_11_code 6 = .ok (.if_icmp .lt 10, 3) by decide +kernel) (by decide) (fun _ => ?_) (fun h => absurd h2 h)
  refine lv_iload_n hx hb (show decode prog_15_method_11_code 16 = .ok (.iload_n 0, 1) by decide +kernel) rfl (lv_at hl 0 rfl) ?_
  exact W.iret (v := y) hx hb hr (fun t ht hW => ⟨rfl, ht⟩) hS.2.2 (show decode prog_15_method_11_code 17 = .ok (.ireturn, 1) by decide +kernel)
set_option maxHeartbeats 1000000 in
theorem rp_j6 {y n : Int32} (h1 : ¬ y < 0) (h2 : y < n) : Met l rp_jy6 (rp_jw rp_jy6 prog_12_method_155_code 2 none) (rp_jr 1 22) (rp_JP D b base adK adV cI cZ sc [.int y, .int n]) (rp_Qj none) 0 0 (fun q => base ≤ q) := by
  refine rp_jmet (by decide) (by simp [lg_sl, Value.category]) ?_
  intro p e s m below meth c ls hx hb hr hlocks hml hown hts hE hb2 hl
  have hS : va_S (fun q => base ≤ q) s.heap s.heap [] := va_S.rf
  refine lv_iload_n hx hb (show decode prog_12_method_155_code 0 = .ok (.iload_n 0, 1) by decide +kernel) rfl (lv_at hl 0 rfl) ?_
  refine lv_iload_n hx hb (show decode prog_12_method_155_code 1 = .ok (.iload_n 1, 1) by decide +kernel) rfl (lv_at hl 1 rfl) ?_
  have go : ∀ z : Value, (z = .null ∨ ∃ t, z = .ref t) → W p l e (rp_jr 1 22) s m ([Value.int y, Value.int n] : List Value).toArray below meth c s.heap [] 0 0 (MQ below (rp_Qj none) ([Value.int y, Value.int n] : List Value).toArray s 0 0 (fun q => base ≤ q)) (F0 m (2 + 3) ls (z :: .int n :: .int y :: [])) := by
    intro z hz
    refine rp_jcallS (As := [.int y, .int n, z]) (rest := []) hx hb (hml.trans hl.1.symm) hown hts (rp_j7 hz h1 h2) rp_jc7 (rp_jin 491 (by decide +kernel) rfl) (rp_jin 492 (by decide +kernel) rfl) (rp_jin 91 (by decide +kernel) rfl) (n := 3) ⟨by decide, by decide, by decide +kernel⟩ rfl hE hb2 hS (Nat.le_refl _) (Nat.le_refl _) (Nat.le_refl _) (Nat.le_refl _) (by decide) (show decode prog_12_method_155_code 5 = .ok (.invokestatic 1059, 3) by decide +kernel) (fun locs' hS' => ?_)
    refine lv_pop hx hb (show decode prog_12_method_155_code 8 = .ok (.pop, 1) by decide +kernel) rfl ?_
    exact W.vret hx hb hr (fun t ht hW => ⟨rfl, ht⟩) hS'.2.2 (show decode prog_12_method_155_code 9 = .ok (.return_, 1) by decide +kernel)
  rcases hE.2.2.2.2.2.2.2 with hZ | ⟨t, hZ⟩
  · exact va_gets hx hb hZ hS hown (hts _ (rp_jin 489 (by decide +kernel) rfl)) (fun _ h => h) (show decode prog_12_method_155_code 2 = .ok (.getstatic 1053, 3) by decide +kernel) (go _ (Or.inl rfl))
  · exact va_gets hx hb hZ hS hown (hts _ (rp_jin 489 (by decide +kernel) rfl)) (fun _ h => h) (show decode prog_12_method_155_code 2 = .ok (.getstatic 1053, 3) by decide +kernel) (go _ (Or.inr ⟨t, rfl⟩))
/-- the texts' bytes -/
theorem rp_txs : ∀ k, k < 12 → rp_sl.getD k 0 = (rp_tx k).length ∧ (rp_txl.getD k []) = rp_tx k ∧ (rp_tx k).length < 2 ^ 31 ∧ ∀ j, j < (rp_tx k).length → ((((rp_tx k).getD j 0) &&& 255).toUInt32 % 65536).toInt32 = (rp_tx k).getD j 0 ∧ narrow .char (.int ((rp_tx k).getD j 0)) = .int ((rp_tx k).getD j 0) := by decide +kernel
set_option maxHeartbeats 1000000 in
theorem rp_j5 {k : Nat} (hk : k < 12) {y : Int32} (hy : rp_ix y (rp_tx k).length = true) : Met l rp_jy5 (rp_jw rp_jy5 prog_13_method_2_code 2 (some .char)) (rp_jr 2 43) (rp_JP D b base adK adV cI cZ sc [.ref (adV k), .int y]) (rp_Qj (some (.int ((rp_tx k).getD y.toNatClampNeg 0)))) 0 0 (fun q => base ≤ q) := by
  obtain ⟨t1, t2, t3, t4⟩ := rp_txs k hk
  have hin := rp_ix_in hy
  have hin2 := vp_in_iff.mp hin
  obtain ⟨j, hj, ej⟩ := vp_in_of hin t3
  refine rp_jmet (by decide) (by simp [lg_sl, Value.category]) ?_
  intro p e s m below meth c ls hx hb hr hlocks hml hown hts hE hb2 hl
  have hS : va_S (fun q => base ≤ q) s.heap s.heap [] := va_S.rf
  have hT := (hE.2.2.2.2.1.1 k hk).2.2.2
  rw [t1, t2] at hT
  refine lv_iload_n hx hb (show decode prog_13_method_2_code 0 = .ok (.iload_n 1, 1) by decide +kernel) rfl (lv_at hl 1 rfl) ?_
  refine lv_aload_n hx hb (show decode prog_13_method_2_code 1 = .ok (.aload_n 0, 1) by decide +kernel) rfl (lv_at hl 0 rfl) ?_
  refine va_tlen hx hb hT hS rfl (show decode prog_13_method_2_code 2 = .ok (.arraylength, 1) by decide +kernel) ?_
  have g1 : ¬ y < 0 := by rw [Int32.lt_iff_toInt_lt, Int32.toInt_zero]; omega
  have g2 : y < Int32.ofNat (rp_tx k).length := by rw [ej]; exact nI_lt hj t3
  refine rp_jcallS (As := [.int y, .int (Int32.ofNat (rp_tx k).length)]) (rest := []) hx hb (hml.trans hl.1.symm) hown hts (rp_j6 g1 g2) rp_jc6 (rp_jin 486 (by decide +kernel) rfl) (rp_jin 487 (by decide +kernel) rfl) (rp_jin 89 (by decide +kernel) rfl) (n := 2) ⟨by decide, by decide, by decide +kernel⟩ rfl hE hb2 hS (Nat.le_refl _) (Nat.le_refl _) (Nat.le_refl _) (Nat.le_refl _) (by decide) (show decode prog_13_method_2_code 3 = .ok (.invokestatic 9, 3) by decide +kernel) (fun locs' hS' => ?_)
  refine lv_aload_n hx hb (show decode prog_13_method_2_code 6 = .ok (.aload_n 0, 1) by decide +kernel) rfl (lv_at hl 0 rfl) ?_
  refine lv_iload_n hx hb (show decode prog_13_method_2_code 7 = .ok (.iload_n 1, 1) by decide +kernel) rfl (lv_at hl 1 rfl) ?_
  refine va_tb hx hb hT hS' hin rfl (show decode prog_13_method_2_code 8 = .ok (.baload, 1) by decide +kernel) ?_
  refine lv_sipush (v := 255) hx hb (show decode prog_13_method_2_code 9 = .ok (.sipush 255, 3) by decide +kernel) (by decide) ?_
  refine lv_iand hx hb (show decode prog_13_method_2_code 12 = .ok (.iand, 1) by decide +kernel) ?_
  have hcl : y.toNatClampNeg = j := by rw [ej]; exact nI_clamp (by omega)
  refine lv_i2c (v := (rp_tx k).getD y.toNatClampNeg 0) hx hb (show decode prog_13_method_2_code 13 = .ok (.i2c, 1) by decide +kernel) (by rw [hcl]; exact (t4 j hj).1) ?_
  exact W.zret (v := (rp_tx k).getD y.toNatClampNeg 0) hx hb hr (by rw [hcl]; exact (t4 j hj).2) (fun t ht hW => ⟨rfl, ht⟩) hS'.2.2 (show decode prog_13_method_2_code 14 = .ok (.ireturn, 1) by decide +kernel)
set_option maxHeartbeats 1000000 in
theorem rp_j3 {k : Nat} (hk : k < 12) {y : Int32} (hy : rp_ix y (rp_tx k).length = true) : Met l rp_jy3 (rp_jw rp_jy3 prog_12_method_56_code 2 (some .char)) (rp_jr 3 64) (rp_JP D b base adK adV cI cZ sc [.ref (adK k), .int y]) (rp_Qj (some (.int ((rp_tx k).getD y.toNatClampNeg 0)))) 0 0 (fun q => base ≤ q) := by
  obtain ⟨t1, t2, t3, t4⟩ := rp_txs k hk
  have hin := rp_ix_in hy
  obtain ⟨j, hj, ej⟩ := vp_in_of hin t3
  have hcl : y.toNatClampNeg = j := by rw [ej]; exact nI_clamp (by omega)
  refine rp_jmet (by decide) (by simp [lg_sl, Value.category]) ?_
  intro p e s m below meth c ls hx hb hr hlocks hml hown hts hE hb2 hl
  have hS : va_S (fun q => base ≤ q) s.heap s.heap [] := va_S.rf
  refine lv_aload_n hx hb (show decode prog_12_method_56_code 0 = .ok (.aload_n 0, 1) by decide +kernel) rfl (lv_at hl 0 rfl) ?_
  refine rp_jcallV (As := []) (rest := []) hx hb (hml.trans hl.1.symm) hown hts (rp_j4 hk) rp_jc4 (rp_jin 479 (by decide +kernel) rfl) (rp_jin 480 (by decide +kernel) rfl) (rp_jin 481 (by decide +kernel) rfl) rfl (n := 0) (by decide +kernel) rfl hE hb2 hS hk (by decide) (by decide) (Nat.le_refl _) (Nat.le_refl _) (by decide) (show decode prog_12_method_56_code 1 = .ok (.invokevirtual 492, 3) by decide +kernel) (fun locs' hS' => ?_)
  refine lv_if_eq (tgt := 16) hx hb (show decode prog_12_method_56_code 4 = .ok (.ifCond .eq 12, 3) by decide +kernel) (by decide) (fun h => absurd h (by decide)) (fun _ => ?_)
  refine lv_aload_n hx hb (show decode prog_12_method_56_code 7 = .ok (.aload_n 0, 1) by decide +kernel) rfl (lv_at hl 0 rfl) ?_
  refine vk_getf hx hb (hE.2.2.2.2.1.1 k hk).2.2.1 hS' hown (hts _ (rp_jin 1377 (by decide +kernel) rfl)) (fun _ h => h) (show decode prog_12_method_56_code 8 = .ok (.getfield 9, 3) by decide +kernel) ?_
  refine lv_iload_n hx hb (show decode prog_12_method_56_code 11 = .ok (.iload_n 1, 1) by decide +kernel) rfl (lv_at hl 1 rfl) ?_
  refine rp_jcallS (As := [.ref (adV k), .int y]) (rest := []) hx hb (hml.trans hl.1.symm) hown hts (rp_j5 hk hy) rp_jc5 (rp_jin 483 (by decide +kernel) rfl) (rp_jin 484 (by decide +kernel) rfl) (rp_jin 90 (by decide +kernel) rfl) (n := 2) ⟨by decide, by decide, by decide +kernel⟩ rfl hE hb2 hS' (by decide) (by decide) (Nat.le_refl _) (Nat.le_refl _) (by decide) (show decode prog_12_method_56_code 12 = .ok (.invokestatic 495, 3) by decide +kernel) (fun locs2 hS2 => ?_)
  exact W.zret (v := (rp_tx k).getD y.toNatClampNeg 0) hx hb hr (by rw [hcl]; exact (t4 j hj).2) (fun t ht hW => ⟨rfl, ht⟩) hS2.2.2 (show decode prog_12_method_56_code 15 = .ok (.ireturn, 1) by decide +kernel)
set_option maxHeartbeats 1000000 in
theorem rp_j1 {k : Nat} (hk : k < 12) : Met l rp_jy1 (rp_jw rp_jy1 prog_12_method_54_code 1 (some .int)) (rp_jr 1 20) (rp_JP D b base adK adV cI cZ sc [.ref (adK k)]) (rp_Qj (some (.int (Int32.ofNat (rp_tx k).length)))) 0 0 (fun q => base ≤ q) := by
  obtain ⟨t1, t2, t3, t4⟩ := rp_txs k hk
  refine rp_jmet (by decide) (by simp [lg_sl, Value.category]) ?_
  intro p e s m below meth c ls hx hb hr hlocks hml hown hts hE hb2 hl
  have hS : va_S (fun q => base ≤ q) s.heap s.heap [] := va_S.rf
  have hT := (hE.2.2.2.2.1.1 k hk).2.2.2
  rw [t1] at hT
  refine lv_aload_n hx hb (show decode prog_12_method_54_code 0 = .ok (.aload_n 0, 1) by decide +kernel) rfl (lv_at hl 0 rfl) ?_
  refine vk_getf hx hb (hE.2.2.2.2.1.1 k hk).2.2.1 hS hown (hts _ (rp_jin 1377 (by decide +kernel) rfl)) (fun _ h => h) (show decode prog_12_method_54_code 1 = .ok (.getfield 9, 3) by decide +kernel) ?_
  refine va_tlen hx hb hT hS rfl (show decode prog_12_method_54_code 4 = .ok (.arraylength, 1) by decide +kernel) ?_
  refine lv_aload_n hx hb (show decode prog_12_method_54_code 5 = .ok (.aload_n 0, 1) by decide +kernel) rfl (lv_at hl 0 rfl) ?_
  refine rp_jcallV (As := []) hx hb (hml.trans hl.1.symm) hown hts (rp_j2 hk) rp_jc2 (rp_jin 469 (by decide +kernel) rfl) (rp_jin 470 (by decide +kernel) rfl) (rp_jin 471 (by decide +kernel) rfl) rfl (n := 0) (by decide +kernel) rfl hE hb2 hS hk (by decide) (by decide) (Nat.le_refl _) (Nat.le_refl _) (by show 1 + 0 ≤ 8; decide) (show decode prog_12_method_54_code 6 = .ok (.invokevirtual 335, 3) by decide +kernel) (fun locs' hS' => ?_)
  refine lv_ishr hx hb (show decode prog_12_method_54_code 9 = .ok (.ishr, 1) by decide +kernel) ?_
  have e0 : Int32.ofNat (rp_tx k).length >>> ((0 : Int32) &&& 31) = Int32.ofNat (rp_tx k).length := by
    have := pk_shrN (n := (rp_tx k).length) t3 ((0 : Int32) &&& 31) 0 (by decide)
    rw [Nat.pow_zero, Nat.div_one] at this
    exact this
  rw [e0]
  exact W.iret hx hb hr (fun t ht hW => ⟨rfl, ht⟩) hS'.2.2 (show decode prog_12_method_54_code 10 = .ok (.ireturn, 1) by decide +kernel)
variable {p : Program} {e : Env} {R : Room} {s : State} {m : MethodId} {args : Array Value} {below : List Frame} {meth : Method} {c : Code} {H : Heap} {locs : List Loc} {cells slots : Nat} {Q : State → Prop} {cc : ByteArray} {own : String} {x pc : Nat} {lsr : Array Slot} {rest : List Value}
theorem rp_strlen (hx : p.tables.exec = Jvm.exec) (hb : c.code = cc) (hml : c.maxLocals = lsr.size) (hown : s.vm.findClass own = some m.cls) (hts : ∀ w ∈ rp_gt, w.before args s = true) (hlink : Cond.methodLink own x ⟨"java/lang/String", "length", "()I"⟩ ∈ rp_gt) (hE : rp_EP D b base adK adV cI cZ sc s) (hb2 : b < base) (hS : va_S (fun q => base ≤ q) s.heap H locs) (hf : 4 ≤ R.frames) (hw : 85 ≤ R.locals) (hc : cells ≤ R.cells) (hs : slots ≤ R.slots) {k : Nat} (hk : k < 12) (hr : (rest.map fun v => v.category).sum ≤ 8) (hd : decode cc pc = .ok (.invokevirtual x, 3))
    (K : ∀ locs', va_S (fun q => base ≤ q) s.heap H locs' → W p l e R s m args below meth c H locs' cells slots Q (F0 m (pc + 3) lsr (.int (Int32.ofNat (rp_tx k).length) :: rest))) : W p l e R s m args below meth c H locs cells slots Q (F0 m pc lsr (.ref (adK k) :: rest)) :=
  rp_jcallV (As := []) hx hb hml hown hts (rp_j1 hk) rp_jc1 hlink (rp_jin 466 (by decide +kernel) rfl) (rp_jin 467 (by decide +kernel) rfl) rfl (n := 0) (by decide +kernel) rfl hE hb2 hS hk (by omega) (by omega) hc hs hr hd K
theorem rp_strchar (hx : p.tables.exec = Jvm.exec) (hb : c.code = cc) (hml : c.maxLocals = lsr.size) (hown : s.vm.findClass own = some m.cls) (hts : ∀ w ∈ rp_gt, w.before args s = true) (hlink : Cond.methodLink own x ⟨"java/lang/String", "charAt", "(I)C"⟩ ∈ rp_gt) (hE : rp_EP D b base adK adV cI cZ sc s) (hb2 : b < base) (hS : va_S (fun q => base ≤ q) s.heap H locs) (hf : 4 ≤ R.frames) (hw : 85 ≤ R.locals) (hc : cells ≤ R.cells) (hs : slots ≤ R.slots) {k : Nat} (hk : k < 12) {y : Int32} (hy : rp_ix y (rp_tx k).length = true) (hr : (rest.map fun v => v.category).sum ≤ 8) (hd : decode cc pc = .ok (.invokevirtual x, 3))
    (K : ∀ locs', va_S (fun q => base ≤ q) s.heap H locs' → W p l e R s m args below meth c H locs' cells slots Q (F0 m (pc + 3) lsr (.int ((rp_tx k).getD y.toNatClampNeg 0) :: rest))) : W p l e R s m args below meth c H locs cells slots Q (F0 m pc lsr (.int y :: .ref (adK k) :: rest)) :=
  rp_jcallV (As := [.int y]) hx hb hml hown hts (rp_j3 hk hy) rp_jc3 hlink (rp_jin 476 (by decide +kernel) rfl) (rp_jin 477 (by decide +kernel) rfl) rfl (n := 1) (by decide +kernel) rfl hE hb2 hS hk (by omega) (by omega) hc hs hr hd K
end
end
section
theorem rp_lk_mem {pc : Nat} {q : Instr × Nat × rp_In} : ∀ {l : List rp_En}, rp_lk pc l = some q → (pc, q) ∈ l := by
  intro l
  induction l with
  | nil => intro h; cases h
  | cons e r ih =>
    intro h
    unfold rp_lk at h
    cases hb : Nat.beq e.1 pc with
    | true =>
      rw [hb] at h
      have hb := Nat.eq_of_beq_eq_true hb
      cases h
      rw [← hb]
      exact List.mem_cons_self
    | false =>
      rw [hb] at h
      exact List.mem_cons_of_mem _ (ih h)
def rp_ws (j : Nat) : List Cond := Cond.code (rp_mt j).1 (rp_mt j).2.1 (rp_mt j).2.2.1 (rp_mt j).2.2.2.1 :: rp_gt
def rp_rm (j : Nat) : Room := { frames := (rp_mt j).2.2.2.2.2.1, cells := (rp_mt j).2.2.2.2.2.2.2.1, slots := (rp_mt j).2.2.2.2.2.2.2.2, locals := (rp_mt j).2.2.2.2.2.2.1 }
theorem rp_ws_good {j : Nat} (h : rp_MF j) : GoodIn rp_gt (rp_ws j) := fun w hw => (List.mem_cons.mp hw).elim (fun e => e ▸ rp_gt_good _ h.1) (rp_gt_good w)
def rp_Cx (D : va_G) (b base : Nat) (adK adV : Nat → Nat) (cI cZ : ClassId) (sc : rp_Sc) (j : Nat) (p : Program) (R : Room) (s : State) (m : MethodId) (args : Array Value) (meth : Method) (c : Code) : Prop :=
  p.tables.exec = Jvm.exec ∧ c.code = (rp_mt j).2.1 ∧ c.maxLocals = (rp_mt j).2.2.1 ∧ s.vm.findClass (rp_cn (rp_mt j).2.2.2.2.1) = some m.cls ∧ (∀ w ∈ rp_gt, w.before args s = true) ∧ ((rp_mt j).1.name = "<init>" → meth.name = "<init>") ∧ ((rp_mt j).2.2.2.2.2.1 ≤ R.frames ∧ (rp_mt j).2.2.2.2.2.2.1 ≤ R.locals ∧ (rp_mt j).2.2.2.2.2.2.2.1 ≤ R.cells ∧ (rp_mt j).2.2.2.2.2.2.2.2 ≤ R.slots) ∧ rp_EP D b base adK adV cI cZ sc s ∧ b < base ∧ base ≤ s.heap.size
/-- from a state of the small machine that comes to x in n steps, the real one comes to a return with x -/
def rp_Sim (l : Launch) (D : va_G) (b base : Nat) (adK adV : Nat → Nat) (cI cZ : ClassId) (sc : rp_Sc) (n : Nat) : Prop :=
  ∀ (j uc us pc : Nat) (ls st : List Value) (h : rp_Hp) (x : rp_Rs), j < 228 → rp_run rp_mt rp_mi rp_cf rp_tx sc n (j, uc, us, pc, ls, st, h) = some x →
    ∀ (p : Program) (e : Env) (R : Room) (s : State) (m : MethodId) (args : Array Value) (below : List Frame) (meth : Method) (c : Code) (H : Heap) (locs : List Loc) (lsr : Array Slot) (Q : State → Prop), rp_Cx D b base adK adV cI cZ sc j p R s m args meth c → rp_RL (rp_ph b base adK) (rp_mt j).2.2.1 ls lsr → rp_HR D base (rp_ph b base adK) cI cZ h H → va_S (fun q => base ≤ q) s.heap H locs → uc ≤ (rp_mt j).2.2.2.2.2.2.2.1 → us ≤ (rp_mt j).2.2.2.2.2.2.2.2 →
      (∀ (pc' : Nat) (lsr' : Array Slot) (H' : Heap) (locs' : List Loc) (st' : List Value) (I : Instr) (n' : Nat) (i' : rp_In), rp_lk pc' (rp_mi j) = some (I, n', i') → decode (rp_mt j).2.1 pc' = .ok (I, n') → n' = 1 → rp_ret (rp_mt j).2.2.2.1 I st' = some x.1 → rp_HR D base (rp_ph b base adK) cI cZ x.2 H' → va_S (fun q => base ≤ q) s.heap H' locs' → W p l e R s m args below meth c H' locs' (rp_mt j).2.2.2.2.2.2.2.1 (rp_mt j).2.2.2.2.2.2.2.2 Q (F0 m pc' lsr' (st'.map (rp_vm (rp_ph b base adK))))) →
      W p l e R s m args below meth c H locs uc us Q (F0 m pc lsr (st.map (rp_vm (rp_ph b base adK))))
section
variable {l : Launch} {D : va_G} {b base : Nat} {adK adV : Nat → Nat} {cI cZ : ClassId} {sc : rp_Sc}
set_option maxHeartbeats 4000000 in
theorem rp_met {n : Nat} (hs : rp_Sim l D b base adK adV cI cZ sc n) (hb2 : b < base) {k : Nat} {vs : List Value} {h : rp_Hp} {x : rp_Rs} (hk : k < 227) (hlen : (rp_ex vs).length ≤ (rp_mt k).2.2.1) (hrun : rp_run rp_mt rp_mi rp_cf rp_tx sc n (k, 0, 0, 0, rp_en (rp_mt k).2.2.1 vs, [], h) = some x) :
    Met l (rp_mt k).1 (rp_ws k) (rp_rm k) (va_Pc (vs.map (rp_vm (rp_ph b base adK))) (fun U => rp_EP D b base adK adV cI cZ sc U ∧ rp_HR D base (rp_ph b base adK) cI cZ h U.heap ∧ base ≤ U.heap.size)) (rp_Qc D base (rp_ph b base adK) cI cZ x.1 x.2) (rp_mt k).2.2.2.2.2.2.2.1 (rp_mt k).2.2.2.2.2.2.2.2 (fun q => base ≤ q) := by
  have hMF := rp_MFs k hk
  refine Met.ofW (cc := (rp_mt k).2.1) (maxL := (rp_mt k).2.2.1) (ret := (rp_mt k).2.2.2.1) hMF.2.2.2.1 rfl ?_
  intro p e s m args below meth c s₁ B hml hv
  obtain ⟨rfl, hEP, hHR, hbs⟩ := hv
  have hx := B.exec
  have hb := B.bytes
  have hr := B.returns
  have hts0 := atoms_spec (ws := rp_ws k) B.pre
  have hts : ∀ w ∈ rp_gt, w.before _ s = true := fun w hw => hts0 w (List.mem_cons_of_mem _ hw)
  have hown : s.vm.findClass (rp_mt k).1.cls = some m.cls := findClass_of_methodNamed B.named
  have hlocks := B.notSynchronized
  have hin : meth.name = (rp_mt k).1.name := (name_of_methodNamed B.named B.method).1
  rw [hMF.2.2.1] at hown
  rw [lg_entry_eq]
  refine hs k 0 0 0 _ [] h x (by omega) hrun p e _ s m _ below meth c s.heap [] _ _ ⟨hx, hb, hml, hown, hts, fun e => hin.trans e, ⟨Nat.le_refl _, Nat.le_refl _, Nat.le_refl _, Nat.le_refl _⟩, hEP, hb2, hbs⟩ (rp_RL_entry _ vs hlen) hHR va_S.rf (Nat.zero_le _) (Nat.zero_le _) ?_
  intro pc' lsr' H' locs' st' I n' i' hl hd hn1 hret hH' hS'
  subst hn1
  unfold rp_ret at hret
  split at hret
  next =>
    split at hret
    next v =>
      split at hret
      next ht =>
        rw [ht] at hr
        have hx1 := Option.some.inj hret
        exact W.iret (v := v) hx hb hr (fun t ht hW => ⟨by rw [← hx1]; rfl, by rw [ht]; exact hH', hS'.F ht⟩) hS'.2.2 hd
      next ht =>
        rw [ht] at hr
        cases hz : decide (v &&& 1 = v) with
        | false => rw [hz] at hret; cases hret
        | true =>
          rw [hz] at hret
          have hx1 := Option.some.inj hret
          have hnar : narrow .boolean (.int v) = .int v := by rcases rp_and1 (of_decide_eq_true hz) with rfl | rfl <;> decide
          exact W.zret (v := v) hx hb hr hnar (fun t ht hW => ⟨by rw [← hx1]; rfl, by rw [ht]; exact hH', hS'.F ht⟩) hS'.2.2 hd
      next => cases hret
    next => cases hret
  next =>
    split at hret
    next a =>
      split at hret
      next cn ht =>
        rw [ht] at hr
        have hx1 := Option.some.inj hret
        exact W.aret (v := .ref (rp_ph b base adK a)) hx hb hr (Or.inl ⟨cn, rfl⟩) (Or.inr ⟨_, rfl⟩) (fun t ht hW => ⟨by rw [← hx1]; rfl, by rw [ht]; exact hH', hS'.F ht⟩) hS'.2.2 hd
      next => cases hret
    next => cases hret
  next =>
    split at hret
    next =>
      split at hret
      next ht =>
        rw [ht] at hr
        have hx1 := Option.some.inj hret
        exact W.vret hx hb hr (fun t ht hW => ⟨by rw [← hx1]; rfl, by rw [ht]; exact hH', hS'.F ht⟩) hS'.2.2 hd
      next => cases hret
    next => cases hret
  next => cases hret
theorem rp_blind {vs : List Value} {h : rp_Hp} : FrameBlind (va_Pc vs (fun U => rp_EP D b base adK adV cI cZ sc U ∧ rp_HR D base (rp_ph b base adK) cI cZ h U.heap ∧ base ≤ U.heap.size)) := fun a U g mk q => ⟨q.1, q.2.1.blind g mk a, q.2.2.1, q.2.2.2⟩
theorem rp_libc0 : Cond.instanceMethod objectInit ∈ rp_gt ∧ Cond.code objectInit ⟨#[0xb1]⟩ 1 none ∈ rp_gt := ⟨rp_gt_of 99 (by decide +kernel) rfl, rp_gt_of 100 (by decide +kernel) rfl⟩
theorem rp_libc1 : Cond.static Lib.Math.max.name ∈ rp_gt ∧ Cond.initialized "java/lang/Math" ∈ rp_gt ∧ Cond.code Lib.Math.max.name Lib.Math.max.code 2 (some .int) ∈ rp_gt := ⟨rp_gt_of 114 (by decide +kernel) rfl, rp_gt_of 82 (by decide +kernel) rfl, rp_gt_of 115 (by decide +kernel) rfl⟩
theorem rp_libc2 : Cond.static Lib.Math.min.name ∈ rp_gt ∧ Cond.code Lib.Math.min.name Lib.Math.min.code 2 (some .int) ∈ rp_gt := ⟨rp_gt_of 435 (by decide +kernel) rfl, rp_gt_of 436 (by decide +kernel) rfl⟩
theorem rp_hasC_of {a b c : Nat} {ks : Nat → Bool} (h : rp_hasC a b c ks = true) : ∃ q ∈ rp_ct, q.1 = a ∧ q.2.1 = b ∧ q.2.2.1 = c ∧ ks q.2.2.2.1 = true ∧ rp_ctb q = true := by
  obtain ⟨q, hq, h2⟩ := List.any_eq_true.mp h
  simp only [Bool.and_eq_true, Nat.beq_eq] at h2
  exact ⟨q, hq, h2.1, h2.2.1, h2.2.2.1, h2.2.2.2, List.all_eq_true.mp rp_ct_ok q hq⟩
set_option maxHeartbeats 4000000 in
theorem rp_simL {j : Nat} {p : Program} {e : Env} {R : Room} {s : State} {m : MethodId} {args : Array Value} {below : List Frame} {meth : Method} {c : Code} {H : Heap} {locs : List Loc} {cells slots : Nat} {Q : State → Prop} (C : rp_Cx D b base adK adV cI cZ sc j p R s m args meth c) (hS : va_S (fun q => base ≤ q) s.heap H locs) (hc : cells ≤ R.cells) (hs : slots ≤ R.slots)
    {pc n : Nat} {I : Instr} {i : rp_In} {st st' : List Value} {lsr : Array Slot} (hsz : lsr.size = (rp_mt j).2.2.1) (hok : rp_okE j (pc, I, n, i) = true) (hd : decode (rp_mt j).2.1 pc = .ok (I, n)) (hI : rp_isCall I = true) (h5 : Nat.ble 5000 i.1 = true) (hcat : Nat.ble (rp_cat (st.drop i.2.1)) 8 = true) (hp : rp_lib rp_tx i.1 st = some st')
    (K : ∀ locs', va_S (fun q => base ≤ q) s.heap H locs' → W p l e R s m args below meth c H locs' cells slots Q (F0 m (pc + n) lsr (st'.map (rp_vm (rp_ph b base adK))))) : W p l e R s m args below meth c H locs cells slots Q (F0 m pc lsr (st.map (rp_vm (rp_ph b base adK)))) := by
  obtain ⟨hx, hb, hml, hown, hts, hmn, ⟨hR1, hR2, hR3, hR4⟩, hEP, hb2, hbs⟩ := C
  have hml2 : c.maxLocals = lsr.size := hml.trans hsz.symm
  have hph : ∀ k, rp_ph b base adK (1000 + k) = adK k := fun k => by
    unfold rp_ph
    rw [if_neg (by omega), if_neg (by omega), show 1000 + k - 1000 = k by omega]
  unfold rp_isCall at hI
  split at hI
  next x =>
    simp only [rp_okE, h5, cond_true, Bool.and_eq_true, Nat.beq_eq] at hok
    obtain ⟨rfl, h1, h2, h3, h4⟩ := hok
    have h2 := Nat.le_of_ble_eq_true h2
    obtain ⟨q, hq, q1, q2, q3, q4, q5⟩ := rp_hasC_of h1
    have q4 := Nat.eq_of_beq_eq_true q4
    unfold rp_ctb at q5
    rw [← q4] at q5
    simp only [Bool.and_eq_true, decide_eq_true_eq] at q5
    obtain ⟨w1, w2, w3⟩ := q5
    have hw := rp_gt_of _ w1 rfl
    rw [q1, q2, q3] at hw
    rw [q3] at w3
    simp only [rp_lok, Bool.and_eq_true] at h3
    have r1 := Nat.le_trans (Nat.le_of_ble_eq_true h3.1) hR1
    have r2 := Nat.le_trans (Nat.le_of_ble_eq_true h3.2) hR2
    have hi : i.1 = 5003 ∨ i.1 = 5004 := by omega
    rcases hi with hi | hi
    · rw [hi] at hp hw h4
      replace hp : (match (generalizing := false) st with
        | .ref a :: r => bif Nat.ble 1000 a && Nat.blt a 1012 then some (.int (Int32.ofNat (rp_tx (a - 1000)).length) :: r) else none
        | _ => none) = some st' := hp
      split at hp
      next a r =>
        rw [h4] at hcat
        cases hg : (Nat.ble 1000 a && Nat.blt a 1012) with
        | false => rw [hg] at hp; cases hp
        | true =>
          rw [hg] at hp
          simp only [Bool.and_eq_true] at hg
          obtain ⟨k, rfl⟩ : ∃ k : Nat, a = 1000 + k := Nat.exists_eq_add_of_le (Nat.le_of_ble_eq_true hg.1)
          have hk2 : 1000 + k < 1012 := Nat.le_of_ble_eq_true hg.2
          have e1 : 1000 + k - 1000 = k := by omega
          cases hp
          show W p l e R s m args below meth c H locs cells slots Q (F0 m pc lsr (.ref (rp_ph b base adK (1000 + k)) :: List.map (rp_vm (rp_ph b base adK)) _))
          rw [hph]
          refine rp_strlen hx hb hml2 hown hts hw hEP hb2 hS r1 r2 hc hs (k := k) (by omega) (by rw [rp_cat_sum]; exact Nat.le_of_ble_eq_true hcat) hd (fun locs' hS' => ?_)
          have := K locs' hS'
          rw [List.map_cons, e1] at this
          exact this
      next => cases hp
    · rw [hi] at hp hw h4
      replace hp : (match (generalizing := false) st with
        | .int x :: .ref a :: r => bif Nat.ble 1000 a && Nat.blt a 1012 && rp_ix x (rp_tx (a - 1000)).length then some (.int ((rp_tx (a - 1000)).getD x.toNatClampNeg 0) :: r) else none
        | _ => none) = some st' := hp
      split at hp
      next y a r =>
        rw [h4] at hcat
        cases hg : (Nat.ble 1000 a && Nat.blt a 1012 && rp_ix y (rp_tx (a - 1000)).length) with
        | false => rw [hg] at hp; cases hp
        | true =>
          rw [hg] at hp
          simp only [Bool.and_eq_true] at hg
          obtain ⟨k, rfl⟩ : ∃ k : Nat, a = 1000 + k := Nat.exists_eq_add_of_le (Nat.le_of_ble_eq_true hg.1.1)
          have hk2 : 1000 + k < 1012 := Nat.le_of_ble_eq_true hg.1.2
          have e1 : 1000 + k - 1000 = k := by omega
          have hg2 : rp_ix y (rp_tx k).length = true := by have := hg.2; rw [e1] at this; exact this
          cases hp
          show W p l e R s m args below meth c H locs cells slots Q (F0 m pc lsr (.int y :: .ref (rp_ph b base adK (1000 + k)) :: List.map (rp_vm (rp_ph b base adK)) _))
          rw [hph]
          refine rp_strchar hx hb hml2 hown hts hw hEP hb2 hS r1 r2 hc hs (k := k) (by omega) hg2 (by rw [rp_cat_sum]; exact Nat.le_of_ble_eq_true hcat) hd (fun locs' hS' => ?_)
          have := K locs' hS'
          rw [List.map_cons, e1] at this
          exact this
      next => cases hp
  next x =>
    simp only [rp_okE, h5, cond_true, Bool.and_eq_true, Nat.beq_eq, Bool.or_eq_true] at hok
    obtain ⟨rfl, h1, h2, h3, h4⟩ := hok
    obtain ⟨q, hq, q1, q2, q3, q4, q5⟩ := rp_hasC_of h1
    have q4 := Nat.eq_of_beq_eq_true q4
    unfold rp_ctb at q5
    rw [← q4] at q5
    simp only [Bool.and_eq_true, decide_eq_true_eq] at q5
    obtain ⟨w1, w2, w3⟩ := q5
    have hw := rp_gt_of _ w1 rfl
    rw [q1, q2, q3] at hw
    simp only [rp_lok, Bool.and_eq_true] at h3
    have r1 := Nat.le_trans (Nat.le_of_ble_eq_true h3.1) hR1
    have r2 := Nat.le_trans (Nat.le_of_ble_eq_true h3.2) hR2
    rw [h4] at hcat
    rcases h2 with hi | hi
    · rw [hi] at hp hw
      replace hp : (match (generalizing := false) st with
        | .int y :: .int x :: r => some (.int (if x < y then y else x) :: r)
        | _ => none) = some st' := hp
      split at hp
      next y z r =>
        cases hp
        have hcat := Nat.le_of_ble_eq_true hcat
        exact va_mmax hx hb hml2 hown (hts _ hw) (hts _ rp_libc1.1) (hts _ rp_libc1.2.1) (hts _ rp_libc1.2.2) r1 (by rw [rp_cat_sum]; exact Nat.le_trans (Nat.add_le_add_right hcat 13) r2) hc hs hd (K locs hS)
      next => cases hp
    · rw [hi] at hp hw
      replace hp : (match (generalizing := false) st with
        | .int y :: .int x :: r => some (.int (if y < x then y else x) :: r)
        | _ => none) = some st' := hp
      split at hp
      next y z r =>
        cases hp
        have hcat := Nat.le_of_ble_eq_true hcat
        exact va_mmin hx hb hml2 hown (hts _ hw) (hts _ rp_libc2.1) (hts _ rp_libc1.2.1) (hts _ rp_libc2.2) r1 (by rw [rp_cat_sum]; exact Nat.le_trans (Nat.add_le_add_right hcat 13) r2) hc hs hd (K locs hS)
      next => cases hp
  next x =>
    simp only [rp_okE, h5, cond_true, Bool.and_eq_true, Nat.beq_eq] at hok
    obtain ⟨rfl, h1, hi, h3, h4⟩ := hok
    obtain ⟨q, hq, q1, q2, q3, q4, q5⟩ := rp_hasC_of h1
    have q4 := Nat.eq_of_beq_eq_true q4
    unfold rp_ctb at q5
    rw [← q4] at q5
    simp only [Bool.and_eq_true, decide_eq_true_eq] at q5
    obtain ⟨w1, w2, w3⟩ := q5
    have hw := rp_gt_of _ w1 rfl
    rw [q1, q2, q3] at hw
    simp only [rp_lok, Bool.and_eq_true] at h3
    have r1 := Nat.le_trans (Nat.le_of_ble_eq_true h3.1) hR1
    have r2 := Nat.le_trans (Nat.le_of_ble_eq_true h3.2) hR2
    rw [h4] at hcat
    rw [hi] at hp hw
    replace hp : (match (generalizing := false) st with
      | .ref _ :: r => some r
      | _ => none) = some st' := hp
    split at hp
    next a r =>
      cases hp
      have hcat := Nat.le_of_ble_eq_true hcat
      refine W.objInit hx hb hown (hts _ hw) (hts _ rp_libc0.1) (hts _ rp_libc0.2) rfl hml2.symm rfl hd r1 (by show 2 * 0 + _ + 12 ≤ _; rw [rp_cat_sum]; have : rp_cat st' ≤ 8 := hcat; omega) (K locs hS)
    next => cases hp
  next => cases hI
end
end
section
theorem rp_make_inl {I : Instr} {k j uc us pc : Nat} {i : rp_In} {ls st : List Value} {h : rp_Hp} {q : rp_St} (hq : rp_make rp_mt rp_cf I k i j uc us pc ls st h = some q) : ∃ t, q = .inl t := by
  have bf : ∀ {c : Bool} {a : rp_As}, (bif c then some (Sum.inl a : rp_St) else none) = some q → ∃ t, q = .inl t := by
    intro c a h
    cases c with
    | false => cases h
    | true => exact ⟨a, (Option.some.inj h).symm⟩
  unfold rp_make at hq
  split at hq
  next => exact bf hq
  next =>
    split at hq
    next x r =>
      cases hz : (rp_ix x 100000 && (Nat.ble (uc + 1) (rp_mt j).2.2.2.2.2.2.2.1 && (Nat.ble (us + x.toNatClampNeg) (rp_mt j).2.2.2.2.2.2.2.2 && Nat.blt h.1.length 999))) with
      | false => rw [hz] at hq; cases hq
      | true =>
        rw [hz] at hq
        simp only [cond_true] at hq
        split at hq
        all_goals first | exact ⟨_, (Option.some.inj hq).symm⟩ | cases hq
    next => cases hq
  next => cases hq
theorem rp_recv_obj {I : Instr} {h : rp_Hp} {k : Nat} {vs : List Value} (hI : ∀ x, I ≠ .invokestatic x) (hr : rp_recv I h k vs = true) : ∃ (a : Nat) (fs : List (Option Value)) (As : List Value), vs = .ref (a + 1) :: As ∧ h.1[a + 1]? = some (.inr (k, fs)) := by
  unfold rp_recv at hr
  split at hr
  next x => exact absurd rfl (hI x)
  next =>
    split at hr
    next a As =>
      split at hr
      next ci fs hcell =>
        simp only [Bool.and_eq_true, Nat.beq_eq] at hr
        obtain ⟨rfl, rc2⟩ := hr
        have rc2 : 0 < a := Nat.le_of_ble_eq_true rc2
        obtain ⟨a1, rfl⟩ : ∃ a1 : Nat, a = a1 + 1 := ⟨Nat.pred a, (Nat.succ_pred_eq_of_pos rc2).symm⟩
        exact ⟨a1, fs, As, rfl, hcell⟩
      next => cases hr
    next => cases hr
section
variable {l : Launch} {D : va_G} {b base : Nat} {adK adV : Nat → Nat} {cI cZ : ClassId} {sc : rp_Sc}
set_option maxHeartbeats 4000000 in
theorem rp_simC {j : Nat} {p : Program} {e : Env} {R : Room} {s : State} {m : MethodId} {args : Array Value} {below : List Frame} {meth : Method} {c : Code} {H : Heap} {locs : List Loc} {uc us : Nat} {Q : State → Prop} (C : rp_Cx D b base adK adV cI cZ sc j p R s m args meth c) {h h1 : rp_Hp} {r : Option Value} (hH : rp_HR D base (rp_ph b base adK) cI cZ h H) (hS : va_S (fun q => base ≤ q) s.heap H locs)
    {pc n nf : Nat} {I : Instr} {i : rp_In} {st : List Value} {lsr : Array Slot} (hsz : lsr.size = (rp_mt j).2.2.1) (hok : rp_okE j (pc, I, n, i) = true) (hd : decode (rp_mt j).2.1 pc = .ok (I, n)) (hI : rp_isCall I = true) (h5 : Nat.ble 5000 i.1 = false) (hg : rp_cg rp_mt i j uc us st = true) (hrc : rp_recv I h (rp_mt i.1).2.2.2.2.1 (st.take i.2.1).reverse = true)
    (hs : rp_Sim l D b base adK adV cI cZ sc nf) (hrun : rp_run rp_mt rp_mi rp_cf rp_tx sc nf (i.1, 0, 0, 0, rp_en (rp_mt i.1).2.2.1 (st.take i.2.1).reverse, [], h) = some (r, h1))
    (K : ∀ H' locs', rp_HR D base (rp_ph b base adK) cI cZ h1 H' → va_S (fun q => base ≤ q) s.heap H' locs' → W p l e R s m args below meth c H' locs' (uc + (rp_mt i.1).2.2.2.2.2.2.2.1) (us + (rp_mt i.1).2.2.2.2.2.2.2.2) Q (F0 m (pc + 3) lsr ((r.toList ++ st.drop i.2.1).map (rp_vm (rp_ph b base adK))))) : W p l e R s m args below meth c H locs uc us Q (F0 m pc lsr (st.map (rp_vm (rp_ph b base adK)))) := by
  obtain ⟨hx, hb, hml, hown, hts, hmn, ⟨hR1, hR2, hR3, hR4⟩, hEP, hb2, hbs⟩ := C
  simp only [rp_cg, Bool.and_eq_true] at hg
  obtain ⟨g1, g2, g3, g4, g5⟩ := hg
  have g1 := Nat.le_of_ble_eq_true g1
  have g2 := Nat.le_of_ble_eq_true g2
  have g3 := Nat.le_of_ble_eq_true g3
  have g4 := Nat.le_trans (Nat.le_of_ble_eq_true g4) hR3
  have g5 := Nat.le_trans (Nat.le_of_ble_eq_true g5) hR4
  generalize hvs : (st.take i.2.1).reverse = vs at *
  have hlv : vs.length = i.2.1 := by rw [← hvs]; simp; omega
  have hst : st = vs.reverse ++ st.drop i.2.1 := by rw [← hvs, List.reverse_reverse, List.take_append_drop]
  have hstm : st.map (rp_vm (rp_ph b base adK)) = (vs.map (rp_vm (rp_ph b base adK))).reverse ++ (st.drop i.2.1).map (rp_vm (rp_ph b base adK)) := by
    conv => lhs; rw [hst]
    rw [List.map_append, List.map_reverse]
  have hroom : 2 * (F0 m pc lsr (st.map (rp_vm (rp_ph b base adK)))).monitorRoom + (((st.drop i.2.1).map (rp_vm (rp_ph b base adK))).map fun v => v.category).sum ≤ 8 := lv_room (by rw [rp_cat_sum]; exact g3)
  have hbH : base ≤ H.size := by rw [hH.2.2.1]; omega
  have hU : ∀ U : State, U.heap = H → s.WarmedH U.vm → rp_EP D b base adK adV cI cZ sc U ∧ rp_HR D base (rp_ph b base adK) cI cZ h U.heap ∧ base ≤ U.heap.size := fun U hU hW => ⟨hEP.move hb2 hS hU hW, by rw [hU]; exact hH, by rw [hU]; exact hbH⟩
  have fin : ∀ {a : Array Value}, va_Run p l e R s m args below meth c H locs uc us (rp_mt i.1).2.2.2.2.2.2.2.1 (rp_mt i.1).2.2.2.2.2.2.2.2 (F0 m pc lsr (st.map (rp_vm (rp_ph b base adK)))) ((st.drop i.2.1).map (rp_vm (rp_ph b base adK))) (rp_Qc D base (rp_ph b base adK) cI cZ r h1 a) (fun q => base ≤ q) → W p l e R s m args below meth c H locs uc us Q (F0 m pc lsr (st.map (rp_vm (rp_ph b base adK)))) := by
    intro a hrun
    refine rp_runW hrun hS fun H1 locs1 hH1 hS1 => ?_
    have := K H1 locs1 hH1 hS1
    rw [List.map_append] at this
    have e : (Option.map (rp_vm (rp_ph b base adK)) r).toList = r.toList.map (rp_vm (rp_ph b base adK)) := by cases r <;> rfl
    rw [e]
    exact this
  unfold rp_isCall at hI
  split at hI
  next x =>
    simp only [rp_okE, h5, cond_false, Bool.and_eq_true, Nat.beq_eq] at hok
    obtain ⟨rfl, o1, o2, o3⟩ := hok
    obtain ⟨q, hq, q1, q2, q3, q4, q5⟩ := rp_hasC_of o1
    have q4 := Nat.eq_of_beq_eq_true q4
    unfold rp_ctb at q5
    rw [← q4] at q5
    simp only [Bool.and_eq_true, decide_eq_true_eq] at q5
    obtain ⟨w1, w2, w3, w4⟩ := q5
    have hw1 := rp_gt_of _ w1 rfl
    have hw2 := rp_gt_of _ w2 rfl
    have hw3 := rp_gt_of _ w3 rfl
    rw [q1, q2, q3] at hw1
    rw [q3] at hw2 hw3 w4
    have hMF := rp_MFs i.1 w4
    simp only [rp_rok, Bool.and_eq_true] at o2
    have r1 := Nat.le_trans (Nat.le_of_ble_eq_true o2.1) hR1
    have r2 := Nat.le_trans (Nat.le_of_ble_eq_true o2.2) hR2
    have hM := rp_met hs hb2 w4 g2 hrun
    obtain ⟨a1, fs, As, rfl, hcell⟩ := rp_recv_obj (fun _ h => by cases h) hrc
    have hsm : rp_ph b base adK (a1 + 1) = base + a1 := rp_ph_in (Nat.lt_of_lt_of_le (List.getElem?_eq_some_iff.mp hcell).1 hH.2.1)
    have he := rp_wd_at (base := base) (φ := rp_ph b base adK) (cI := cI) (cZ := cZ) hcell
    have hC := rp_CFs _ hMF.2.2.2.2.2
    have hrec := va_recv hEP.1 hH.2.2.2 hC.1 he
    have hn : (As.map (rp_vm (rp_ph b base adK))).length = (rp_mq.getD i.1 (0, 0, 0, 0)).2.2.2 := by
      rw [List.length_map]
      simp only [List.length_cons] at hlv
      omega
    have hstk : (F0 m pc lsr (st.map (rp_vm (rp_ph b base adK)))).stack = (As.map (rp_vm (rp_ph b base adK))).reverse ++ .ref (base + a1) :: (st.drop i.2.1).map (rp_vm (rp_ph b base adK)) := by
      show st.map _ = _
      rw [hstm, List.map_cons, List.reverse_cons, List.append_assoc]
      show _ ++ ([Value.ref (rp_ph b base adK (a1 + 1))] ++ _) = _
      rw [hsm]
      rfl
    refine fin (va_runV (C := (rp_mt i.1).1.cls) (b := base + a1) (As := As.map (rp_vm (rp_ph b base adK))) ⟨hx, hb, hml, hown, hts⟩ hM ⟨callB_of _ hts (rp_ws_good hMF) rfl rfl rfl (hts _ hMF.2.1) (hts _ hw1) hMF.2.2.2.2.1 ⟨r1, r2⟩, hts _ hw2, hts _ hw3⟩ ⟨rp_blind, ?_, ?_⟩ rfl hn hsz hstk hroom hd ⟨g4, g5⟩)
    · rw [hMF.2.2.1]; exact hrec
    · intro U hu hW
      exact ⟨by rw [List.map_cons]; show _ = (Value.ref (rp_ph b base adK (a1 + 1)) :: _).toArray; rw [hsm], hU U hu hW⟩
  next x =>
    simp only [rp_okE, h5, cond_false, Bool.and_eq_true, Nat.beq_eq] at hok
    obtain ⟨rfl, o1, o2, o3⟩ := hok
    obtain ⟨q, hq, q1, q2, q3, q4, q5⟩ := rp_hasC_of o1
    simp only [Bool.or_eq_true, Nat.beq_eq] at q4
    simp only [rp_rok, Bool.and_eq_true] at o2
    have r1 := Nat.le_trans (Nat.le_of_ble_eq_true o2.1) hR1
    have r2 := Nat.le_trans (Nat.le_of_ble_eq_true o2.2) hR2
    have hn : (vs.map (rp_vm (rp_ph b base adK))).length = (rp_mq.getD i.1 (0, 0, 0, 0)).2.2.2 := by rw [List.length_map, hlv, o3]
    rcases q4 with q4 | q4
    · unfold rp_ctb at q5
      rw [q4] at q5
      simp only [Bool.and_eq_true, decide_eq_true_eq] at q5
      obtain ⟨w1, w2, w4⟩ := q5
      have hw1 := rp_gt_of _ w1 rfl
      have hw2 := rp_gt_of _ w2 rfl
      rw [q1, q2, q3] at hw1
      rw [q3] at hw2 w4
      have hMF := rp_MFs i.1 w4
      have hM := rp_met hs hb2 w4 g2 hrun
      exact fin (va_runS (As := vs.map (rp_vm (rp_ph b base adK))) ⟨hx, hb, hml, hown, hts⟩ hM ⟨callB_of _ hts (rp_ws_good hMF) rfl rfl rfl (hts _ hMF.2.1) (hts _ hw1) hMF.2.2.2.2.1 ⟨r1, r2⟩, hts _ hw2⟩ ⟨rp_blind, fun U hu hW => ⟨rfl, hU U hu hW⟩⟩ rfl hn hsz hstm hroom hd ⟨g4, g5⟩)
    · obtain ⟨host, hns⟩ := rp_nsct q hq (Or.inl q4)
      unfold rp_ctb at q5
      rw [q4] at q5
      simp only [Bool.and_eq_true, decide_eq_true_eq] at q5
      obtain ⟨w2, w4⟩ := q5
      have hw2 := rp_gt_of _ w2 rfl
      rw [q3] at hw2 w4
      have hMF := rp_MFs i.1 w4
      have hM := rp_met hs hb2 w4 g2 hrun
      have hnw := hEP.2.2.2.2.2.2.1 _ (List.mem_of_getElem? hns)
      rw [q1, q2, q3] at hnw
      exact fin (va_runSN (As := vs.map (rp_vm (rp_ph b base adK))) ⟨hx, hb, hml, hown, hts⟩ hM ⟨va_cnB _ hts (rp_ws_good hMF) rfl rfl rfl hnw (hts _ hMF.2.1) hMF.2.2.2.2.1 ⟨r1, r2⟩, hts _ hw2, trivial⟩ ⟨rp_blind, fun U hu hW => ⟨rfl, hU U hu hW⟩⟩ rfl hn hsz hstm hroom hd ⟨g4, g5⟩)
  next x =>
    simp only [rp_okE, h5, cond_false, Bool.and_eq_true, Nat.beq_eq] at hok
    obtain ⟨rfl, o1, o2, o3⟩ := hok
    obtain ⟨q, hq, q1, q2, q3, q4, q5⟩ := rp_hasC_of o1
    simp only [Bool.or_eq_true, Nat.beq_eq] at q4
    simp only [rp_rok, Bool.and_eq_true] at o2
    have r1 := Nat.le_trans (Nat.le_of_ble_eq_true o2.1) hR1
    have r2 := Nat.le_trans (Nat.le_of_ble_eq_true o2.2) hR2
    obtain ⟨a0, fs, As, rfl, hcell⟩ := rp_recv_obj (fun _ h => by cases h) hrc
    · have hn : (As.map (rp_vm (rp_ph b base adK))).length = (rp_mq.getD i.1 (0, 0, 0, 0)).2.2.2 := by
        rw [List.length_map]
        simp only [List.length_cons] at hlv
        omega
      have hstk : (F0 m pc lsr (st.map (rp_vm (rp_ph b base adK)))).stack = (As.map (rp_vm (rp_ph b base adK))).reverse ++ .ref (rp_ph b base adK (a0 + 1)) :: (st.drop i.2.1).map (rp_vm (rp_ph b base adK)) := by
        show st.map _ = _
        rw [hstm, List.map_cons, List.reverse_cons, List.append_assoc]
        rfl
      rcases q4 with q4 | q4
      · unfold rp_ctb at q5
        rw [q4] at q5
        simp only [Bool.and_eq_true, decide_eq_true_eq] at q5
        obtain ⟨w1, w2, w3, w5, w4⟩ := q5
        have hw1 := rp_gt_of _ w1 rfl
        have hw2 := rp_gt_of _ w2 rfl
        rw [q1, q2, q3] at hw1
        rw [q3] at hw2 w3 w4 w5
        have hMF := rp_MFs i.1 w4
        have hM := rp_met hs hb2 w4 g2 hrun
        have hcb := callB_of (rm := rp_rm i.1) (own := rp_cn (rp_mt j).2.2.2.2.1) (index := x) (R := R) _ hts (rp_ws_good hMF) rfl rfl rfl (hts _ hMF.2.1) (hts _ hw1) hMF.2.2.2.2.1 ⟨r1, r2⟩
        rw [w5] at hcb
        exact fin (va_runI (b := rp_ph b base adK (a0 + 1)) (As := As.map (rp_vm (rp_ph b base adK))) ⟨hx, hb, hml, hown, hts⟩ hM ⟨hcb, w3, hts _ hw2⟩ ⟨rp_blind, fun U hu hW => ⟨rfl, hU U hu hW⟩⟩ rfl hn hsz hstk hroom hd ⟨g4, g5⟩)
      · obtain ⟨host, hns⟩ := rp_nsct q hq (Or.inr q4)
        unfold rp_ctb at q5
        rw [q4] at q5
        simp only [Bool.and_eq_true, decide_eq_true_eq] at q5
        obtain ⟨w2, w3, w5, w4⟩ := q5
        have hw2 := rp_gt_of _ w2 rfl
        rw [q3] at hw2 w3 w4 w5
        have hMF := rp_MFs i.1 w4
        have hM := rp_met hs hb2 w4 g2 hrun
        have hnw := hEP.2.2.2.2.2.2.1 _ (List.mem_of_getElem? hns)
        rw [q1, q2, q3] at hnw
        have hcb := va_cnB (rm := rp_rm i.1) (own := rp_cn (rp_mt j).2.2.2.2.1) (index := x) (R := R) _ hts (rp_ws_good hMF) rfl rfl rfl hnw (hts _ hMF.2.1) hMF.2.2.2.2.1 ⟨r1, r2⟩
        rw [w5] at hcb
        exact fin (va_runIN (b := rp_ph b base adK (a0 + 1)) (As := As.map (rp_vm (rp_ph b base adK))) ⟨hx, hb, hml, hown, hts⟩ hM ⟨hcb, w3, hts _ hw2⟩ ⟨rp_blind, fun U hu hW => ⟨rfl, hU U hu hW⟩⟩ rfl hn hsz hstk hroom hd ⟨g4, g5⟩)
  next => cases hI
set_option maxHeartbeats 4000000 in
theorem rp_simAll (hoks : ∀ j, j < 228 → rp_okM j = true) : ∀ n, rp_Sim l D b base adK adV cI cZ sc n := by
  intro n
  induction n with
  | zero => intro j uc us pc ls st h x hj hrun; cases hrun
  | succ n ih =>
    intro j uc us pc ls st h x hj hrun0 p e R s m args below meth c H locs lsr Q C hL hH hS huc hus K
    have hrun : rp_F rp_mt rp_mi rp_cf rp_tx sc (rp_run rp_mt rp_mi rp_cf rp_tx sc n) (j, uc, us, pc, ls, st, h) = some x := hrun0
    clear hrun0
    unfold rp_F at hrun
    cases hl : rp_lk pc (rp_mi j) with
    | none =>
      have : rp_front rp_mt rp_mi rp_cf rp_tx sc (j, uc, us, pc, ls, st, h) = none := by
        show (match rp_lk pc (rp_mi j) with
          | none => none
          | some (I, n, i) => rp_one rp_mt rp_cf rp_tx sc I n i j uc us pc ls st h) = _
        rw [hl]
      rw [this] at hrun
      cases hrun
    | some w =>
      obtain ⟨I, k, i⟩ := w
      rw [rp_fr hl] at hrun
      have hE := List.all_eq_true.mp (hoks j hj) _ (rp_lk_mem hl)
      simp only [Bool.and_eq_true] at hE
      obtain ⟨hok, hdec⟩ := hE
      have hd : decode (rp_mt j).2.1 pc = .ok (I, k) := of_decide_eq_true hdec
      have C0 := C
      obtain ⟨hx, hb, hml, hown, hts, hmn, ⟨hR1, hR2, hR3, hR4⟩, hEP, hb2, hbs⟩ := C
      have hstr : ∀ k x, k < 12 → rp_si[k]? = some x → ∃ t, vk_R RX1 x t (rp_ph b base adK (1000 + k)) s := by
        intro k x hk hx
        have h4 := hEP.2.2.2.1 k hk
        rw [List.getD_eq_getElem?_getD, hx] at h4
        have e : rp_ph b base adK (1000 + k) = adK k := by
          unfold rp_ph
          rw [if_neg (by omega), if_neg (by omega), show 1000 + k - 1000 = k by omega]
        rw [e]
        exact ⟨_, h4⟩
      unfold rp_one at hrun
      cases hh : rp_isHeap I with
      | true =>
        rw [hh] at hrun
        simp only [cond_true] at hrun
        cases hq : rp_heap sc I i (!i.2.2.2.isEmpty) h st with
        | none => rw [hq] at hrun; cases hrun
        | some q =>
          rw [hq] at hrun
          exact rp_simH hx hb hown hts hmn hEP.1 hEP.2.1 hEP.2.2.1 hb2 hok hd hq hH hS fun H' locs' hH' hS' => ih j uc us _ ls q.2 q.1 x hj hrun p e R s m args below meth c H' locs' lsr Q C0 hL hH' hS' huc hus K
      | false =>
        rw [hh] at hrun
        simp only [cond_false] at hrun
        cases hc : rp_isCall I with
        | true =>
          rw [hc] at hrun
          simp only [cond_true] at hrun
          cases h5 : Nat.ble 5000 i.1 with
          | true =>
            rw [h5] at hrun
            simp only [cond_true] at hrun
            cases hcat : Nat.ble (rp_cat (st.drop i.2.1)) 8 with
            | false => rw [hcat] at hrun; cases hrun
            | true =>
              rw [hcat] at hrun
              simp only [cond_true] at hrun
              cases hq : rp_lib rp_tx i.1 st with
              | none => rw [hq] at hrun; cases hrun
              | some q =>
                rw [hq] at hrun
                exact rp_simL C0 hS (Nat.le_trans huc hR3) (Nat.le_trans hus hR4) hL.1 hok hd hc h5 hcat hq fun locs' hS' => ih j uc us _ ls q h x hj hrun p e R s m args below meth c H locs' lsr Q C0 hL hH hS' huc hus K
          | false =>
            rw [h5] at hrun
            simp only [cond_false] at hrun
            unfold rp_call at hrun
            cases hg : (rp_cg rp_mt i j uc us st && rp_recv I h (rp_mt i.1).2.2.2.2.1 (st.take i.2.1).reverse) with
            | false => rw [hg] at hrun; cases hrun
            | true =>
              rw [hg] at hrun
              simp only [cond_true] at hrun
              simp only [Bool.and_eq_true] at hg
              cases hr : rp_run rp_mt rp_mi rp_cf rp_tx sc n (i.1, 0, 0, 0, rp_en (rp_mt i.1).2.2.1 (st.take i.2.1).reverse, [], h) with
              | none => rw [hr] at hrun; cases hrun
              | some r =>
                rw [hr] at hrun
                have g4 : uc + (rp_mt i.1).2.2.2.2.2.2.2.1 ≤ (rp_mt j).2.2.2.2.2.2.2.1 ∧ us + (rp_mt i.1).2.2.2.2.2.2.2.2 ≤ (rp_mt j).2.2.2.2.2.2.2.2 := by
                  have hg1 := hg.1
                  simp only [rp_cg, Bool.and_eq_true] at hg1
                  exact ⟨Nat.le_of_ble_eq_true hg1.2.2.2.1, Nat.le_of_ble_eq_true hg1.2.2.2.2⟩
                exact rp_simC C0 hH hS hL.1 hok hd hc h5 hg.1 hg.2 ih hr fun H' locs' hH' hS' => ih j _ _ _ ls _ r.2 x hj hrun p e R s m args below meth c H' locs' lsr Q C0 hL hH' hS' g4.1 g4.2 K
        | false =>
          rw [hc] at hrun
          simp only [cond_false] at hrun
          cases hrt : rp_isRet I with
          | true =>
            rw [hrt] at hrun
            simp only [cond_true] at hrun
            cases hq : rp_ret (rp_mt j).2.2.2.1 I st with
            | none => rw [hq] at hrun; cases hrun
            | some q =>
              rw [hq] at hrun
              cases hrun
              have hk1 : k = 1 := by
                revert hok
                revert hrt
                unfold rp_isRet
                split <;> simp [rp_okE]
              exact W.widen huc hus (K pc lsr H locs st I k i hl hd hk1 hq hH hS)
          | false =>
            rw [hrt] at hrun
            simp only [cond_false] at hrun
            cases hmk : rp_isMake I with
            | true =>
              rw [hmk] at hrun
              simp only [cond_true] at hrun
              cases hq : rp_make rp_mt rp_cf I k i j uc us pc ls st h with
              | none => rw [hq] at hrun; cases hrun
              | some q =>
                rw [hq] at hrun
                have hin : ∃ t, q = .inl t := rp_make_inl hq
                obtain ⟨t, rfl⟩ := hin
                refine rp_simM hx hb hown hts hEP.1 hR3 hR4 hok hd hq hH hS hbs fun H' t1 t2 t3 t4 hH' hS' => ?_
                obtain ⟨tj, tuc, tus, tpc, tls, tst, th⟩ := t
                dsimp only at t1 t2
                subst t1 t2
                exact ih tj tuc tus tpc tls tst th x hj hrun p e R s m args below meth c H' locs lsr Q C0 hL hH' hS' t3 t4 K
            | false =>
              rw [hmk] at hrun
              simp only [cond_false] at hrun
              cases hq : rp_pure I k i pc ls st with
              | none => rw [hq] at hrun; cases hrun
              | some q =>
                rw [hq] at hrun
                obtain ⟨q1, q2, q3⟩ := q
                exact rp_simP hx hb hown hts hstr hok hd hq hL fun lsr' hL' => ih j uc us q1 q2 q3 h x hj hrun p e R s m args below meth c H locs lsr' Q C0 hL' hH hS huc hus K
end
end
section
theorem rp_AM (q : Nat) (xs : Nat → Int32) (hq : q ≤ 3584) : ∃ n x, rp_run rp_mt rp_mi rp_cf rp_tx (some (q, xs)) n (227, 0, 0, 0, [.ref 0, rp_U, rp_U, rp_U], [], ([.inr (99, [])], fun _ _ => 0)) = some x ∧ x.1 = some (.int 1) := by
  sorry
end
section
theorem rp_oks : ∀ j, j < 228 → rp_okM j = true := by sorry
end
section
/-! THE CLAIM OUT OF ONE WALK OF THE LAW'S BODY. Your part is whole_start (and what it stands on); all else here is the same for every law, but numbers. -/
def R_law : String := "RailPassesLaw"
def lw_P (b : Addr) (xs : List Int32) (args : Array Value) (s : State) : Prop := args = #[.ref b] ∧ s.IntsAt b xs ∧ xs.length ≤ 3584 ∧ (Jvm.Cond.and given_1 narrow_1).before args s = true
def lw_Q (_ : Array Value) (s : State) (o : Outcome) (t : State) : Prop := o = .returned (some (.int 1)) ∧ Framed s o t [] 600000 7302250
def lw_Z (below : List Frame) (a : Array Value) (s : State) : State → Prop := fun t => ∃ o, t.status = .running ∧ Ended t below o ∧ lw_Q a s o t
/-- the law's own end, with 1 on the stack, nothing written that was there before, its room as the claim has it -/
theorem lw_ret {p : Program} {l : Launch} {e : Env} {s : State} {m : MethodId} {below : List Frame} {meth : Method} {c : Code} {b : Nat} (hx : p.tables.exec = Jvm.exec) (hb : c.code = code) (hr : meth.sig.returnType = ret) (hlocks : meth.locks = false) {pc : Nat} {H : Heap} {ls : Array Slot} (hdg : decode code pc = .ok (.ireturn, 1)) : W p l e room_1 s m #[Value.ref b] below meth c H [] 600000 7302250 (lw_Z below #[Value.ref b] s) (F0 m pc ls [.int 1]) := by
  intro T hT X
  obtain ⟨fs, hret, hrun, hended, hW, hframe⟩ := X.leave (v := some (.int 1)) (hlocks := hlocks) (fun h => by rw [hr] at h; cases h)
  have hmeth' : T.vm.method? m = some meth := X.method'
  refine ⟨T.setFrames fs, ?_, .returned (some (.int 1)), hrun, hended, rfl, ⟨_, rfl⟩, hW, hframe⟩
  jvm_step X.here [X.here.top, hx, hb, hdg, hmeth', hr, ret, narrow_b1]
  (try refine ⟨rfl, ?_⟩); (try refine ⟨rfl, ?_⟩)
  first | (intro acts; rw [hret _ acts rfl rfl rfl]) | rw [hret _ _ rfl rfl rfl]
  exact Steps.refl _
/-- what holds at the law's entry: the machine, the code, the tables' words (any of lw_tbl by 'hts w (by decide +kernel)'), the script of L ints xs at the cell b, what the Statement gives of the start (any of its parts by flat_of_before) -/
def lw_At (p : Program) (s : State) (m : MethodId) (meth : Method) (c : Code) (b L : Nat) (xs : Nat → Int32) : Prop :=
  p.tables.exec = Jvm.exec ∧ c.code = code ∧ meth.sig.returnType = ret ∧ c.maxLocals = 4 ∧ s.vm.findClass R_law = some m.cls ∧ (∀ w ∈ lw_tbl, w.before #[Value.ref b] s = true) ∧ va_X b L xs s s.heap ∧ b < s.heap.size ∧ meth.locks = false ∧ (Jvm.Cond.and given_1 narrow_1).before #[Value.ref b] s = true
theorem rp_strs_ref : ∀ k, k < 12 → lw_tbl[([451, 452, 453, 454, 455, 456, 457, 458, 459, 460, 529, 549] : List Nat).getD k 0]? = some (.stringRef RX1 (rp_si.getD k 0) (rp_sn.getD k "")) := by decide +kernel
abbrev rp_tm (k : Nat) : Term := .string RX1 (rp_si.getD k 0)
theorem rp_fl1 : ∀ k, k < 12 → Cond.exactly (rp_tm k) "java/lang/String" ∈ flatC (Jvm.Cond.and given_1 narrow_1) := by decide +kernel
theorem rp_fl2 : ∀ k, k < 12 → Cond.eq (.field (rp_tm k) "java/lang/String" "coder" "B") (.int 0) ∈ flatC (Jvm.Cond.and given_1 narrow_1) := by decide +kernel
theorem rp_fl3 : ∀ k, k < 12 → Cond.arrayOf (.field (rp_tm k) "java/lang/String" "value" "[B") .byte ∈ flatC (Jvm.Cond.and given_1 narrow_1) := by decide +kernel
theorem rp_fl4 : ∀ k, k < 12 → Cond.eq (.length (.field (rp_tm k) "java/lang/String" "value" "[B")) (.int (Int32.ofNat (rp_sl.getD k 0))) ∈ flatC (Jvm.Cond.and given_1 narrow_1) := by decide +kernel
theorem rp_fl5 : ∀ k, k < 12 → ∀ j, j < rp_sl.getD k 0 → Cond.eq (.elem (.field (rp_tm k) "java/lang/String" "value" "[B") (.int (Int32.ofNat j))) (.int ((rp_txl.getD k []).getD j 0)) ∈ flatC (Jvm.Cond.and given_1 narrow_1) := by decide +kernel
theorem rp_fl6 : ∀ i, i < 12 → ∀ j, j < 12 → i ≠ j → Cond.not (Cond.eq (rp_tm i) (rp_tm j)) ∈ flatC (Jvm.Cond.and given_1 narrow_1) ∨ Cond.not (Cond.eq (rp_tm j) (rp_tm i)) ∈ flatC (Jvm.Cond.and given_1 narrow_1) := by decide +kernel
set_option maxHeartbeats 4000000 in
set_option maxRecDepth 100000 in
/-- THE LAW, from its entry: the small machine's run is the real one's -/
theorem whole_start {p : Program} {e : Env} {s : State} {m : MethodId} {below : List Frame} {meth : Method} {c : Code} (l : Launch) {b L : Nat} {xs : Nat → Int32} (hL : L ≤ 3584) (C0 : lw_At p s m meth c b L xs) : W p l e room_1 s m #[Value.ref b] below meth c s.heap [] 0 0 (lw_Z below #[Value.ref b] s) (entryFrame m ([Value.ref b] : List Value).toArray 4) := by
  obtain ⟨hx, hb, hr, hml, hown, hts, hX, hbl, hlocks, hgv⟩ := C0
  have htg : ∀ w ∈ rp_gt, w.before #[Value.ref b] s = true := fun w hw => hts w (rp_gt_in hw)
  have hfl := flat_of_before _ hgv
  have hA : ∀ a : Nat, a < s.heap.size → ¬ (fun q : Nat => s.heap.size ≤ q) a := fun a ha => Nat.not_le.mpr ha
  obtain ⟨adK, adV, hVS, hev⟩ := vk_Sof (args := #[Value.ref b]) (N := 12) (tm := rp_tm) (len := rp_sl) (byt := rp_txl) (A := fun q => s.heap.size ≤ q) (by decide +kernel) (fun i hi => hfl _ (rp_fl1 i hi)) (fun i hi => hfl _ (rp_fl2 i hi)) (fun i hi => hfl _ (rp_fl3 i hi)) (fun i hi => hfl _ (rp_fl4 i hi)) (fun i hi j hj => hfl _ (rp_fl5 i hi j hj)) (fun i j hi hj hne => (rp_fl6 i hi j hj hne).imp (hfl _) (hfl _)) hA
  have hKn : ∀ ci : Nat, ∃ q : ClassId × (Nat → Nat), ci < 9 → u_Kn s (rp_cn ci) (rp_TT ci) (rp_NN ci) q.1 q.2 := by
    intro ci
    by_cases h : ci < 9
    · obtain ⟨_, c2, _, _, _, c6, _⟩ := rp_CFs ci h
      obtain ⟨cC, iS, hk⟩ := u_known (C := rp_cn ci) (T := rp_TT ci) (N := rp_NN ci) (n := rp_NN ci) htg c2 (htg _ c6)
      exact ⟨(cC, iS), fun _ => hk⟩
    · exact ⟨(0, fun _ => 0), fun q => absurd q h⟩
  obtain ⟨f, hf⟩ := Classical.axiomOfChoice hKn
  obtain ⟨cI, kI, pI, i1, i2, i3⟩ := Cond.arrayClass_spec (htg _ rp_arrI)
  obtain ⟨cZ, kZ, pZ, z1, z2, z3⟩ := Cond.arrayClass_spec (htg _ rp_arrZ)
  have hK : va_K (fun k => (f k).1, fun k => (f k).2) rp_cls [(cI, .int), (cZ, .boolean)] s := by
    refine ⟨fun ci q hq => ?_, fun k q hq => ?_⟩
    · have hlt : ci < 9 := (List.getElem?_eq_some_iff.mp hq).1
      have e := (rp_CFs ci hlt).1
      rw [e] at hq
      cases hq
      exact hf ci hlt
    · match k, hq with
      | 0, hq => cases hq; exact ⟨fun n z => ⟨fun k h => (by cases h), kI, i2, pI, i3⟩, i1⟩
      | 1, hq => cases hq; exact ⟨fun n z => ⟨fun k h => (by cases h), kZ, z2, pZ, z3⟩, z1⟩
      | k + 2, hq => simp at hq
  have hE : rp_EP (fun k => (f k).1, fun k => (f k).2) b s.heap.size adK adV cI cZ (some (L, xs)) s := by
    refine ⟨hK, fun q ys e => ?_, hbl, fun k hk => vk_R.of (A := #[Value.ref b]) (hts _ (List.mem_of_getElem? (rp_strs_ref k hk))) (hev k hk), hVS, va_Zof (hts _ (List.mem_of_getElem? (i := 474) (by decide +kernel))) (htg _ (rp_jin 89 (by decide +kernel) rfl)) (va_eqt (hfl _ (by decide +kernel))) hA, fun q hq => va_Nw.of rfl (hts _ (rp_ns_ok q hq)), va_Zqof (hts _ (List.mem_of_getElem? (i := 490) (by decide +kernel))) (htg _ (rp_jin 91 (by decide +kernel) rfl)) (hfl _ (by decide +kernel)) hA⟩
    cases e
    exact hX
  obtain ⟨n, x, hrun, hx1⟩ := rp_AM L xs hL
  rw [lg_entry_eq]
  refine rp_simAll rp_oks n 227 0 0 0 _ [] _ x (by decide) hrun p e room_1 s m _ below meth c s.heap [] _ _ ⟨hx, hb, hml, hown, htg, fun h => absurd h (by decide +kernel), ⟨Nat.le_refl _, Nat.le_refl _, Nat.le_refl _, Nat.le_refl _⟩, hE, hbl, Nat.le_refl _⟩ (rp_RL_entry (rp_ph b s.heap.size adK) [.ref 0] (n := 4) (by decide)) ⟨rfl, by decide, rfl, fun k q h => by simp [rp_wd] at h⟩ va_S.rf (Nat.zero_le _) (Nat.zero_le _) ?_
  intro pc' lsr' H' locs' st' I n' i' hl hd hn1 hret hH' hS'
  subst hn1
  rw [hx1] at hret
  unfold rp_ret at hret
  split at hret
  next =>
    split at hret
    next v =>
      replace hret : (bif decide (v &&& 1 = v) then some (some (Value.int v)) else none) = some (some (Value.int 1)) := hret
      cases hz : decide (v &&& 1 = v) with
      | false => rw [hz] at hret; cases hret
      | true =>
        rw [hz] at hret
        cases hret
        exact va_forget (fun q hq => hS'.2.2 q hq) (lw_ret hx hb hr hlocks hd)
    next => cases hret
  next =>
    split at hret
    next => cases hret
    next => cases hret
  next =>
    split at hret
    next => cases hret
    next => cases hret
  next => cases hret
end
section
set_option maxHeartbeats 4000000 in
theorem lw_walk (l : Launch) (b : Addr) (xs : List Int32) : MetFree l x (headSpec (Jvm.Cond.code x code maxLocals ret :: tables_1) room_1) (lw_P b xs) (fun _ _ _ _ _ => True) lw_Q := by
  refine MetFree.of_bodyS (code := code) (maxLocals := maxLocals) (ret := ret) (by decide) ?_ ?_
  · intro args s m h hn
    obtain ⟨meth, c, h1, h2, h3, h4, h5, h6, -, -⟩ := Cond.code_spec hn (atoms_spec (ws := Jvm.Cond.code x code maxLocals ret :: tables_1) h _ List.mem_cons_self)
    exact ⟨meth, c, h1, h2, h3, h4, h5, h6⟩
  · intro p e s m args below meth c s₁ B hml0 hP _
    obtain ⟨rfl, hx, hbd, hgv⟩ := hP
    obtain ⟨scr, harrAt, hlist, hof, hsmall⟩ := hx
    obtain ⟨hcb, hkn, -, -⟩ := State.arrayAt?_spec harrAt
    have hown : s.vm.findClass R_law = some m.cls := findClass_of_methodNamed B.named
    have hts0 : ∀ c ∈ (Jvm.Cond.code x code maxLocals ret :: tables_1), c.before #[Value.ref b] s = true := atoms_spec (ws := Jvm.Cond.code x code maxLocals ret :: tables_1) B.pre
    have hts : ∀ w ∈ lw_tbl, w.before #[Value.ref b] s = true := k2_hts_sels lw_privs (fun w hw => hts0 w (List.mem_cons_of_mem _ hw)) lw_privs_ok
    have hml : c.maxLocals = 4 := B.maxLocals_eq (hts0 _ List.mem_cons_self)
    have X₀ : Stand p l e room_1 s m #[Value.ref b] below meth c s₁ [] 0 0 := Stand.of_body B
    have hh0 : s₁.heap = s.heap := by rw [B.state]; rfl
    have hsz : scr.slots.size = xs.length := by rw [← Array.length_toList, hlist, List.length_map]
    have hval : ∀ j : Nat, j < xs.length → scr.slots[j]? = some (.int (xs.getD j 0)) := fun j hj => by
      rw [← Array.getElem?_toList, hlist]
      simp [hj]
    have hbl : b < s.heap.size := (Array.getElem?_eq_some_iff.mp hcb).1
    have hX : va_X b xs.length (fun j => xs.getD j 0) s s.heap := ⟨scr, hcb, hof, hkn, hsz, hval⟩
    have K : W p l e room_1 s m #[Value.ref b] below meth c s₁.heap [] 0 0 (lw_Z below #[Value.ref b] s) (entryFrame m ([Value.ref b] : List Value).toArray 4) := by
      rw [hh0]
      exact whole_start l hbd ⟨B.exec, B.bytes, B.returns, hml, hown, hts, hX, hbl, B.notSynchronized, hgv⟩
    obtain ⟨t, a1, o, b1, b2, b3⟩ := K s₁ rfl X₀
    exact ⟨t, o, a1, b1, b2, b3⟩
theorem lw_pre_spec {args : Array Value} {s : State} (h : (Jvm.Cond.and given_1 narrow_1).before args s = true) (hr : rest_1_c.before args s = true) : ∃ (b : Addr) (xs : List Int32), lw_P b xs args s := by
  have hs := flat_of_before _ h
  have hq := flat_of_before _ hr
  have hc : (Cond.count 1).before args s = true := hs _ (by decide +kernel)
  have harr : (Cond.arrayOf (.arg 0) .int).before args s = true := hs _ (by decide +kernel)
  have hle : (Cond.le (.length (.arg 0)) (.int 3584)).before args s = true := hs _ (by decide +kernel)
  have hlen : (Cond.isInt (.length (.arg 0))).before args s = true := hq _ (by decide +kernel)
  have hall : (Cond.all (.arg 0) (.isInt (.elem (.arg 0) (.index 0)))).before args s = true := hq _ (by decide +kernel)
  obtain ⟨b, xs, hb, hx⟩ := State.ints_of_pre rfl harr hlen hall
  have hsm : xs.length < 2 ^ 31 := hx.choose_spec.2.2.2
  have hev : (Term.length (.arg 0)).eval args s none [] s = some (.int xs.length.toInt32) := hx.length_eval hb
  have hv := Cond.le_ints hev (show (Term.int 3584).eval args s none [] s = some (.int 3584) from rfl)
  have hd : xs.length.toInt32 ≤ 3584 := by
    simpa [Cond.before, Cond.holds, hv] using hle
  have hN : xs.length ≤ 3584 := (Int32.ofNat_le_ofNat hsm (by decide)).mp (show Int32.ofNat xs.length ≤ Int32.ofNat 3584 from hd)
  exact ⟨b, xs, Cond.one_arg hc (show args[0]? = some (.ref b) from hb), hx, hN, h⟩
theorem lw_comes (l : Launch) : Comes l x (Jvm.Cond.code x code maxLocals ret :: tables_1) room_1 (fun tb e args s => Calls_1 tb e args s ∧ rest_1 tb e args s ∧ Pre_1 tb e args s)
    (fun _ _ args s o t => lw_Q args s o t) := by
  intro p e ha hc hk s m args below hf hfit hheap happ hpre
  obtain ⟨b, xs, hP⟩ := lw_pre_spec hpre.2.2 hpre.2.1
  obtain ⟨k, o, h1, h2, h3, hQ⟩ := lw_walk l b xs p e ha hc hk s m args below hf ((Spec.applies_iff_loose hf).mp happ).1 hP trivial
  exact ⟨k, o, h1, h2, h3, hQ⟩
theorem lw_frame {s t : State} {o : Outcome} {args : Array Value} (h : Framed s o t [] 600000 7302250) :
    Framed s o t (fieldLocs frame_1_writes args s ++ arrayLocs frame_1_arrays args s ++ staticLocs frame_1_statics s) 600000 7302250 := h
theorem lw_limb (L : Cond) (hL : ∀ (args : Array Value) (s t : State), L.after args s (.returned (some (.int 1))) t = true) :
    ArmFor flags0 classFile x code maxLocals ret World_1 tables_1 room_1 Calls_1 rest_1 Pre_1
      (fun tb e a s o t => postC L tb e a s o t ∧ Framed s o t (fieldLocs frame_1_writes a s ++ arrayLocs frame_1_arrays a s ++ staticLocs frame_1_statics s) 600000 7302250) := by
  intro l _ _ _ p e ha hc hk s m args below hf hfit hheap happ hpre
  obtain ⟨k, o, h1, h2, h3, rfl, hF⟩ := lw_comes l p e ha hc hk s m args below hf hfit hheap happ hpre
  exact ⟨k, _, h1, h2, h3, hL args s _, lw_frame hF⟩
theorem i_vc : Claimed_1_1 ∧ Claimed_1_2 := ⟨lw_limb limb_1_1 (fun args s t => by simp [limb_1_1, Cond.after, Cond.holds, Cond.value]), lw_limb limb_1_2 (fun args s t => Cond.after_iff.mpr (by
  first | (rw [show limb_1_2 = Cond.eq .result (.int 1) from rfl, Cond.eq_ints (x := 1) (y := 1) rfl rfl]; simp; done) | (simp [limb_1_2, Cond.value, Term.eval]; done)))⟩
end
